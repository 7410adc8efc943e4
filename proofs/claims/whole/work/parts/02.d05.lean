theorem dX10_copy_5 : decode cX10_copy 5 = .ok (.putfield 18, 3) := by decide +kernel
theorem dX10_copy_8 : decode cX10_copy 8 = .ok (.aload_n 1, 1) := by decide +kernel
theorem dX10_copy_9 : decode cX10_copy 9 = .ok (.getfield 9, 3) := by decide +kernel
theorem dX10_copy_12 : decode cX10_copy 12 = .ok (.iconst 0, 1) := by decide +kernel
theorem dX10_copy_13 : decode cX10_copy 13 = .ok (.aload_n 0, 1) := by decide +kernel
theorem dX10_copy_14 : decode cX10_copy 14 = .ok (.getfield 9, 3) := by decide +kernel
theorem dX10_copy_17 : decode cX10_copy 17 = .ok (.iconst 0, 1) := by decide +kernel
theorem dX10_copy_18 : decode cX10_copy 18 = .ok (.aload_n 1, 1) := by decide +kernel
theorem dX10_copy_19 : decode cX10_copy 19 = .ok (.getfield 18, 3) := by decide +kernel
theorem dX10_copy_22 : decode cX10_copy 22 = .ok (.invokestatic 22, 3) := by decide +kernel
theorem dX10_copy_25 : decode cX10_copy 25 = .ok (.aload_n 1, 1) := by decide +kernel
theorem dX10_copy_26 : decode cX10_copy 26 = .ok (.getfield 15, 3) := by decide +kernel
theorem dX10_copy_29 : decode cX10_copy 29 = .ok (.iconst 0, 1) := by decide +kernel
theorem dX10_copy_30 : decode cX10_copy 30 = .ok (.aload_n 0, 1) := by decide +kernel
theorem dX10_copy_31 : decode cX10_copy 31 = .ok (.getfield 15, 3) := by decide +kernel
theorem dX10_copy_34 : decode cX10_copy 34 = .ok (.iconst 0, 1) := by decide +kernel
theorem dX10_copy_35 : decode cX10_copy 35 = .ok (.aload_n 1, 1) := by decide +kernel
theorem dX10_copy_36 : decode cX10_copy 36 = .ok (.getfield 18, 3) := by decide +kernel
theorem dX10_copy_39 : decode cX10_copy 39 = .ok (.invokestatic 22, 3) := by decide +kernel
theorem dX10_copy_42 : decode cX10_copy 42 = .ok (.return_, 1) := by decide +kernel
theorem dX10_symbolOrSize_0 : decode cX10_symbolOrSize 0 = .ok (.iload_n 1, 1) := by decide +kernel
theorem dX10_symbolOrSize_1 : decode cX10_symbolOrSize 1 = .ok (.bipush (-9), 2) := by decide +kernel
theorem dX10_symbolOrSize_3 : decode cX10_symbolOrSize 3 = .ok (.if_icmp .ne 8, 3) := by decide +kernel
theorem dX10_symbolOrSize_6 : decode cX10_symbolOrSize 6 = .ok (.aload_n 0, 1) := by decide +kernel
theorem dX10_symbolOrSize_7 : decode cX10_symbolOrSize 7 = .ok (.getfield 18, 3) := by decide +kernel
theorem dX10_symbolOrSize_10 : decode cX10_symbolOrSize 10 = .ok (.ireturn, 1) := by decide +kernel
theorem dX10_symbolOrSize_11 : decode cX10_symbolOrSize 11 = .ok (.iload_n 1, 1) := by decide +kernel
theorem dX10_symbolOrSize_12 : decode cX10_symbolOrSize 12 = .ok (.ifCond .lt 20, 3) := by decide +kernel
theorem dX10_symbolOrSize_15 : decode cX10_symbolOrSize 15 = .ok (.iload_n 1, 1) := by decide +kernel
theorem dX10_symbolOrSize_16 : decode cX10_symbolOrSize 16 = .ok (.aload_n 0, 1) := by decide +kernel
theorem dX10_symbolOrSize_17 : decode cX10_symbolOrSize 17 = .ok (.getfield 18, 3) := by decide +kernel
theorem dX10_symbolOrSize_20 : decode cX10_symbolOrSize 20 = .ok (.if_icmp .ge 12, 3) := by decide +kernel
theorem dX10_symbolOrSize_23 : decode cX10_symbolOrSize 23 = .ok (.aload_n 0, 1) := by decide +kernel
theorem dX10_symbolOrSize_24 : decode cX10_symbolOrSize 24 = .ok (.getfield 9, 3) := by decide +kernel
theorem dX10_symbolOrSize_27 : decode cX10_symbolOrSize 27 = .ok (.iload_n 1, 1) := by decide +kernel
theorem dX10_symbolOrSize_28 : decode cX10_symbolOrSize 28 = .ok (.iaload, 1) := by decide +kernel
theorem dX10_symbolOrSize_29 : decode cX10_symbolOrSize 29 = .ok (.goto 5, 3) := by decide +kernel
theorem dX10_symbolOrSize_32 : decode cX10_symbolOrSize 32 = .ok (.bipush (-9), 2) := by decide +kernel
theorem dX10_symbolOrSize_34 : decode cX10_symbolOrSize 34 = .ok (.ireturn, 1) := by decide +kernel
theorem dX10_isSame_0 : decode cX10_isSame 0 = .ok (.aload_n 0, 1) := by decide +kernel
theorem dX10_isSame_1 : decode cX10_isSame 1 = .ok (.getfield 18, 3) := by decide +kernel
theorem dX10_isSame_4 : decode cX10_isSame 4 = .ok (.aload_n 1, 1) := by decide +kernel
theorem dX10_isSame_5 : decode cX10_isSame 5 = .ok (.getfield 18, 3) := by decide +kernel
theorem dX10_isSame_8 : decode cX10_isSame 8 = .ok (.if_icmp .ne 17, 3) := by decide +kernel
theorem dX10_isSame_11 : decode cX10_isSame 11 = .ok (.aload_n 0, 1) := by decide +kernel
theorem dX10_isSame_12 : decode cX10_isSame 12 = .ok (.iconst 0, 1) := by decide +kernel
theorem dX10_isSame_13 : decode cX10_isSame 13 = .ok (.aload_n 1, 1) := by decide +kernel
theorem dX10_isSame_14 : decode cX10_isSame 14 = .ok (.iconst 0, 1) := by decide +kernel
theorem dX10_isSame_15 : decode cX10_isSame 15 = .ok (.invokevirtual 28, 3) := by decide +kernel
theorem dX10_isSame_18 : decode cX10_isSame 18 = .ok (.ifCond .eq 7, 3) := by decide +kernel
theorem dX10_isSame_21 : decode cX10_isSame 21 = .ok (.iconst 1, 1) := by decide +kernel
theorem dX10_isSame_22 : decode cX10_isSame 22 = .ok (.goto 4, 3) := by decide +kernel
theorem dX10_isSame_25 : decode cX10_isSame 25 = .ok (.iconst 0, 1) := by decide +kernel
theorem dX10_isSame_26 : decode cX10_isSame 26 = .ok (.ireturn, 1) := by decide +kernel
theorem dX10_isSameAt_0 : decode cX10_isSameAt 0 = .ok (.iload_n 1, 1) := by decide +kernel
theorem dX10_isSameAt_1 : decode cX10_isSameAt 1 = .ok (.ifCond .lt 23, 3) := by decide +kernel
theorem dX10_isSameAt_4 : decode cX10_isSameAt 4 = .ok (.iload_n 1, 1) := by decide +kernel
theorem dX10_isSameAt_5 : decode cX10_isSameAt 5 = .ok (.aload_n 0, 1) := by decide +kernel
theorem dX10_isSameAt_6 : decode cX10_isSameAt 6 = .ok (.getfield 18, 3) := by decide +kernel
theorem dX10_isSameAt_9 : decode cX10_isSameAt 9 = .ok (.if_icmp .ge 15, 3) := by decide +kernel
theorem dX10_isSameAt_12 : decode cX10_isSameAt 12 = .ok (.iload_n 3, 1) := by decide +kernel
theorem dX10_isSameAt_13 : decode cX10_isSameAt 13 = .ok (.ifCond .lt 11, 3) := by decide +kernel
theorem dX10_isSameAt_16 : decode cX10_isSameAt 16 = .ok (.iload_n 3, 1) := by decide +kernel
theorem dX10_isSameAt_17 : decode cX10_isSameAt 17 = .ok (.aload_n 2, 1) := by decide +kernel
theorem dX10_isSameAt_18 : decode cX10_isSameAt 18 = .ok (.getfield 18, 3) := by decide +kernel
theorem dX10_isSameAt_21 : decode cX10_isSameAt 21 = .ok (.if_icmp .lt 5, 3) := by decide +kernel
theorem dX10_isSameAt_24 : decode cX10_isSameAt 24 = .ok (.iconst 0, 1) := by decide +kernel
theorem dX10_isSameAt_25 : decode cX10_isSameAt 25 = .ok (.ireturn, 1) := by decide +kernel
theorem dX10_isSameAt_26 : decode cX10_isSameAt 26 = .ok (.aload_n 0, 1) := by decide +kernel
theorem dX10_isSameAt_27 : decode cX10_isSameAt 27 = .ok (.getfield 15, 3) := by decide +kernel
theorem dX10_isSameAt_30 : decode cX10_isSameAt 30 = .ok (.iload_n 1, 1) := by decide +kernel
theorem dX10_isSameAt_31 : decode cX10_isSameAt 31 = .ok (.iaload, 1) := by decide +kernel
theorem dX10_isSameAt_32 : decode cX10_isSameAt 32 = .ok (.iload_n 1, 1) := by decide +kernel
theorem dX10_isSameAt_33 : decode cX10_isSameAt 33 = .ok (.isub, 1) := by decide +kernel
theorem dX10_isSameAt_34 : decode cX10_isSameAt 34 = .ok (.istore 4, 2) := by decide +kernel
theorem dX10_isSameAt_36 : decode cX10_isSameAt 36 = .ok (.aload_n 2, 1) := by decide +kernel
theorem dX10_isSameAt_37 : decode cX10_isSameAt 37 = .ok (.getfield 15, 3) := by decide +kernel
theorem dX10_isSameAt_40 : decode cX10_isSameAt 40 = .ok (.iload_n 3, 1) := by decide +kernel
theorem dX10_isSameAt_41 : decode cX10_isSameAt 41 = .ok (.iaload, 1) := by decide +kernel
theorem dX10_isSameAt_42 : decode cX10_isSameAt 42 = .ok (.iload_n 3, 1) := by decide +kernel
theorem dX10_isSameAt_43 : decode cX10_isSameAt 43 = .ok (.isub, 1) := by decide +kernel
theorem dX10_isSameAt_44 : decode cX10_isSameAt 44 = .ok (.iload 4, 2) := by decide +kernel
theorem dX10_isSameAt_46 : decode cX10_isSameAt 46 = .ok (.if_icmp .eq 5, 3) := by decide +kernel
theorem dX10_isSameAt_49 : decode cX10_isSameAt 49 = .ok (.iconst 0, 1) := by decide +kernel
theorem dX10_isSameAt_50 : decode cX10_isSameAt 50 = .ok (.ireturn, 1) := by decide +kernel
theorem dX10_isSameAt_51 : decode cX10_isSameAt 51 = .ok (.iconst 0, 1) := by decide +kernel
theorem dX10_isSameAt_52 : decode cX10_isSameAt 52 = .ok (.istore 5, 2) := by decide +kernel
theorem dX10_isSameAt_54 : decode cX10_isSameAt 54 = .ok (.iload 5, 2) := by decide +kernel
theorem dX10_isSameAt_56 : decode cX10_isSameAt 56 = .ok (.iload 4, 2) := by decide +kernel
theorem dX10_isSameAt_58 : decode cX10_isSameAt 58 = .ok (.if_icmp .ge 32, 3) := by decide +kernel
theorem dX10_isSameAt_61 : decode cX10_isSameAt 61 = .ok (.aload_n 0, 1) := by decide +kernel
theorem dX10_isSameAt_62 : decode cX10_isSameAt 62 = .ok (.getfield 9, 3) := by decide +kernel
theorem dX10_isSameAt_65 : decode cX10_isSameAt 65 = .ok (.iload_n 1, 1) := by decide +kernel
theorem dX10_isSameAt_66 : decode cX10_isSameAt 66 = .ok (.iload 5, 2) := by decide +kernel
theorem dX10_isSameAt_68 : decode cX10_isSameAt 68 = .ok (.iadd, 1) := by decide +kernel
theorem dX10_isSameAt_69 : decode cX10_isSameAt 69 = .ok (.iaload, 1) := by decide +kernel
theorem dX10_isSameAt_70 : decode cX10_isSameAt 70 = .ok (.aload_n 2, 1) := by decide +kernel
theorem dX10_isSameAt_71 : decode cX10_isSameAt 71 = .ok (.getfield 9, 3) := by decide +kernel
theorem dX10_isSameAt_74 : decode cX10_isSameAt 74 = .ok (.iload_n 3, 1) := by decide +kernel
theorem dX10_isSameAt_75 : decode cX10_isSameAt 75 = .ok (.iload 5, 2) := by decide +kernel
theorem dX10_isSameAt_77 : decode cX10_isSameAt 77 = .ok (.iadd, 1) := by decide +kernel
theorem dX10_isSameAt_78 : decode cX10_isSameAt 78 = .ok (.iaload, 1) := by decide +kernel
theorem dX10_isSameAt_79 : decode cX10_isSameAt 79 = .ok (.if_icmp .eq 5, 3) := by decide +kernel
theorem dX10_isSameAt_82 : decode cX10_isSameAt 82 = .ok (.iconst 0, 1) := by decide +kernel
theorem dX10_isSameAt_83 : decode cX10_isSameAt 83 = .ok (.ireturn, 1) := by decide +kernel
theorem dX10_isSameAt_84 : decode cX10_isSameAt 84 = .ok (.iinc 5 1, 3) := by decide +kernel
theorem dX10_isSameAt_87 : decode cX10_isSameAt 87 = .ok (.goto (-33), 3) := by decide +kernel
theorem dX10_isSameAt_90 : decode cX10_isSameAt 90 = .ok (.iconst 1, 1) := by decide +kernel
theorem dX10_isSameAt_91 : decode cX10_isSameAt 91 = .ok (.ireturn, 1) := by decide +kernel
theorem dX10_has_0 : decode cX10_has 0 = .ok (.iconst 0, 1) := by decide +kernel
theorem dX10_has_1 : decode cX10_has 1 = .ok (.istore_n 2, 1) := by decide +kernel
theorem dX10_has_2 : decode cX10_has 2 = .ok (.iload_n 2, 1) := by decide +kernel
theorem dX10_has_3 : decode cX10_has 3 = .ok (.aload_n 0, 1) := by decide +kernel
theorem dX10_has_4 : decode cX10_has 4 = .ok (.getfield 18, 3) := by decide +kernel
theorem dX10_has_7 : decode cX10_has 7 = .ok (.if_icmp .ge 21, 3) := by decide +kernel
theorem dX10_has_10 : decode cX10_has 10 = .ok (.aload_n 0, 1) := by decide +kernel
theorem dX10_has_11 : decode cX10_has 11 = .ok (.getfield 9, 3) := by decide +kernel
theorem dX10_has_14 : decode cX10_has 14 = .ok (.iload_n 2, 1) := by decide +kernel
theorem dX10_has_15 : decode cX10_has 15 = .ok (.iaload, 1) := by decide +kernel
theorem dX10_has_16 : decode cX10_has 16 = .ok (.iload_n 1, 1) := by decide +kernel
theorem dX10_has_17 : decode cX10_has 17 = .ok (.if_icmp .ne 5, 3) := by decide +kernel
theorem dX10_has_20 : decode cX10_has 20 = .ok (.iconst 1, 1) := by decide +kernel
theorem dX10_has_21 : decode cX10_has 21 = .ok (.ireturn, 1) := by decide +kernel
theorem dX10_has_22 : decode cX10_has 22 = .ok (.iinc 2 1, 3) := by decide +kernel
theorem dX10_has_25 : decode cX10_has 25 = .ok (.goto (-23), 3) := by decide +kernel
theorem dX10_has_28 : decode cX10_has 28 = .ok (.iconst 0, 1) := by decide +kernel
theorem dX10_has_29 : decode cX10_has 29 = .ok (.ireturn, 1) := by decide +kernel
theorem dX10_hasSubterm_0 : decode cX10_hasSubterm 0 = .ok (.iconst 0, 1) := by decide +kernel
theorem dX10_hasSubterm_1 : decode cX10_hasSubterm 1 = .ok (.istore_n 3, 1) := by decide +kernel
theorem dX10_hasSubterm_2 : decode cX10_hasSubterm 2 = .ok (.iload_n 3, 1) := by decide +kernel
theorem dX10_hasSubterm_3 : decode cX10_hasSubterm 3 = .ok (.aload_n 0, 1) := by decide +kernel
theorem dX10_hasSubterm_4 : decode cX10_hasSubterm 4 = .ok (.getfield 18, 3) := by decide +kernel
theorem dX10_hasSubterm_7 : decode cX10_hasSubterm 7 = .ok (.if_icmp .ge 21, 3) := by decide +kernel
theorem dX10_hasSubterm_10 : decode cX10_hasSubterm 10 = .ok (.aload_n 0, 1) := by decide +kernel
theorem dX10_hasSubterm_11 : decode cX10_hasSubterm 11 = .ok (.iload_n 3, 1) := by decide +kernel
theorem dX10_hasSubterm_12 : decode cX10_hasSubterm 12 = .ok (.aload_n 1, 1) := by decide +kernel
theorem dX10_hasSubterm_13 : decode cX10_hasSubterm 13 = .ok (.iload_n 2, 1) := by decide +kernel
theorem dX10_hasSubterm_14 : decode cX10_hasSubterm 14 = .ok (.invokevirtual 28, 3) := by decide +kernel
theorem dX10_hasSubterm_17 : decode cX10_hasSubterm 17 = .ok (.ifCond .eq 5, 3) := by decide +kernel
theorem dX10_hasSubterm_20 : decode cX10_hasSubterm 20 = .ok (.iconst 1, 1) := by decide +kernel
theorem dX10_hasSubterm_21 : decode cX10_hasSubterm 21 = .ok (.ireturn, 1) := by decide +kernel
theorem dX10_hasSubterm_22 : decode cX10_hasSubterm 22 = .ok (.iinc 3 1, 3) := by decide +kernel
theorem dX10_hasSubterm_25 : decode cX10_hasSubterm 25 = .ok (.goto (-23), 3) := by decide +kernel
theorem dX10_hasSubterm_28 : decode cX10_hasSubterm 28 = .ok (.iconst 0, 1) := by decide +kernel
theorem dX10_hasSubterm_29 : decode cX10_hasSubterm 29 = .ok (.ireturn, 1) := by decide +kernel
theorem dX10_isCall_0 : decode cX10_isCall 0 = .ok (.iload_n 2, 1) := by decide +kernel
theorem dX10_isCall_1 : decode cX10_isCall 1 = .ok (.ifCond .le 42, 3) := by decide +kernel
theorem dX10_isCall_4 : decode cX10_isCall 4 = .ok (.iload_n 2, 1) := by decide +kernel
theorem dX10_isCall_5 : decode cX10_isCall 5 = .ok (.aload_n 0, 1) := by decide +kernel
theorem dX10_isCall_6 : decode cX10_isCall 6 = .ok (.getfield 18, 3) := by decide +kernel
theorem dX10_isCall_9 : decode cX10_isCall 9 = .ok (.if_icmp .ge 34, 3) := by decide +kernel
theorem dX10_isCall_12 : decode cX10_isCall 12 = .ok (.aload_n 0, 1) := by decide +kernel
theorem dX10_isCall_13 : decode cX10_isCall 13 = .ok (.getfield 9, 3) := by decide +kernel
theorem dX10_isCall_16 : decode cX10_isCall 16 = .ok (.iload_n 2, 1) := by decide +kernel
theorem dX10_isCall_17 : decode cX10_isCall 17 = .ok (.iaload, 1) := by decide +kernel
theorem dX10_isCall_18 : decode cX10_isCall 18 = .ok (.bipush 120, 2) := by decide +kernel
theorem dX10_isCall_20 : decode cX10_isCall 20 = .ok (.iload_n 1, 1) := by decide +kernel
theorem dX10_isCall_21 : decode cX10_isCall 21 = .ok (.iadd, 1) := by decide +kernel
theorem dX10_isCall_22 : decode cX10_isCall 22 = .ok (.if_icmp .ne 21, 3) := by decide +kernel
theorem dX10_isCall_25 : decode cX10_isCall 25 = .ok (.aload_n 0, 1) := by decide +kernel
theorem dX10_isCall_26 : decode cX10_isCall 26 = .ok (.getfield 9, 3) := by decide +kernel
theorem dX10_isCall_29 : decode cX10_isCall 29 = .ok (.iload_n 2, 1) := by decide +kernel
theorem dX10_isCall_30 : decode cX10_isCall 30 = .ok (.iconst 1, 1) := by decide +kernel
theorem dX10_isCall_31 : decode cX10_isCall 31 = .ok (.isub, 1) := by decide +kernel
theorem dX10_isCall_32 : decode cX10_isCall 32 = .ok (.iaload, 1) := by decide +kernel
theorem dX10_isCall_33 : decode cX10_isCall 33 = .ok (.invokestatic 32, 3) := by decide +kernel
theorem dX10_isCall_36 : decode cX10_isCall 36 = .ok (.ifCond .eq 7, 3) := by decide +kernel
theorem dX10_isCall_39 : decode cX10_isCall 39 = .ok (.iconst 1, 1) := by decide +kernel
theorem dX10_isCall_40 : decode cX10_isCall 40 = .ok (.goto 4, 3) := by decide +kernel
theorem dX10_isCall_43 : decode cX10_isCall 43 = .ok (.iconst 0, 1) := by decide +kernel
theorem dX10_isCall_44 : decode cX10_isCall 44 = .ok (.ireturn, 1) := by decide +kernel
theorem dX10_isLetter_0 : decode cX10_isLetter 0 = .ok (.iload_n 0, 1) := by decide +kernel
theorem dX10_isLetter_1 : decode cX10_isLetter 1 = .ok (.bipush 97, 2) := by decide +kernel
theorem dX10_isLetter_3 : decode cX10_isLetter 3 = .ok (.if_icmp .lt 13, 3) := by decide +kernel
theorem dX10_isLetter_6 : decode cX10_isLetter 6 = .ok (.iload_n 0, 1) := by decide +kernel
theorem dX10_isLetter_7 : decode cX10_isLetter 7 = .ok (.bipush 103, 2) := by decide +kernel
theorem dX10_isLetter_9 : decode cX10_isLetter 9 = .ok (.if_icmp .ge 7, 3) := by decide +kernel
theorem dX10_isLetter_12 : decode cX10_isLetter 12 = .ok (.iconst 1, 1) := by decide +kernel
theorem dX10_isLetter_13 : decode cX10_isLetter 13 = .ok (.goto 4, 3) := by decide +kernel
theorem dX10_isLetter_16 : decode cX10_isLetter 16 = .ok (.iconst 0, 1) := by decide +kernel
theorem dX10_isLetter_17 : decode cX10_isLetter 17 = .ok (.ireturn, 1) := by decide +kernel
theorem dX11_init_0 : decode cX11_init 0 = .ok (.aload_n 0, 1) := by decide +kernel
theorem dX11_init_1 : decode cX11_init 1 = .ok (.invokespecial 3, 3) := by decide +kernel
theorem dX11_init_4 : decode cX11_init 4 = .ok (.aload_n 0, 1) := by decide +kernel
theorem dX11_init_5 : decode cX11_init 5 = .ok (.new 9, 3) := by decide +kernel
theorem dX11_init_8 : decode cX11_init 8 = .ok (.dup, 1) := by decide +kernel
theorem dX11_init_9 : decode cX11_init 9 = .ok (.invokespecial 11, 3) := by decide +kernel
theorem dX11_init_12 : decode cX11_init 12 = .ok (.putfield 12, 3) := by decide +kernel
theorem dX11_init_15 : decode cX11_init 15 = .ok (.aload_n 0, 1) := by decide +kernel
theorem dX11_init_16 : decode cX11_init 16 = .ok (.new 16, 3) := by decide +kernel
theorem dX11_init_19 : decode cX11_init 19 = .ok (.dup, 1) := by decide +kernel
theorem dX11_init_20 : decode cX11_init 20 = .ok (.aload_n 0, 1) := by decide +kernel
theorem dX11_init_21 : decode cX11_init 21 = .ok (.getfield 12, 3) := by decide +kernel
theorem dX11_init_24 : decode cX11_init 24 = .ok (.invokespecial 18, 3) := by decide +kernel
theorem dX11_init_27 : decode cX11_init 27 = .ok (.putfield 21, 3) := by decide +kernel
theorem dX11_init_30 : decode cX11_init 30 = .ok (.aload_n 0, 1) := by decide +kernel
theorem dX11_init_31 : decode cX11_init 31 = .ok (.new 25, 3) := by decide +kernel
theorem dX11_init_34 : decode cX11_init 34 = .ok (.dup, 1) := by decide +kernel
theorem dX11_init_35 : decode cX11_init 35 = .ok (.aload_n 0, 1) := by decide +kernel
theorem dX11_init_36 : decode cX11_init 36 = .ok (.getfield 12, 3) := by decide +kernel
theorem dX11_init_39 : decode cX11_init 39 = .ok (.invokespecial 27, 3) := by decide +kernel
theorem dX11_init_42 : decode cX11_init 42 = .ok (.putfield 28, 3) := by decide +kernel
theorem dX11_init_45 : decode cX11_init 45 = .ok (.aload_n 0, 1) := by decide +kernel
theorem dX11_init_46 : decode cX11_init 46 = .ok (.new 32, 3) := by decide +kernel
theorem dX11_init_49 : decode cX11_init 49 = .ok (.dup, 1) := by decide +kernel
theorem dX11_init_50 : decode cX11_init 50 = .ok (.aload_n 0, 1) := by decide +kernel
theorem dX11_init_51 : decode cX11_init 51 = .ok (.getfield 12, 3) := by decide +kernel
theorem dX11_init_54 : decode cX11_init 54 = .ok (.invokespecial 34, 3) := by decide +kernel
theorem dX11_init_57 : decode cX11_init 57 = .ok (.putfield 35, 3) := by decide +kernel
theorem dX11_init_60 : decode cX11_init 60 = .ok (.aload_n 0, 1) := by decide +kernel
theorem dX11_init_61 : decode cX11_init 61 = .ok (.new 39, 3) := by decide +kernel
theorem dX11_init_64 : decode cX11_init 64 = .ok (.dup, 1) := by decide +kernel
theorem dX11_init_65 : decode cX11_init 65 = .ok (.invokespecial 41, 3) := by decide +kernel
theorem dX11_init_68 : decode cX11_init 68 = .ok (.putfield 42, 3) := by decide +kernel
theorem dX11_init_71 : decode cX11_init 71 = .ok (.new 46, 3) := by decide +kernel
theorem dX11_init_74 : decode cX11_init 74 = .ok (.dup, 1) := by decide +kernel
theorem dX11_init_75 : decode cX11_init 75 = .ok (.aload_n 0, 1) := by decide +kernel
theorem dX11_init_76 : decode cX11_init 76 = .ok (.getfield 12, 3) := by decide +kernel
theorem dX11_init_79 : decode cX11_init 79 = .ok (.invokespecial 48, 3) := by decide +kernel
theorem dX11_init_82 : decode cX11_init 82 = .ok (.astore_n 1, 1) := by decide +kernel
theorem dX11_init_83 : decode cX11_init 83 = .ok (.aload_n 0, 1) := by decide +kernel
theorem dX11_init_84 : decode cX11_init 84 = .ok (.new 49, 3) := by decide +kernel
theorem dX11_init_87 : decode cX11_init 87 = .ok (.dup, 1) := by decide +kernel
theorem dX11_init_88 : decode cX11_init 88 = .ok (.aload_n 0, 1) := by decide +kernel
theorem dX11_init_89 : decode cX11_init 89 = .ok (.getfield 42, 3) := by decide +kernel
theorem dX11_init_92 : decode cX11_init 92 = .ok (.aload_n 1, 1) := by decide +kernel
theorem dX11_init_93 : decode cX11_init 93 = .ok (.invokespecial 51, 3) := by decide +kernel
theorem dX11_init_96 : decode cX11_init 96 = .ok (.putfield 54, 3) := by decide +kernel
theorem dX11_init_99 : decode cX11_init 99 = .ok (.aload_n 0, 1) := by decide +kernel
theorem dX11_init_100 : decode cX11_init 100 = .ok (.new 58, 3) := by decide +kernel
theorem dX11_init_103 : decode cX11_init 103 = .ok (.dup, 1) := by decide +kernel
theorem dX11_init_104 : decode cX11_init 104 = .ok (.invokespecial 60, 3) := by decide +kernel
theorem dX11_init_107 : decode cX11_init 107 = .ok (.putfield 61, 3) := by decide +kernel
theorem dX11_init_110 : decode cX11_init 110 = .ok (.aload_n 0, 1) := by decide +kernel
theorem dX11_init_111 : decode cX11_init 111 = .ok (.new 65, 3) := by decide +kernel
theorem dX11_init_114 : decode cX11_init 114 = .ok (.dup, 1) := by decide +kernel
theorem dX11_init_115 : decode cX11_init 115 = .ok (.aload_n 0, 1) := by decide +kernel
theorem dX11_init_116 : decode cX11_init 116 = .ok (.getfield 12, 3) := by decide +kernel
theorem dX11_init_119 : decode cX11_init 119 = .ok (.aload_n 0, 1) := by decide +kernel
theorem dX11_init_120 : decode cX11_init 120 = .ok (.getfield 28, 3) := by decide +kernel
theorem dX11_init_123 : decode cX11_init 123 = .ok (.aload_n 0, 1) := by decide +kernel
theorem dX11_init_124 : decode cX11_init 124 = .ok (.getfield 35, 3) := by decide +kernel
theorem dX11_init_127 : decode cX11_init 127 = .ok (.aload_n 1, 1) := by decide +kernel
theorem dX11_init_128 : decode cX11_init 128 = .ok (.aload_n 0, 1) := by decide +kernel
theorem dX11_init_129 : decode cX11_init 129 = .ok (.getfield 54, 3) := by decide +kernel
theorem dX11_init_132 : decode cX11_init 132 = .ok (.aload_n 0, 1) := by decide +kernel
theorem dX11_init_133 : decode cX11_init 133 = .ok (.getfield 61, 3) := by decide +kernel
theorem dX11_init_136 : decode cX11_init 136 = .ok (.invokespecial 67, 3) := by decide +kernel
theorem dX11_init_139 : decode cX11_init 139 = .ok (.putfield 70, 3) := by decide +kernel
theorem dX11_init_142 : decode cX11_init 142 = .ok (.aload_n 0, 1) := by decide +kernel
theorem dX11_init_143 : decode cX11_init 143 = .ok (.new 74, 3) := by decide +kernel
theorem dX11_init_146 : decode cX11_init 146 = .ok (.dup, 1) := by decide +kernel
theorem dX11_init_147 : decode cX11_init 147 = .ok (.invokespecial 76, 3) := by decide +kernel
theorem dX11_init_150 : decode cX11_init 150 = .ok (.putfield 77, 3) := by decide +kernel
theorem dX11_init_153 : decode cX11_init 153 = .ok (.aload_n 0, 1) := by decide +kernel
theorem dX11_init_154 : decode cX11_init 154 = .ok (.new 74, 3) := by decide +kernel
theorem dX11_init_157 : decode cX11_init 157 = .ok (.dup, 1) := by decide +kernel
theorem dX11_init_158 : decode cX11_init 158 = .ok (.invokespecial 76, 3) := by decide +kernel
theorem dX11_init_161 : decode cX11_init 161 = .ok (.putfield 81, 3) := by decide +kernel
theorem dX11_init_164 : decode cX11_init 164 = .ok (.aload_n 0, 1) := by decide +kernel
theorem dX11_init_165 : decode cX11_init 165 = .ok (.new 84, 3) := by decide +kernel
theorem dX11_init_168 : decode cX11_init 168 = .ok (.dup, 1) := by decide +kernel
theorem dX11_init_169 : decode cX11_init 169 = .ok (.invokespecial 86, 3) := by decide +kernel
theorem dX11_init_172 : decode cX11_init 172 = .ok (.putfield 87, 3) := by decide +kernel
theorem dX11_init_175 : decode cX11_init 175 = .ok (.aload_n 0, 1) := by decide +kernel
theorem dX11_init_176 : decode cX11_init 176 = .ok (.iconst 0, 1) := by decide +kernel
theorem dX11_init_177 : decode cX11_init 177 = .ok (.putfield 91, 3) := by decide +kernel
theorem dX11_init_180 : decode cX11_init 180 = .ok (.return_, 1) := by decide +kernel
theorem dX11_type_0 : decode cX11_type 0 = .ok (.iload_n 1, 1) := by decide +kernel
theorem dX11_type_1 : decode cX11_type 1 = .ok (.bipush 127, 2) := by decide +kernel
theorem dX11_type_3 : decode cX11_type 3 = .ok (.invokestatic 95, 3) := by decide +kernel
theorem dX11_type_6 : decode cX11_type 6 = .ok (.ifCond .eq 6, 3) := by decide +kernel
theorem dX11_type_9 : decode cX11_type 9 = .ok (.bipush (-2), 2) := by decide +kernel
theorem dX11_type_11 : decode cX11_type 11 = .ok (.ireturn, 1) := by decide +kernel
theorem dX11_type_12 : decode cX11_type 12 = .ok (.aload_n 0, 1) := by decide +kernel
theorem dX11_type_13 : decode cX11_type 13 = .ok (.getfield 21, 3) := by decide +kernel
theorem dX11_type_16 : decode cX11_type 16 = .ok (.getfield 99, 3) := by decide +kernel
theorem dX11_type_19 : decode cX11_type 19 = .ok (.bipush 48, 2) := by decide +kernel
theorem dX11_type_21 : decode cX11_type 21 = .ok (.if_icmp .lt 6, 3) := by decide +kernel
theorem dX11_type_24 : decode cX11_type 24 = .ok (.bipush (-4), 2) := by decide +kernel
theorem dX11_type_26 : decode cX11_type 26 = .ok (.ireturn, 1) := by decide +kernel
theorem dX11_type_27 : decode cX11_type 27 = .ok (.aload_n 0, 1) := by decide +kernel
theorem dX11_type_28 : decode cX11_type 28 = .ok (.getfield 21, 3) := by decide +kernel
theorem dX11_type_31 : decode cX11_type 31 = .ok (.iload_n 1, 1) := by decide +kernel
theorem dX11_type_32 : decode cX11_type 32 = .ok (.invokevirtual 103, 3) := by decide +kernel
theorem dX11_type_35 : decode cX11_type 35 = .ok (.aload_n 0, 1) := by decide +kernel
theorem dX11_type_36 : decode cX11_type 36 = .ok (.getfield 21, 3) := by decide +kernel
theorem dX11_type_39 : decode cX11_type 39 = .ok (.getfield 99, 3) := by decide +kernel
theorem dX11_type_42 : decode cX11_type 42 = .ok (.ireturn, 1) := by decide +kernel
theorem dX11_wipe_0 : decode cX11_wipe 0 = .ok (.aload_n 0, 1) := by decide +kernel
theorem dX11_wipe_1 : decode cX11_wipe 1 = .ok (.getfield 21, 3) := by decide +kernel
theorem dX11_wipe_4 : decode cX11_wipe 4 = .ok (.getfield 99, 3) := by decide +kernel
theorem dX11_wipe_7 : decode cX11_wipe 7 = .ok (.istore_n 1, 1) := by decide +kernel
theorem dX11_wipe_8 : decode cX11_wipe 8 = .ok (.aload_n 0, 1) := by decide +kernel
theorem dX11_wipe_9 : decode cX11_wipe 9 = .ok (.getfield 21, 3) := by decide +kernel
theorem dX11_wipe_12 : decode cX11_wipe 12 = .ok (.iconst 0, 1) := by decide +kernel
theorem dX11_wipe_13 : decode cX11_wipe 13 = .ok (.putfield 99, 3) := by decide +kernel
theorem dX11_wipe_16 : decode cX11_wipe 16 = .ok (.iload_n 1, 1) := by decide +kernel
theorem dX11_wipe_17 : decode cX11_wipe 17 = .ok (.ireturn, 1) := by decide +kernel
theorem dX11_function_0 : decode cX11_function 0 = .ok (.iload_n 1, 1) := by decide +kernel
theorem dX11_function_1 : decode cX11_function 1 = .ok (.iconst 1, 1) := by decide +kernel
theorem dX11_function_2 : decode cX11_function 2 = .ok (.if_icmp .lt 18, 3) := by decide +kernel
theorem dX11_function_5 : decode cX11_function 5 = .ok (.iload_n 1, 1) := by decide +kernel
theorem dX11_function_6 : decode cX11_function 6 = .ok (.iconst 2, 1) := by decide +kernel
theorem dX11_function_7 : decode cX11_function 7 = .ok (.if_icmp .gt 13, 3) := by decide +kernel
theorem dX11_function_10 : decode cX11_function 10 = .ok (.iload_n 2, 1) := by decide +kernel
theorem dX11_function_11 : decode cX11_function 11 = .ok (.iconst 1, 1) := by decide +kernel
theorem dX11_function_12 : decode cX11_function 12 = .ok (.if_icmp .lt 8, 3) := by decide +kernel
theorem dX11_function_15 : decode cX11_function 15 = .ok (.iload_n 2, 1) := by decide +kernel
theorem dX11_function_16 : decode cX11_function 16 = .ok (.iconst 2, 1) := by decide +kernel
theorem dX11_function_17 : decode cX11_function 17 = .ok (.if_icmp .le 6, 3) := by decide +kernel
theorem dX11_function_20 : decode cX11_function 20 = .ok (.bipush (-2), 2) := by decide +kernel
theorem dX11_function_22 : decode cX11_function 22 = .ok (.ireturn, 1) := by decide +kernel
theorem dX11_function_23 : decode cX11_function 23 = .ok (.aload_n 0, 1) := by decide +kernel
theorem dX11_function_24 : decode cX11_function 24 = .ok (.getfield 12, 3) := by decide +kernel
theorem dX11_function_27 : decode cX11_function 27 = .ok (.getfield 107, 3) := by decide +kernel
theorem dX11_function_30 : decode cX11_function 30 = .ok (.bipush 6, 2) := by decide +kernel
theorem dX11_function_32 : decode cX11_function 32 = .ok (.if_icmp .lt 6, 3) := by decide +kernel
theorem dX11_function_35 : decode cX11_function 35 = .ok (.bipush (-4), 2) := by decide +kernel
theorem dX11_function_37 : decode cX11_function 37 = .ok (.ireturn, 1) := by decide +kernel
theorem dX11_function_38 : decode cX11_function 38 = .ok (.aload_n 0, 1) := by decide +kernel
theorem dX11_function_39 : decode cX11_function 39 = .ok (.getfield 21, 3) := by decide +kernel
theorem dX11_function_42 : decode cX11_function 42 = .ok (.iload_n 1, 1) := by decide +kernel
theorem dX11_function_43 : decode cX11_function 43 = .ok (.iload_n 2, 1) := by decide +kernel
theorem dX11_function_44 : decode cX11_function 44 = .ok (.invokevirtual 108, 3) := by decide +kernel
theorem dX11_function_47 : decode cX11_function 47 = .ok (.ifCond .ne 14, 3) := by decide +kernel
theorem dX11_function_50 : decode cX11_function 50 = .ok (.bipush (-100), 2) := by decide +kernel
theorem dX11_function_52 : decode cX11_function 52 = .ok (.aload_n 0, 1) := by decide +kernel
theorem dX11_function_53 : decode cX11_function 53 = .ok (.getfield 21, 3) := by decide +kernel
theorem dX11_function_56 : decode cX11_function 56 = .ok (.getfield 111, 3) := by decide +kernel
theorem dX11_function_59 : decode cX11_function 59 = .ok (.isub, 1) := by decide +kernel
theorem dX11_function_60 : decode cX11_function 60 = .ok (.ireturn, 1) := by decide +kernel
theorem dX11_function_61 : decode cX11_function 61 = .ok (.aload_n 0, 1) := by decide +kernel
theorem dX11_function_62 : decode cX11_function 62 = .ok (.getfield 12, 3) := by decide +kernel
theorem dX11_function_65 : decode cX11_function 65 = .ok (.iload_n 1, 1) := by decide +kernel
theorem dX11_function_66 : decode cX11_function 66 = .ok (.iload_n 2, 1) := by decide +kernel
theorem dX11_function_67 : decode cX11_function 67 = .ok (.aload_n 0, 1) := by decide +kernel
theorem dX11_function_68 : decode cX11_function 68 = .ok (.getfield 21, 3) := by decide +kernel
theorem dX11_function_71 : decode cX11_function 71 = .ok (.getfield 114, 3) := by decide +kernel
theorem dX11_function_74 : decode cX11_function 74 = .ok (.invokevirtual 118, 3) := by decide +kernel
theorem dX11_function_77 : decode cX11_function 77 = .ok (.aload_n 0, 1) := by decide +kernel
theorem dX11_function_78 : decode cX11_function 78 = .ok (.getfield 12, 3) := by decide +kernel
theorem dX11_function_81 : decode cX11_function 81 = .ok (.getfield 107, 3) := by decide +kernel
theorem dX11_function_84 : decode cX11_function 84 = .ok (.iconst 1, 1) := by decide +kernel
theorem dX11_function_85 : decode cX11_function 85 = .ok (.isub, 1) := by decide +kernel
theorem dX11_function_86 : decode cX11_function 86 = .ok (.ireturn, 1) := by decide +kernel
theorem dX11_ofFunction_0 : decode cX11_ofFunction 0 = .ok (.iload_n 1, 1) := by decide +kernel
theorem dX11_ofFunction_1 : decode cX11_ofFunction 1 = .ok (.aload_n 0, 1) := by decide +kernel
theorem dX11_ofFunction_2 : decode cX11_ofFunction 2 = .ok (.getfield 12, 3) := by decide +kernel
theorem dX11_ofFunction_5 : decode cX11_ofFunction 5 = .ok (.getfield 107, 3) := by decide +kernel
theorem dX11_ofFunction_8 : decode cX11_ofFunction 8 = .ok (.iconst 1, 1) := by decide +kernel
theorem dX11_ofFunction_9 : decode cX11_ofFunction 9 = .ok (.isub, 1) := by decide +kernel
theorem dX11_ofFunction_10 : decode cX11_ofFunction 10 = .ok (.invokestatic 95, 3) := by decide +kernel
theorem dX11_ofFunction_13 : decode cX11_ofFunction 13 = .ok (.ifCond .eq 5, 3) := by decide +kernel
theorem dX11_ofFunction_16 : decode cX11_ofFunction 16 = .ok (.iconst (-1), 1) := by decide +kernel
theorem dX11_ofFunction_17 : decode cX11_ofFunction 17 = .ok (.ireturn, 1) := by decide +kernel
theorem dX11_ofFunction_18 : decode cX11_ofFunction 18 = .ok (.iload_n 2, 1) := by decide +kernel
theorem dX11_ofFunction_19 : decode cX11_ofFunction 19 = .ok (.iconst 4, 1) := by decide +kernel
theorem dX11_ofFunction_20 : decode cX11_ofFunction 20 = .ok (.invokestatic 95, 3) := by decide +kernel
theorem dX11_ofFunction_23 : decode cX11_ofFunction 23 = .ok (.ifCond .eq 6, 3) := by decide +kernel
theorem dX11_ofFunction_26 : decode cX11_ofFunction 26 = .ok (.bipush (-2), 2) := by decide +kernel
theorem dX11_ofFunction_28 : decode cX11_ofFunction 28 = .ok (.ireturn, 1) := by decide +kernel
theorem dX11_ofFunction_29 : decode cX11_ofFunction 29 = .ok (.iload_n 2, 1) := by decide +kernel
theorem dX11_ofFunction_30 : decode cX11_ofFunction 30 = .ok (.ifCond .ne 13, 3) := by decide +kernel
theorem dX11_ofFunction_33 : decode cX11_ofFunction 33 = .ok (.aload_n 0, 1) := by decide +kernel
theorem dX11_ofFunction_34 : decode cX11_ofFunction 34 = .ok (.getfield 12, 3) := by decide +kernel
theorem dX11_ofFunction_37 : decode cX11_ofFunction 37 = .ok (.getfield 122, 3) := by decide +kernel
theorem dX11_ofFunction_40 : decode cX11_ofFunction 40 = .ok (.iload_n 1, 1) := by decide +kernel
theorem dX11_ofFunction_41 : decode cX11_ofFunction 41 = .ok (.iaload, 1) := by decide +kernel
theorem dX11_ofFunction_42 : decode cX11_ofFunction 42 = .ok (.ireturn, 1) := by decide +kernel
theorem dX11_ofFunction_43 : decode cX11_ofFunction 43 = .ok (.iload_n 2, 1) := by decide +kernel
theorem dX11_ofFunction_44 : decode cX11_ofFunction 44 = .ok (.iconst 1, 1) := by decide +kernel
theorem dX11_ofFunction_45 : decode cX11_ofFunction 45 = .ok (.if_icmp .ne 13, 3) := by decide +kernel
theorem dX11_ofFunction_48 : decode cX11_ofFunction 48 = .ok (.aload_n 0, 1) := by decide +kernel
theorem dX11_ofFunction_49 : decode cX11_ofFunction 49 = .ok (.getfield 12, 3) := by decide +kernel
theorem dX11_ofFunction_52 : decode cX11_ofFunction 52 = .ok (.getfield 126, 3) := by decide +kernel
theorem dX11_ofFunction_55 : decode cX11_ofFunction 55 = .ok (.iload_n 1, 1) := by decide +kernel
theorem dX11_ofFunction_56 : decode cX11_ofFunction 56 = .ok (.iaload, 1) := by decide +kernel
theorem dX11_ofFunction_57 : decode cX11_ofFunction 57 = .ok (.ireturn, 1) := by decide +kernel
theorem dX11_ofFunction_58 : decode cX11_ofFunction 58 = .ok (.aload_n 0, 1) := by decide +kernel
theorem dX11_ofFunction_59 : decode cX11_ofFunction 59 = .ok (.getfield 12, 3) := by decide +kernel
theorem dX11_ofFunction_62 : decode cX11_ofFunction 62 = .ok (.iload_n 1, 1) := by decide +kernel
theorem dX11_ofFunction_63 : decode cX11_ofFunction 63 = .ok (.iload_n 2, 1) := by decide +kernel
theorem dX11_ofFunction_64 : decode cX11_ofFunction 64 = .ok (.iconst 2, 1) := by decide +kernel
theorem dX11_ofFunction_65 : decode cX11_ofFunction 65 = .ok (.isub, 1) := by decide +kernel
theorem dX11_ofFunction_66 : decode cX11_ofFunction 66 = .ok (.invokevirtual 129, 3) := by decide +kernel
theorem dX11_ofFunction_69 : decode cX11_ofFunction 69 = .ok (.astore_n 3, 1) := by decide +kernel
theorem dX11_ofFunction_70 : decode cX11_ofFunction 70 = .ok (.aload_n 3, 1) := by decide +kernel
theorem dX11_ofFunction_71 : decode cX11_ofFunction 71 = .ok (.ifnonnull 8, 3) := by decide +kernel
theorem dX11_ofFunction_74 : decode cX11_ofFunction 74 = .ok (.bipush (-9), 2) := by decide +kernel
theorem dX11_ofFunction_76 : decode cX11_ofFunction 76 = .ok (.goto 7, 3) := by decide +kernel
theorem dX11_ofFunction_79 : decode cX11_ofFunction 79 = .ok (.aload_n 3, 1) := by decide +kernel
theorem dX11_ofFunction_80 : decode cX11_ofFunction 80 = .ok (.getfield 133, 3) := by decide +kernel
theorem dX11_ofFunction_83 : decode cX11_ofFunction 83 = .ok (.ireturn, 1) := by decide +kernel
theorem dX11_body_0 : decode cX11_body 0 = .ok (.iload_n 1, 1) := by decide +kernel
theorem dX11_body_1 : decode cX11_body 1 = .ok (.aload_n 0, 1) := by decide +kernel
theorem dX11_body_2 : decode cX11_body 2 = .ok (.getfield 12, 3) := by decide +kernel
theorem dX11_body_5 : decode cX11_body 5 = .ok (.getfield 107, 3) := by decide +kernel
theorem dX11_body_8 : decode cX11_body 8 = .ok (.iconst 1, 1) := by decide +kernel
theorem dX11_body_9 : decode cX11_body 9 = .ok (.isub, 1) := by decide +kernel
theorem dX11_body_10 : decode cX11_body 10 = .ok (.invokestatic 95, 3) := by decide +kernel
theorem dX11_body_13 : decode cX11_body 13 = .ok (.ifCond .eq 5, 3) := by decide +kernel
theorem dX11_body_16 : decode cX11_body 16 = .ok (.iconst (-1), 1) := by decide +kernel
theorem dX11_body_17 : decode cX11_body 17 = .ok (.ireturn, 1) := by decide +kernel
theorem dX11_body_18 : decode cX11_body 18 = .ok (.iload_n 2, 1) := by decide +kernel
theorem dX11_body_19 : decode cX11_body 19 = .ok (.iconst 2, 1) := by decide +kernel
theorem dX11_body_20 : decode cX11_body 20 = .ok (.invokestatic 95, 3) := by decide +kernel
theorem dX11_body_23 : decode cX11_body 23 = .ok (.ifCond .ne 12, 3) := by decide +kernel
theorem dX11_body_26 : decode cX11_body 26 = .ok (.iload_n 3, 1) := by decide +kernel
theorem dX11_body_27 : decode cX11_body 27 = .ok (.bipush 9, 2) := by decide +kernel
theorem dX11_body_29 : decode cX11_body 29 = .ok (.invokestatic 95, 3) := by decide +kernel
theorem dX11_body_32 : decode cX11_body 32 = .ok (.ifCond .eq 6, 3) := by decide +kernel
theorem dX11_body_35 : decode cX11_body 35 = .ok (.bipush (-2), 2) := by decide +kernel
theorem dX11_body_37 : decode cX11_body 37 = .ok (.ireturn, 1) := by decide +kernel
theorem dX11_body_38 : decode cX11_body 38 = .ok (.aload_n 0, 1) := by decide +kernel
theorem dX11_body_39 : decode cX11_body 39 = .ok (.getfield 12, 3) := by decide +kernel
theorem dX11_body_42 : decode cX11_body 42 = .ok (.iload_n 1, 1) := by decide +kernel
theorem dX11_body_43 : decode cX11_body 43 = .ok (.iload_n 2, 1) := by decide +kernel
theorem dX11_body_44 : decode cX11_body 44 = .ok (.invokevirtual 129, 3) := by decide +kernel
theorem dX11_body_47 : decode cX11_body 47 = .ok (.astore 4, 2) := by decide +kernel
theorem dX11_body_49 : decode cX11_body 49 = .ok (.aload 4, 2) := by decide +kernel
theorem dX11_body_51 : decode cX11_body 51 = .ok (.ifnonnull 8, 3) := by decide +kernel
theorem dX11_body_54 : decode cX11_body 54 = .ok (.bipush (-9), 2) := by decide +kernel
theorem dX11_body_56 : decode cX11_body 56 = .ok (.goto 9, 3) := by decide +kernel
theorem dX11_body_59 : decode cX11_body 59 = .ok (.aload 4, 2) := by decide +kernel
theorem dX11_body_61 : decode cX11_body 61 = .ok (.iload_n 3, 1) := by decide +kernel
theorem dX11_body_62 : decode cX11_body 62 = .ok (.invokevirtual 136, 3) := by decide +kernel
theorem dX11_body_65 : decode cX11_body 65 = .ok (.ireturn, 1) := by decide +kernel
theorem dX11_claim_0 : decode cX11_claim 0 = .ok (.aload_n 0, 1) := by decide +kernel
theorem dX11_claim_1 : decode cX11_claim 1 = .ok (.getfield 21, 3) := by decide +kernel
theorem dX11_claim_4 : decode cX11_claim 4 = .ok (.invokevirtual 140, 3) := by decide +kernel
theorem dX11_claim_7 : decode cX11_claim 7 = .ok (.ifCond .ne 14, 3) := by decide +kernel
theorem dX11_claim_10 : decode cX11_claim 10 = .ok (.bipush (-100), 2) := by decide +kernel
theorem dX11_claim_12 : decode cX11_claim 12 = .ok (.aload_n 0, 1) := by decide +kernel
theorem dX11_claim_13 : decode cX11_claim 13 = .ok (.getfield 21, 3) := by decide +kernel
theorem dX11_claim_16 : decode cX11_claim 16 = .ok (.getfield 111, 3) := by decide +kernel
theorem dX11_claim_19 : decode cX11_claim 19 = .ok (.isub, 1) := by decide +kernel
theorem dX11_claim_20 : decode cX11_claim 20 = .ok (.ireturn, 1) := by decide +kernel
theorem dX11_claim_21 : decode cX11_claim 21 = .ok (.aload_n 0, 1) := by decide +kernel
theorem dX11_claim_22 : decode cX11_claim 22 = .ok (.getfield 77, 3) := by decide +kernel
theorem dX11_claim_25 : decode cX11_claim 25 = .ok (.getfield 144, 3) := by decide +kernel
theorem dX11_claim_28 : decode cX11_claim 28 = .ok (.aload_n 0, 1) := by decide +kernel
theorem dX11_claim_29 : decode cX11_claim 29 = .ok (.getfield 21, 3) := by decide +kernel
theorem dX11_claim_32 : decode cX11_claim 32 = .ok (.getfield 114, 3) := by decide +kernel
theorem dX11_claim_35 : decode cX11_claim 35 = .ok (.iconst 0, 1) := by decide +kernel
theorem dX11_claim_36 : decode cX11_claim 36 = .ok (.aaload, 1) := by decide +kernel
theorem dX11_claim_37 : decode cX11_claim 37 = .ok (.invokevirtual 147, 3) := by decide +kernel
theorem dX11_claim_40 : decode cX11_claim 40 = .ok (.aload_n 0, 1) := by decide +kernel
theorem dX11_claim_41 : decode cX11_claim 41 = .ok (.getfield 77, 3) := by decide +kernel
theorem dX11_claim_44 : decode cX11_claim 44 = .ok (.getfield 151, 3) := by decide +kernel
theorem dX11_claim_47 : decode cX11_claim 47 = .ok (.aload_n 0, 1) := by decide +kernel
theorem dX11_claim_48 : decode cX11_claim 48 = .ok (.getfield 21, 3) := by decide +kernel
theorem dX11_claim_51 : decode cX11_claim 51 = .ok (.getfield 114, 3) := by decide +kernel
theorem dX11_claim_54 : decode cX11_claim 54 = .ok (.iconst 1, 1) := by decide +kernel
theorem dX11_claim_55 : decode cX11_claim 55 = .ok (.aaload, 1) := by decide +kernel
theorem dX11_claim_56 : decode cX11_claim 56 = .ok (.invokevirtual 147, 3) := by decide +kernel
theorem dX11_claim_59 : decode cX11_claim 59 = .ok (.aload_n 0, 1) := by decide +kernel
theorem dX11_claim_60 : decode cX11_claim 60 = .ok (.iconst 1, 1) := by decide +kernel
theorem dX11_claim_61 : decode cX11_claim 61 = .ok (.putfield 91, 3) := by decide +kernel
theorem dX11_claim_64 : decode cX11_claim 64 = .ok (.aload_n 0, 1) := by decide +kernel
theorem dX11_claim_65 : decode cX11_claim 65 = .ok (.getfield 77, 3) := by decide +kernel
theorem dX11_claim_68 : decode cX11_claim 68 = .ok (.getfield 144, 3) := by decide +kernel
theorem dX11_claim_71 : decode cX11_claim 71 = .ok (.getfield 133, 3) := by decide +kernel
theorem dX11_claim_74 : decode cX11_claim 74 = .ok (.aload_n 0, 1) := by decide +kernel
theorem dX11_claim_75 : decode cX11_claim 75 = .ok (.getfield 77, 3) := by decide +kernel
theorem dX11_claim_78 : decode cX11_claim 78 = .ok (.getfield 151, 3) := by decide +kernel
theorem dX11_claim_81 : decode cX11_claim 81 = .ok (.getfield 133, 3) := by decide +kernel
theorem dX11_claim_84 : decode cX11_claim 84 = .ok (.iadd, 1) := by decide +kernel
theorem dX11_claim_85 : decode cX11_claim 85 = .ok (.ireturn, 1) := by decide +kernel
theorem dX11_side_0 : decode cX11_side 0 = .ok (.iload_n 1, 1) := by decide +kernel
theorem dX11_side_1 : decode cX11_side 1 = .ok (.iconst 1, 1) := by decide +kernel
theorem dX11_side_2 : decode cX11_side 2 = .ok (.invokestatic 95, 3) := by decide +kernel
theorem dX11_side_5 : decode cX11_side 5 = .ok (.ifCond .ne 12, 3) := by decide +kernel
theorem dX11_side_8 : decode cX11_side 8 = .ok (.iload_n 2, 1) := by decide +kernel
theorem dX11_side_9 : decode cX11_side 9 = .ok (.bipush 19, 2) := by decide +kernel
theorem dX11_side_11 : decode cX11_side 11 = .ok (.invokestatic 95, 3) := by decide +kernel
theorem dX11_side_14 : decode cX11_side 14 = .ok (.ifCond .eq 6, 3) := by decide +kernel
theorem dX11_side_17 : decode cX11_side 17 = .ok (.bipush (-2), 2) := by decide +kernel
theorem dX11_side_19 : decode cX11_side 19 = .ok (.ireturn, 1) := by decide +kernel
theorem dX11_side_20 : decode cX11_side 20 = .ok (.aload_n 0, 1) := by decide +kernel
theorem dX11_side_21 : decode cX11_side 21 = .ok (.getfield 91, 3) := by decide +kernel
theorem dX11_side_24 : decode cX11_side 24 = .ok (.ifCond .eq 18, 3) := by decide +kernel
theorem dX11_side_27 : decode cX11_side 27 = .ok (.aload_n 0, 1) := by decide +kernel
theorem dX11_side_28 : decode cX11_side 28 = .ok (.getfield 77, 3) := by decide +kernel
theorem dX11_side_31 : decode cX11_side 31 = .ok (.iload_n 1, 1) := by decide +kernel
theorem dX11_side_32 : decode cX11_side 32 = .ok (.invokevirtual 154, 3) := by decide +kernel
theorem dX11_side_35 : decode cX11_side 35 = .ok (.iload_n 2, 1) := by decide +kernel
theorem dX11_side_36 : decode cX11_side 36 = .ok (.invokevirtual 136, 3) := by decide +kernel
theorem dX11_side_39 : decode cX11_side 39 = .ok (.goto 5, 3) := by decide +kernel
theorem dX11_side_42 : decode cX11_side 42 = .ok (.bipush (-3), 2) := by decide +kernel
theorem dX11_side_44 : decode cX11_side 44 = .ok (.ireturn, 1) := by decide +kernel
theorem dX11_anew_0 : decode cX11_anew 0 = .ok (.aload_n 0, 1) := by decide +kernel
theorem dX11_anew_1 : decode cX11_anew 1 = .ok (.getfield 12, 3) := by decide +kernel
theorem dX11_anew_4 : decode cX11_anew 4 = .ok (.getfield 107, 3) := by decide +kernel
theorem dX11_anew_7 : decode cX11_anew 7 = .ok (.istore_n 1, 1) := by decide +kernel
theorem dX11_anew_8 : decode cX11_anew 8 = .ok (.aload_n 0, 1) := by decide +kernel
theorem dX11_anew_9 : decode cX11_anew 9 = .ok (.getfield 12, 3) := by decide +kernel
theorem dX11_anew_12 : decode cX11_anew 12 = .ok (.invokevirtual 158, 3) := by decide +kernel
theorem dX11_anew_15 : decode cX11_anew 15 = .ok (.aload_n 0, 1) := by decide +kernel
theorem dX11_anew_16 : decode cX11_anew 16 = .ok (.getfield 54, 3) := by decide +kernel
theorem dX11_anew_19 : decode cX11_anew 19 = .ok (.iconst 0, 1) := by decide +kernel
theorem dX11_anew_20 : decode cX11_anew 20 = .ok (.putfield 161, 3) := by decide +kernel
theorem dX11_anew_23 : decode cX11_anew 23 = .ok (.aload_n 0, 1) := by decide +kernel
theorem dX11_anew_24 : decode cX11_anew 24 = .ok (.getfield 61, 3) := by decide +kernel
theorem dX11_anew_27 : decode cX11_anew 27 = .ok (.invokevirtual 162, 3) := by decide +kernel
theorem dX11_anew_30 : decode cX11_anew 30 = .ok (.aload_n 0, 1) := by decide +kernel
theorem dX11_anew_31 : decode cX11_anew 31 = .ok (.iconst 0, 1) := by decide +kernel
theorem dX11_anew_32 : decode cX11_anew 32 = .ok (.putfield 91, 3) := by decide +kernel
theorem dX11_anew_35 : decode cX11_anew 35 = .ok (.iload_n 1, 1) := by decide +kernel
theorem dX11_anew_36 : decode cX11_anew 36 = .ok (.ireturn, 1) := by decide +kernel
theorem dX11_value_0 : decode cX11_value 0 = .ok (.iload_n 1, 1) := by decide +kernel
theorem dX11_value_1 : decode cX11_value 1 = .ok (.aload_n 0, 1) := by decide +kernel
theorem dX11_value_2 : decode cX11_value 2 = .ok (.getfield 12, 3) := by decide +kernel
theorem dX11_value_5 : decode cX11_value 5 = .ok (.getfield 107, 3) := by decide +kernel
theorem dX11_value_8 : decode cX11_value 8 = .ok (.iconst 1, 1) := by decide +kernel
theorem dX11_value_9 : decode cX11_value 9 = .ok (.isub, 1) := by decide +kernel
theorem dX11_value_10 : decode cX11_value 10 = .ok (.invokestatic 95, 3) := by decide +kernel
theorem dX11_value_13 : decode cX11_value 13 = .ok (.ifCond .eq 5, 3) := by decide +kernel
theorem dX11_value_16 : decode cX11_value 16 = .ok (.iconst (-1), 1) := by decide +kernel
theorem dX11_value_17 : decode cX11_value 17 = .ok (.ireturn, 1) := by decide +kernel
theorem dX11_value_18 : decode cX11_value 18 = .ok (.aload_n 0, 1) := by decide +kernel
theorem dX11_value_19 : decode cX11_value 19 = .ok (.getfield 12, 3) := by decide +kernel
theorem dX11_value_22 : decode cX11_value 22 = .ok (.getfield 122, 3) := by decide +kernel
theorem dX11_value_25 : decode cX11_value 25 = .ok (.iload_n 1, 1) := by decide +kernel
theorem dX11_value_26 : decode cX11_value 26 = .ok (.iaload, 1) := by decide +kernel
theorem dX11_value_27 : decode cX11_value 27 = .ok (.iconst 2, 1) := by decide +kernel
theorem dX11_value_28 : decode cX11_value 28 = .ok (.if_icmp .ne 7, 3) := by decide +kernel
theorem dX11_value_31 : decode cX11_value 31 = .ok (.iconst 1, 1) := by decide +kernel
theorem dX11_value_32 : decode cX11_value 32 = .ok (.goto 4, 3) := by decide +kernel
theorem dX11_value_35 : decode cX11_value 35 = .ok (.iconst 0, 1) := by decide +kernel
theorem dX11_value_36 : decode cX11_value 36 = .ok (.istore 5, 2) := by decide +kernel
theorem dX11_value_38 : decode cX11_value 38 = .ok (.iload_n 2, 1) := by decide +kernel
theorem dX11_value_39 : decode cX11_value 39 = .ok (.bipush 9, 2) := by decide +kernel
theorem dX11_value_41 : decode cX11_value 41 = .ok (.invokestatic 95, 3) := by decide +kernel
theorem dX11_value_44 : decode cX11_value 44 = .ok (.ifCond .ne 26, 3) := by decide +kernel
theorem dX11_value_47 : decode cX11_value 47 = .ok (.iload 4, 2) := by decide +kernel
theorem dX11_value_49 : decode cX11_value 49 = .ok (.iconst 1, 1) := by decide +kernel
theorem dX11_value_50 : decode cX11_value 50 = .ok (.invokestatic 95, 3) := by decide +kernel
theorem dX11_value_53 : decode cX11_value 53 = .ok (.ifCond .ne 17, 3) := by decide +kernel
theorem dX11_value_56 : decode cX11_value 56 = .ok (.iload 5, 2) := by decide +kernel
theorem dX11_value_58 : decode cX11_value 58 = .ok (.ifCond .eq 15, 3) := by decide +kernel
theorem dX11_value_61 : decode cX11_value 61 = .ok (.iload_n 3, 1) := by decide +kernel
theorem dX11_value_62 : decode cX11_value 62 = .ok (.bipush 9, 2) := by decide +kernel
theorem dX11_value_64 : decode cX11_value 64 = .ok (.invokestatic 95, 3) := by decide +kernel
theorem dX11_value_67 : decode cX11_value 67 = .ok (.ifCond .eq 6, 3) := by decide +kernel
theorem dX11_value_70 : decode cX11_value 70 = .ok (.bipush (-2), 2) := by decide +kernel
theorem dX11_value_72 : decode cX11_value 72 = .ok (.ireturn, 1) := by decide +kernel
theorem dX11_value_73 : decode cX11_value 73 = .ok (.aload_n 0, 1) := by decide +kernel
theorem dX11_value_74 : decode cX11_value 74 = .ok (.getfield 87, 3) := by decide +kernel
theorem dX11_value_77 : decode cX11_value 77 = .ok (.invokevirtual 165, 3) := by decide +kernel
theorem dX11_value_80 : decode cX11_value 80 = .ok (.aload_n 0, 1) := by decide +kernel
theorem dX11_value_81 : decode cX11_value 81 = .ok (.getfield 87, 3) := by decide +kernel
theorem dX11_value_84 : decode cX11_value 84 = .ok (.bipush 97, 2) := by decide +kernel
theorem dX11_value_86 : decode cX11_value 86 = .ok (.iload_n 1, 1) := by decide +kernel
theorem dX11_value_87 : decode cX11_value 87 = .ok (.iadd, 1) := by decide +kernel
theorem dX11_value_88 : decode cX11_value 88 = .ok (.invokevirtual 166, 3) := by decide +kernel
theorem dX11_value_91 : decode cX11_value 91 = .ok (.pop, 1) := by decide +kernel
theorem dX11_value_92 : decode cX11_value 92 = .ok (.aload_n 0, 1) := by decide +kernel
theorem dX11_value_93 : decode cX11_value 93 = .ok (.getfield 87, 3) := by decide +kernel
theorem dX11_value_96 : decode cX11_value 96 = .ok (.bipush 120, 2) := by decide +kernel
theorem dX11_value_98 : decode cX11_value 98 = .ok (.invokevirtual 166, 3) := by decide +kernel
theorem dX11_value_101 : decode cX11_value 101 = .ok (.pop, 1) := by decide +kernel
theorem dX11_value_102 : decode cX11_value 102 = .ok (.iload 5, 2) := by decide +kernel
theorem dX11_value_104 : decode cX11_value 104 = .ok (.ifCond .eq 13, 3) := by decide +kernel
theorem dX11_value_107 : decode cX11_value 107 = .ok (.aload_n 0, 1) := by decide +kernel
theorem dX11_value_108 : decode cX11_value 108 = .ok (.getfield 87, 3) := by decide +kernel
theorem dX11_value_111 : decode cX11_value 111 = .ok (.bipush 121, 2) := by decide +kernel
theorem dX11_value_113 : decode cX11_value 113 = .ok (.invokevirtual 166, 3) := by decide +kernel
theorem dX11_value_116 : decode cX11_value 116 = .ok (.pop, 1) := by decide +kernel
theorem dX11_value_117 : decode cX11_value 117 = .ok (.aload_n 0, 1) := by decide +kernel
theorem dX11_value_118 : decode cX11_value 118 = .ok (.getfield 28, 3) := by decide +kernel
theorem dX11_value_121 : decode cX11_value 121 = .ok (.aload_n 0, 1) := by decide +kernel
theorem dX11_value_122 : decode cX11_value 122 = .ok (.getfield 87, 3) := by decide +kernel
theorem dX11_value_125 : decode cX11_value 125 = .ok (.iload_n 2, 1) := by decide +kernel
theorem dX11_value_126 : decode cX11_value 126 = .ok (.iload_n 3, 1) := by decide +kernel
theorem dX11_value_127 : decode cX11_value 127 = .ok (.iconst 0, 1) := by decide +kernel
theorem dX11_value_128 : decode cX11_value 128 = .ok (.invokevirtual 170, 3) := by decide +kernel
theorem dX11_value_131 : decode cX11_value 131 = .ok (.istore 6, 2) := by decide +kernel
theorem dX11_value_133 : decode cX11_value 133 = .ok (.iload 6, 2) := by decide +kernel
theorem dX11_value_135 : decode cX11_value 135 = .ok (.bipush (-9), 2) := by decide +kernel
theorem dX11_value_137 : decode cX11_value 137 = .ok (.if_icmp .eq 8, 3) := by decide +kernel
theorem dX11_value_140 : decode cX11_value 140 = .ok (.iload 4, 2) := by decide +kernel
theorem dX11_value_142 : decode cX11_value 142 = .ok (.ifCond .ne 8, 3) := by decide +kernel
theorem dX11_value_145 : decode cX11_value 145 = .ok (.iload 6, 2) := by decide +kernel
theorem dX11_value_147 : decode cX11_value 147 = .ok (.goto 10, 3) := by decide +kernel
theorem dX11_value_150 : decode cX11_value 150 = .ok (.aload_n 0, 1) := by decide +kernel
theorem dX11_value_151 : decode cX11_value 151 = .ok (.getfield 28, 3) := by decide +kernel
theorem dX11_value_154 : decode cX11_value 154 = .ok (.getfield 174, 3) := by decide +kernel
theorem dX11_value_157 : decode cX11_value 157 = .ok (.ireturn, 1) := by decide +kernel
theorem dX11_holds_0 : decode cX11_holds 0 = .ok (.iload_n 1, 1) := by decide +kernel
theorem dX11_holds_1 : decode cX11_holds 1 = .ok (.iconst 5, 1) := by decide +kernel
theorem dX11_holds_2 : decode cX11_holds 2 = .ok (.invokestatic 95, 3) := by decide +kernel
theorem dX11_holds_5 : decode cX11_holds 5 = .ok (.ifCond .ne 19, 3) := by decide +kernel
theorem dX11_holds_8 : decode cX11_holds 8 = .ok (.iload_n 2, 1) := by decide +kernel
theorem dX11_holds_9 : decode cX11_holds 9 = .ok (.iconst 5, 1) := by decide +kernel
theorem dX11_holds_10 : decode cX11_holds 10 = .ok (.invokestatic 95, 3) := by decide +kernel
theorem dX11_holds_13 : decode cX11_holds 13 = .ok (.ifCond .ne 11, 3) := by decide +kernel
theorem dX11_holds_16 : decode cX11_holds 16 = .ok (.iload_n 3, 1) := by decide +kernel
theorem dX11_holds_17 : decode cX11_holds 17 = .ok (.iconst 5, 1) := by decide +kernel
theorem dX11_holds_18 : decode cX11_holds 18 = .ok (.invokestatic 95, 3) := by decide +kernel
theorem dX11_holds_21 : decode cX11_holds 21 = .ok (.ifCond .eq 6, 3) := by decide +kernel
theorem dX11_holds_24 : decode cX11_holds 24 = .ok (.bipush (-2), 2) := by decide +kernel
theorem dX11_holds_26 : decode cX11_holds 26 = .ok (.ireturn, 1) := by decide +kernel
theorem dX11_holds_27 : decode cX11_holds 27 = .ok (.aload_n 0, 1) := by decide +kernel
theorem dX11_holds_28 : decode cX11_holds 28 = .ok (.getfield 91, 3) := by decide +kernel
theorem dX11_holds_31 : decode cX11_holds 31 = .ok (.ifCond .eq 20, 3) := by decide +kernel
theorem dX11_holds_34 : decode cX11_holds 34 = .ok (.aload_n 0, 1) := by decide +kernel
theorem dX11_holds_35 : decode cX11_holds 35 = .ok (.getfield 28, 3) := by decide +kernel
theorem dX11_holds_38 : decode cX11_holds 38 = .ok (.aload_n 0, 1) := by decide +kernel
theorem dX11_holds_39 : decode cX11_holds 39 = .ok (.getfield 77, 3) := by decide +kernel
theorem dX11_holds_42 : decode cX11_holds 42 = .ok (.iload_n 1, 1) := by decide +kernel
theorem dX11_holds_43 : decode cX11_holds 43 = .ok (.iload_n 2, 1) := by decide +kernel
theorem dX11_holds_44 : decode cX11_holds 44 = .ok (.iload_n 3, 1) := by decide +kernel
theorem dX11_holds_45 : decode cX11_holds 45 = .ok (.invokevirtual 177, 3) := by decide +kernel
theorem dX11_holds_48 : decode cX11_holds 48 = .ok (.goto 5, 3) := by decide +kernel
theorem dX11_holds_51 : decode cX11_holds 51 = .ok (.bipush (-3), 2) := by decide +kernel
theorem dX11_holds_53 : decode cX11_holds 53 = .ok (.ireturn, 1) := by decide +kernel
theorem dX11_counter_0 : decode cX11_counter 0 = .ok (.iload_n 1, 1) := by decide +kernel
theorem dX11_counter_1 : decode cX11_counter 1 = .ok (.iconst 2, 1) := by decide +kernel
theorem dX11_counter_2 : decode cX11_counter 2 = .ok (.invokestatic 95, 3) := by decide +kernel
theorem dX11_counter_5 : decode cX11_counter 5 = .ok (.ifCond .eq 6, 3) := by decide +kernel
theorem dX11_counter_8 : decode cX11_counter 8 = .ok (.bipush (-2), 2) := by decide +kernel
theorem dX11_counter_10 : decode cX11_counter 10 = .ok (.ireturn, 1) := by decide +kernel
theorem dX11_counter_11 : decode cX11_counter 11 = .ok (.aload_n 0, 1) := by decide +kernel
theorem dX11_counter_12 : decode cX11_counter 12 = .ok (.getfield 91, 3) := by decide +kernel
theorem dX11_counter_15 : decode cX11_counter 15 = .ok (.ifCond .ne 6, 3) := by decide +kernel
theorem dX11_counter_18 : decode cX11_counter 18 = .ok (.bipush (-3), 2) := by decide +kernel
theorem dX11_counter_20 : decode cX11_counter 20 = .ok (.ireturn, 1) := by decide +kernel
theorem dX11_counter_21 : decode cX11_counter 21 = .ok (.aload_n 0, 1) := by decide +kernel
theorem dX11_counter_22 : decode cX11_counter 22 = .ok (.getfield 28, 3) := by decide +kernel
theorem dX11_counter_25 : decode cX11_counter 25 = .ok (.aload_n 0, 1) := by decide +kernel
theorem dX11_counter_26 : decode cX11_counter 26 = .ok (.getfield 77, 3) := by decide +kernel
theorem dX11_counter_29 : decode cX11_counter 29 = .ok (.invokevirtual 181, 3) := by decide +kernel
theorem dX11_counter_32 : decode cX11_counter 32 = .ok (.ifCond .eq 15, 3) := by decide +kernel
theorem dX11_counter_35 : decode cX11_counter 35 = .ok (.aload_n 0, 1) := by decide +kernel
theorem dX11_counter_36 : decode cX11_counter 36 = .ok (.getfield 28, 3) := by decide +kernel
theorem dX11_counter_39 : decode cX11_counter 39 = .ok (.getfield 185, 3) := by decide +kernel
theorem dX11_counter_42 : decode cX11_counter 42 = .ok (.iload_n 1, 1) := by decide +kernel
theorem dX11_counter_43 : decode cX11_counter 43 = .ok (.iaload, 1) := by decide +kernel
theorem dX11_counter_44 : decode cX11_counter 44 = .ok (.goto 5, 3) := by decide +kernel
theorem dX11_counter_47 : decode cX11_counter 47 = .ok (.bipush (-9), 2) := by decide +kernel
theorem dX11_counter_49 : decode cX11_counter 49 = .ok (.ireturn, 1) := by decide +kernel
theorem dX11_normal_0 : decode cX11_normal 0 = .ok (.iload_n 1, 1) := by decide +kernel
theorem dX11_normal_1 : decode cX11_normal 1 = .ok (.iconst 1, 1) := by decide +kernel
theorem dX11_normal_2 : decode cX11_normal 2 = .ok (.invokestatic 95, 3) := by decide +kernel
theorem dX11_normal_5 : decode cX11_normal 5 = .ok (.ifCond .ne 12, 3) := by decide +kernel
theorem dX11_normal_8 : decode cX11_normal 8 = .ok (.iload_n 2, 1) := by decide +kernel
theorem dX11_normal_9 : decode cX11_normal 9 = .ok (.bipush 40, 2) := by decide +kernel
theorem dX11_normal_11 : decode cX11_normal 11 = .ok (.invokestatic 188, 3) := by decide +kernel
theorem dX11_normal_14 : decode cX11_normal 14 = .ok (.ifCond .eq 6, 3) := by decide +kernel
theorem dX11_normal_17 : decode cX11_normal 17 = .ok (.bipush (-2), 2) := by decide +kernel
theorem dX11_normal_19 : decode cX11_normal 19 = .ok (.ireturn, 1) := by decide +kernel
theorem dX11_normal_20 : decode cX11_normal 20 = .ok (.aload_n 0, 1) := by decide +kernel
theorem dX11_normal_21 : decode cX11_normal 21 = .ok (.getfield 91, 3) := by decide +kernel
theorem dX11_normal_24 : decode cX11_normal 24 = .ok (.ifCond .eq 29, 3) := by decide +kernel
theorem dX11_normal_27 : decode cX11_normal 27 = .ok (.aload_n 0, 1) := by decide +kernel
theorem dX11_normal_28 : decode cX11_normal 28 = .ok (.getfield 35, 3) := by decide +kernel
theorem dX11_normal_31 : decode cX11_normal 31 = .ok (.aload_n 0, 1) := by decide +kernel
theorem dX11_normal_32 : decode cX11_normal 32 = .ok (.getfield 77, 3) := by decide +kernel
theorem dX11_normal_35 : decode cX11_normal 35 = .ok (.iload_n 1, 1) := by decide +kernel
theorem dX11_normal_36 : decode cX11_normal 36 = .ok (.invokevirtual 154, 3) := by decide +kernel
theorem dX11_normal_39 : decode cX11_normal 39 = .ok (.aload_n 0, 1) := by decide +kernel
theorem dX11_normal_40 : decode cX11_normal 40 = .ok (.getfield 87, 3) := by decide +kernel
theorem dX11_normal_43 : decode cX11_normal 43 = .ok (.bipush (-9), 2) := by decide +kernel
theorem dX11_normal_45 : decode cX11_normal 45 = .ok (.iconst 0, 1) := by decide +kernel
theorem dX11_normal_46 : decode cX11_normal 46 = .ok (.iconst 0, 1) := by decide +kernel
theorem dX11_normal_47 : decode cX11_normal 47 = .ok (.invokevirtual 191, 3) := by decide +kernel
theorem dX11_normal_50 : decode cX11_normal 50 = .ok (.ifCond .ne 6, 3) := by decide +kernel
theorem dX11_normal_53 : decode cX11_normal 53 = .ok (.bipush (-3), 2) := by decide +kernel
theorem dX11_normal_55 : decode cX11_normal 55 = .ok (.ireturn, 1) := by decide +kernel
theorem dX11_normal_56 : decode cX11_normal 56 = .ok (.aload_n 0, 1) := by decide +kernel
theorem dX11_normal_57 : decode cX11_normal 57 = .ok (.getfield 87, 3) := by decide +kernel
theorem dX11_normal_60 : decode cX11_normal 60 = .ok (.iload_n 2, 1) := by decide +kernel
theorem dX11_normal_61 : decode cX11_normal 61 = .ok (.invokevirtual 136, 3) := by decide +kernel
theorem dX11_normal_64 : decode cX11_normal 64 = .ok (.ireturn, 1) := by decide +kernel
theorem dX11_scheme_0 : decode cX11_scheme 0 = .ok (.iload_n 1, 1) := by decide +kernel
theorem dX11_scheme_1 : decode cX11_scheme 1 = .ok (.iconst 2, 1) := by decide +kernel
theorem dX11_scheme_2 : decode cX11_scheme 2 = .ok (.invokestatic 95, 3) := by decide +kernel
theorem dX11_scheme_5 : decode cX11_scheme 5 = .ok (.ifCond .eq 6, 3) := by decide +kernel
theorem dX11_scheme_8 : decode cX11_scheme 8 = .ok (.bipush (-2), 2) := by decide +kernel
theorem dX11_scheme_10 : decode cX11_scheme 10 = .ok (.ireturn, 1) := by decide +kernel
theorem dX11_scheme_11 : decode cX11_scheme 11 = .ok (.aload_n 0, 1) := by decide +kernel
theorem dX11_scheme_12 : decode cX11_scheme 12 = .ok (.getfield 91, 3) := by decide +kernel
theorem dX11_scheme_15 : decode cX11_scheme 15 = .ok (.ifCond .ne 6, 3) := by decide +kernel
theorem dX11_scheme_18 : decode cX11_scheme 18 = .ok (.bipush (-3), 2) := by decide +kernel
theorem dX11_scheme_20 : decode cX11_scheme 20 = .ok (.ireturn, 1) := by decide +kernel
theorem dX11_scheme_21 : decode cX11_scheme 21 = .ok (.aload_n 0, 1) := by decide +kernel
theorem dX11_scheme_22 : decode cX11_scheme 22 = .ok (.getfield 77, 3) := by decide +kernel
theorem dX11_scheme_25 : decode cX11_scheme 25 = .ok (.aload_n 0, 1) := by decide +kernel
theorem dX11_scheme_26 : decode cX11_scheme 26 = .ok (.getfield 12, 3) := by decide +kernel
theorem dX11_scheme_29 : decode cX11_scheme 29 = .ok (.invokevirtual 195, 3) := by decide +kernel
theorem dX11_scheme_32 : decode cX11_scheme 32 = .ok (.istore_n 2, 1) := by decide +kernel
theorem dX11_scheme_33 : decode cX11_scheme 33 = .ok (.iload_n 2, 1) := by decide +kernel
theorem dX11_scheme_34 : decode cX11_scheme 34 = .ok (.bipush (-9), 2) := by decide +kernel
theorem dX11_scheme_36 : decode cX11_scheme 36 = .ok (.if_icmp .eq 7, 3) := by decide +kernel
theorem dX11_scheme_39 : decode cX11_scheme 39 = .ok (.iload_n 1, 1) := by decide +kernel
theorem dX11_scheme_40 : decode cX11_scheme 40 = .ok (.ifCond .ne 5, 3) := by decide +kernel
theorem dX11_scheme_43 : decode cX11_scheme 43 = .ok (.iload_n 2, 1) := by decide +kernel
theorem dX11_scheme_44 : decode cX11_scheme 44 = .ok (.ireturn, 1) := by decide +kernel
theorem dX11_scheme_45 : decode cX11_scheme 45 = .ok (.iload_n 1, 1) := by decide +kernel
theorem dX11_scheme_46 : decode cX11_scheme 46 = .ok (.iconst 1, 1) := by decide +kernel
theorem dX11_scheme_47 : decode cX11_scheme 47 = .ok (.if_icmp .ne 18, 3) := by decide +kernel
theorem dX11_scheme_50 : decode cX11_scheme 50 = .ok (.aload_n 0, 1) := by decide +kernel
theorem dX11_scheme_51 : decode cX11_scheme 51 = .ok (.getfield 77, 3) := by decide +kernel
theorem dX11_scheme_54 : decode cX11_scheme 54 = .ok (.iload_n 2, 1) := by decide +kernel
theorem dX11_scheme_55 : decode cX11_scheme 55 = .ok (.aload_n 0, 1) := by decide +kernel
theorem dX11_scheme_56 : decode cX11_scheme 56 = .ok (.getfield 12, 3) := by decide +kernel
theorem dX11_scheme_59 : decode cX11_scheme 59 = .ok (.invokevirtual 199, 3) := by decide +kernel
theorem dX11_scheme_62 : decode cX11_scheme 62 = .ok (.goto 11, 3) := by decide +kernel
theorem dX11_scheme_65 : decode cX11_scheme 65 = .ok (.aload_n 0, 1) := by decide +kernel
theorem dX11_scheme_66 : decode cX11_scheme 66 = .ok (.getfield 77, 3) := by decide +kernel
theorem dX11_scheme_69 : decode cX11_scheme 69 = .ok (.iload_n 2, 1) := by decide +kernel
theorem dX11_scheme_70 : decode cX11_scheme 70 = .ok (.invokevirtual 203, 3) := by decide +kernel
theorem dX11_scheme_73 : decode cX11_scheme 73 = .ok (.ireturn, 1) := by decide +kernel
theorem dX11_difference_0 : decode cX11_difference 0 = .ok (.aload_n 0, 1) := by decide +kernel
theorem dX11_difference_1 : decode cX11_difference 1 = .ok (.getfield 91, 3) := by decide +kernel
theorem dX11_difference_4 : decode cX11_difference 4 = .ok (.ifCond .eq 27, 3) := by decide +kernel
theorem dX11_difference_7 : decode cX11_difference 7 = .ok (.aload_n 0, 1) := by decide +kernel
theorem dX11_difference_8 : decode cX11_difference 8 = .ok (.getfield 42, 3) := by decide +kernel
theorem dX11_difference_11 : decode cX11_difference 11 = .ok (.aload_n 0, 1) := by decide +kernel
theorem dX11_difference_12 : decode cX11_difference 12 = .ok (.getfield 77, 3) := by decide +kernel
theorem dX11_difference_15 : decode cX11_difference 15 = .ok (.getfield 144, 3) := by decide +kernel
theorem dX11_difference_18 : decode cX11_difference 18 = .ok (.aload_n 0, 1) := by decide +kernel
theorem dX11_difference_19 : decode cX11_difference 19 = .ok (.getfield 77, 3) := by decide +kernel
theorem dX11_difference_22 : decode cX11_difference 22 = .ok (.getfield 151, 3) := by decide +kernel
theorem dX11_difference_25 : decode cX11_difference 25 = .ok (.invokevirtual 206, 3) := by decide +kernel
theorem dX11_difference_28 : decode cX11_difference 28 = .ok (.goto 5, 3) := by decide +kernel
theorem dX11_difference_31 : decode cX11_difference 31 = .ok (.bipush (-3), 2) := by decide +kernel
theorem dX11_difference_33 : decode cX11_difference 33 = .ok (.ireturn, 1) := by decide +kernel
theorem dX11_steered_0 : decode cX11_steered 0 = .ok (.iload_n 1, 1) := by decide +kernel
theorem dX11_steered_1 : decode cX11_steered 1 = .ok (.bipush 40, 2) := by decide +kernel
theorem dX11_steered_3 : decode cX11_steered 3 = .ok (.invokestatic 188, 3) := by decide +kernel
theorem dX11_steered_6 : decode cX11_steered 6 = .ok (.ifCond .eq 6, 3) := by decide +kernel
theorem dX11_steered_9 : decode cX11_steered 9 = .ok (.bipush (-2), 2) := by decide +kernel
theorem dX11_steered_11 : decode cX11_steered 11 = .ok (.ireturn, 1) := by decide +kernel
theorem dX11_steered_12 : decode cX11_steered 12 = .ok (.aload_n 0, 1) := by decide +kernel
theorem dX11_steered_13 : decode cX11_steered 13 = .ok (.getfield 91, 3) := by decide +kernel
theorem dX11_steered_16 : decode cX11_steered 16 = .ok (.ifCond .eq 29, 3) := by decide +kernel
theorem dX11_steered_19 : decode cX11_steered 19 = .ok (.aload_n 0, 1) := by decide +kernel
theorem dX11_steered_20 : decode cX11_steered 20 = .ok (.getfield 42, 3) := by decide +kernel
theorem dX11_steered_23 : decode cX11_steered 23 = .ok (.aload_n 0, 1) := by decide +kernel
theorem dX11_steered_24 : decode cX11_steered 24 = .ok (.getfield 77, 3) := by decide +kernel
theorem dX11_steered_27 : decode cX11_steered 27 = .ok (.getfield 144, 3) := by decide +kernel
theorem dX11_steered_30 : decode cX11_steered 30 = .ok (.aload_n 0, 1) := by decide +kernel
theorem dX11_steered_31 : decode cX11_steered 31 = .ok (.getfield 77, 3) := by decide +kernel
theorem dX11_steered_34 : decode cX11_steered 34 = .ok (.getfield 151, 3) := by decide +kernel
theorem dX11_steered_37 : decode cX11_steered 37 = .ok (.invokevirtual 206, 3) := by decide +kernel
theorem dX11_steered_40 : decode cX11_steered 40 = .ok (.bipush (-9), 2) := by decide +kernel
theorem dX11_steered_42 : decode cX11_steered 42 = .ok (.if_icmp .ne 6, 3) := by decide +kernel
theorem dX11_steered_45 : decode cX11_steered 45 = .ok (.bipush (-3), 2) := by decide +kernel
theorem dX11_steered_47 : decode cX11_steered 47 = .ok (.ireturn, 1) := by decide +kernel
theorem dX11_steered_48 : decode cX11_steered 48 = .ok (.aload_n 0, 1) := by decide +kernel
theorem dX11_steered_49 : decode cX11_steered 49 = .ok (.getfield 87, 3) := by decide +kernel
theorem dX11_steered_52 : decode cX11_steered 52 = .ok (.aload_n 0, 1) := by decide +kernel
theorem dX11_steered_53 : decode cX11_steered 53 = .ok (.getfield 77, 3) := by decide +kernel
theorem dX11_steered_56 : decode cX11_steered 56 = .ok (.getfield 144, 3) := by decide +kernel
theorem dX11_steered_59 : decode cX11_steered 59 = .ok (.invokevirtual 147, 3) := by decide +kernel
theorem dX11_steered_62 : decode cX11_steered 62 = .ok (.iconst 0, 1) := by decide +kernel
theorem dX11_steered_63 : decode cX11_steered 63 = .ok (.istore_n 2, 1) := by decide +kernel
theorem dX11_steered_64 : decode cX11_steered 64 = .ok (.iload_n 2, 1) := by decide +kernel
theorem dX11_steered_65 : decode cX11_steered 65 = .ok (.sipush 1600, 3) := by decide +kernel
theorem dX11_steered_68 : decode cX11_steered 68 = .ok (.if_icmp .ge 35, 3) := by decide +kernel
theorem dX11_steered_71 : decode cX11_steered 71 = .ok (.aload_n 0, 1) := by decide +kernel
theorem dX11_steered_72 : decode cX11_steered 72 = .ok (.getfield 54, 3) := by decide +kernel
theorem dX11_steered_75 : decode cX11_steered 75 = .ok (.aload_n 0, 1) := by decide +kernel
theorem dX11_steered_76 : decode cX11_steered 76 = .ok (.getfield 87, 3) := by decide +kernel
theorem dX11_steered_79 : decode cX11_steered 79 = .ok (.aload_n 0, 1) := by decide +kernel
theorem dX11_steered_80 : decode cX11_steered 80 = .ok (.getfield 77, 3) := by decide +kernel
theorem dX11_steered_83 : decode cX11_steered 83 = .ok (.getfield 151, 3) := by decide +kernel
theorem dX11_steered_86 : decode cX11_steered 86 = .ok (.invokevirtual 210, 3) := by decide +kernel
theorem dX11_steered_89 : decode cX11_steered 89 = .ok (.bipush (-9), 2) := by decide +kernel
theorem dX11_steered_91 : decode cX11_steered 91 = .ok (.if_icmp .ne 6, 3) := by decide +kernel
theorem dX11_steered_94 : decode cX11_steered 94 = .ok (.goto 9, 3) := by decide +kernel
theorem dX11_steered_97 : decode cX11_steered 97 = .ok (.iinc 2 1, 3) := by decide +kernel
theorem dX11_steered_100 : decode cX11_steered 100 = .ok (.goto (-36), 3) := by decide +kernel
theorem dX11_steered_103 : decode cX11_steered 103 = .ok (.aload_n 0, 1) := by decide +kernel
theorem dX11_steered_104 : decode cX11_steered 104 = .ok (.getfield 87, 3) := by decide +kernel
theorem dX11_steered_107 : decode cX11_steered 107 = .ok (.iload_n 1, 1) := by decide +kernel
theorem dX11_steered_108 : decode cX11_steered 108 = .ok (.invokevirtual 136, 3) := by decide +kernel
theorem dX11_steered_111 : decode cX11_steered 111 = .ok (.ireturn, 1) := by decide +kernel
theorem dX11_common_0 : decode cX11_common 0 = .ok (.iload_n 1, 1) := by decide +kernel
theorem dX11_common_1 : decode cX11_common 1 = .ok (.bipush 20, 2) := by decide +kernel
theorem dX11_common_3 : decode cX11_common 3 = .ok (.invokestatic 188, 3) := by decide +kernel
theorem dX11_common_6 : decode cX11_common 6 = .ok (.ifCond .eq 6, 3) := by decide +kernel
theorem dX11_common_9 : decode cX11_common 9 = .ok (.bipush (-2), 2) := by decide +kernel
theorem dX11_common_11 : decode cX11_common 11 = .ok (.ireturn, 1) := by decide +kernel
theorem dX11_common_12 : decode cX11_common 12 = .ok (.aload_n 0, 1) := by decide +kernel
theorem dX11_common_13 : decode cX11_common 13 = .ok (.getfield 91, 3) := by decide +kernel
theorem dX11_common_16 : decode cX11_common 16 = .ok (.ifCond .ne 6, 3) := by decide +kernel
theorem dX11_common_19 : decode cX11_common 19 = .ok (.bipush (-3), 2) := by decide +kernel
theorem dX11_common_21 : decode cX11_common 21 = .ok (.ireturn, 1) := by decide +kernel
theorem dX11_common_22 : decode cX11_common 22 = .ok (.aload_n 0, 1) := by decide +kernel
theorem dX11_common_23 : decode cX11_common 23 = .ok (.getfield 77, 3) := by decide +kernel
theorem dX11_common_26 : decode cX11_common 26 = .ok (.invokevirtual 213, 3) := by decide +kernel
theorem dX11_common_29 : decode cX11_common 29 = .ok (.istore_n 2, 1) := by decide +kernel
theorem dX11_common_30 : decode cX11_common 30 = .ok (.iload_n 2, 1) := by decide +kernel
theorem dX11_common_31 : decode cX11_common 31 = .ok (.bipush (-9), 2) := by decide +kernel
theorem dX11_common_33 : decode cX11_common 33 = .ok (.if_icmp .ne 6, 3) := by decide +kernel
theorem dX11_common_36 : decode cX11_common 36 = .ok (.bipush (-9), 2) := by decide +kernel
theorem dX11_common_38 : decode cX11_common 38 = .ok (.ireturn, 1) := by decide +kernel
theorem dX11_common_39 : decode cX11_common 39 = .ok (.aload_n 0, 1) := by decide +kernel
theorem dX11_common_40 : decode cX11_common 40 = .ok (.getfield 87, 3) := by decide +kernel
theorem dX11_common_43 : decode cX11_common 43 = .ok (.invokevirtual 165, 3) := by decide +kernel
theorem dX11_common_46 : decode cX11_common 46 = .ok (.aload_n 0, 1) := by decide +kernel
theorem dX11_common_47 : decode cX11_common 47 = .ok (.getfield 87, 3) := by decide +kernel
theorem dX11_common_50 : decode cX11_common 50 = .ok (.aload_n 0, 1) := by decide +kernel
theorem dX11_common_51 : decode cX11_common 51 = .ok (.getfield 77, 3) := by decide +kernel
theorem dX11_common_54 : decode cX11_common 54 = .ok (.getfield 144, 3) := by decide +kernel
theorem dX11_common_57 : decode cX11_common 57 = .ok (.iload_n 2, 1) := by decide +kernel
theorem dX11_common_58 : decode cX11_common 58 = .ok (.aload_n 0, 1) := by decide +kernel
theorem dX11_common_59 : decode cX11_common 59 = .ok (.getfield 77, 3) := by decide +kernel
theorem dX11_common_62 : decode cX11_common 62 = .ok (.getfield 144, 3) := by decide +kernel
theorem dX11_common_65 : decode cX11_common 65 = .ok (.getfield 217, 3) := by decide +kernel
theorem dX11_common_68 : decode cX11_common 68 = .ok (.iload_n 2, 1) := by decide +kernel
theorem dX11_common_69 : decode cX11_common 69 = .ok (.iaload, 1) := by decide +kernel
theorem dX11_common_70 : decode cX11_common 70 = .ok (.invokevirtual 220, 3) := by decide +kernel
theorem dX11_common_73 : decode cX11_common 73 = .ok (.pop, 1) := by decide +kernel
theorem dX11_common_74 : decode cX11_common 74 = .ok (.aload_n 0, 1) := by decide +kernel
theorem dX11_common_75 : decode cX11_common 75 = .ok (.getfield 87, 3) := by decide +kernel
theorem dX11_common_78 : decode cX11_common 78 = .ok (.iload_n 1, 1) := by decide +kernel
theorem dX11_common_79 : decode cX11_common 79 = .ok (.invokevirtual 136, 3) := by decide +kernel
theorem dX11_common_82 : decode cX11_common 82 = .ok (.ireturn, 1) := by decide +kernel
theorem dX11_general_0 : decode cX11_general 0 = .ok (.iload_n 1, 1) := by decide +kernel
theorem dX11_general_1 : decode cX11_general 1 = .ok (.iconst 1, 1) := by decide +kernel
theorem dX11_general_2 : decode cX11_general 2 = .ok (.invokestatic 95, 3) := by decide +kernel
theorem dX11_general_5 : decode cX11_general 5 = .ok (.ifCond .ne 12, 3) := by decide +kernel
theorem dX11_general_8 : decode cX11_general 8 = .ok (.iload_n 2, 1) := by decide +kernel
theorem dX11_general_9 : decode cX11_general 9 = .ok (.bipush 20, 2) := by decide +kernel
theorem dX11_general_11 : decode cX11_general 11 = .ok (.invokestatic 188, 3) := by decide +kernel
theorem dX11_general_14 : decode cX11_general 14 = .ok (.ifCond .eq 6, 3) := by decide +kernel
theorem dX11_general_17 : decode cX11_general 17 = .ok (.bipush (-2), 2) := by decide +kernel
theorem dX11_general_19 : decode cX11_general 19 = .ok (.ireturn, 1) := by decide +kernel
theorem dX11_general_20 : decode cX11_general 20 = .ok (.aload_n 0, 1) := by decide +kernel
theorem dX11_general_21 : decode cX11_general 21 = .ok (.getfield 91, 3) := by decide +kernel
theorem dX11_general_24 : decode cX11_general 24 = .ok (.ifCond .ne 6, 3) := by decide +kernel
theorem dX11_general_27 : decode cX11_general 27 = .ok (.bipush (-3), 2) := by decide +kernel
theorem dX11_general_29 : decode cX11_general 29 = .ok (.ireturn, 1) := by decide +kernel
theorem dX11_general_30 : decode cX11_general 30 = .ok (.aload_n 0, 1) := by decide +kernel
theorem dX11_general_31 : decode cX11_general 31 = .ok (.getfield 77, 3) := by decide +kernel
theorem dX11_general_34 : decode cX11_general 34 = .ok (.aload_n 0, 1) := by decide +kernel
theorem dX11_general_35 : decode cX11_general 35 = .ok (.getfield 81, 3) := by decide +kernel
theorem dX11_general_38 : decode cX11_general 38 = .ok (.aload_n 0, 1) := by decide +kernel
theorem dX11_general_39 : decode cX11_general 39 = .ok (.getfield 12, 3) := by decide +kernel
theorem dX11_general_42 : decode cX11_general 42 = .ok (.invokevirtual 224, 3) := by decide +kernel
theorem dX11_general_45 : decode cX11_general 45 = .ok (.pop, 1) := by decide +kernel
theorem dX11_general_46 : decode cX11_general 46 = .ok (.aload_n 0, 1) := by decide +kernel
theorem dX11_general_47 : decode cX11_general 47 = .ok (.getfield 81, 3) := by decide +kernel
theorem dX11_general_50 : decode cX11_general 50 = .ok (.iload_n 1, 1) := by decide +kernel
theorem dX11_general_51 : decode cX11_general 51 = .ok (.invokevirtual 154, 3) := by decide +kernel
theorem dX11_general_54 : decode cX11_general 54 = .ok (.iload_n 2, 1) := by decide +kernel
theorem dX11_general_55 : decode cX11_general 55 = .ok (.invokevirtual 136, 3) := by decide +kernel
theorem dX11_general_58 : decode cX11_general 58 = .ok (.ireturn, 1) := by decide +kernel
theorem dX11_prove_0 : decode cX11_prove 0 = .ok (.aload_n 0, 1) := by decide +kernel
theorem dX11_prove_1 : decode cX11_prove 1 = .ok (.getfield 91, 3) := by decide +kernel
theorem dX11_prove_4 : decode cX11_prove 4 = .ok (.ifCond .ne 6, 3) := by decide +kernel
theorem dX11_prove_7 : decode cX11_prove 7 = .ok (.bipush (-3), 2) := by decide +kernel
theorem dX11_prove_9 : decode cX11_prove 9 = .ok (.ireturn, 1) := by decide +kernel
theorem dX11_prove_10 : decode cX11_prove 10 = .ok (.aload_n 0, 1) := by decide +kernel
theorem dX11_prove_11 : decode cX11_prove 11 = .ok (.getfield 61, 3) := by decide +kernel
theorem dX11_prove_14 : decode cX11_prove 14 = .ok (.invokevirtual 162, 3) := by decide +kernel
theorem dX11_prove_17 : decode cX11_prove 17 = .ok (.aload_n 0, 1) := by decide +kernel
theorem dX11_prove_18 : decode cX11_prove 18 = .ok (.getfield 70, 3) := by decide +kernel
theorem dX11_prove_21 : decode cX11_prove 21 = .ok (.getfield 228, 3) := by decide +kernel
theorem dX11_prove_24 : decode cX11_prove 24 = .ok (.iconst 0, 1) := by decide +kernel
theorem dX11_prove_25 : decode cX11_prove 25 = .ok (.aaload, 1) := by decide +kernel
theorem dX11_prove_26 : decode cX11_prove 26 = .ok (.aload_n 0, 1) := by decide +kernel
theorem dX11_prove_27 : decode cX11_prove 27 = .ok (.getfield 77, 3) := by decide +kernel
theorem dX11_prove_30 : decode cX11_prove 30 = .ok (.invokevirtual 232, 3) := by decide +kernel
theorem dX11_prove_33 : decode cX11_prove 33 = .ok (.aload_n 0, 1) := by decide +kernel
theorem dX11_prove_34 : decode cX11_prove 34 = .ok (.getfield 70, 3) := by decide +kernel
theorem dX11_prove_37 : decode cX11_prove 37 = .ok (.iconst 0, 1) := by decide +kernel
theorem dX11_prove_38 : decode cX11_prove 38 = .ok (.invokevirtual 235, 3) := by decide +kernel
theorem dX11_prove_41 : decode cX11_prove 41 = .ok (.istore_n 1, 1) := by decide +kernel
theorem dX11_prove_42 : decode cX11_prove 42 = .ok (.iload_n 1, 1) := by decide +kernel
theorem dX11_prove_43 : decode cX11_prove 43 = .ok (.iconst 3, 1) := by decide +kernel
theorem dX11_prove_44 : decode cX11_prove 44 = .ok (.if_icmp .ne 12, 3) := by decide +kernel
theorem dX11_prove_47 : decode cX11_prove 47 = .ok (.aload_n 0, 1) := by decide +kernel
theorem dX11_prove_48 : decode cX11_prove 48 = .ok (.getfield 61, 3) := by decide +kernel
theorem dX11_prove_51 : decode cX11_prove 51 = .ok (.iconst 0, 1) := by decide +kernel
theorem dX11_prove_52 : decode cX11_prove 52 = .ok (.iconst 3, 1) := by decide +kernel
theorem dX11_prove_53 : decode cX11_prove 53 = .ok (.invokevirtual 238, 3) := by decide +kernel
theorem dX11_prove_56 : decode cX11_prove 56 = .ok (.iload_n 1, 1) := by decide +kernel
theorem dX11_prove_57 : decode cX11_prove 57 = .ok (.ireturn, 1) := by decide +kernel
theorem dX11_why_0 : decode cX11_why 0 = .ok (.iload_n 1, 1) := by decide +kernel
theorem dX11_why_1 : decode cX11_why 1 = .ok (.bipush 9, 2) := by decide +kernel
theorem dX11_why_3 : decode cX11_why 3 = .ok (.invokestatic 95, 3) := by decide +kernel
theorem dX11_why_6 : decode cX11_why 6 = .ok (.ifCond .eq 6, 3) := by decide +kernel
theorem dX11_why_9 : decode cX11_why 9 = .ok (.bipush (-2), 2) := by decide +kernel
theorem dX11_why_11 : decode cX11_why 11 = .ok (.ireturn, 1) := by decide +kernel
theorem dX11_why_12 : decode cX11_why 12 = .ok (.iload_n 1, 1) := by decide +kernel
theorem dX11_why_13 : decode cX11_why 13 = .ok (.aload_n 0, 1) := by decide +kernel
theorem dX11_why_14 : decode cX11_why 14 = .ok (.getfield 61, 3) := by decide +kernel
theorem dX11_why_17 : decode cX11_why 17 = .ok (.getfield 242, 3) := by decide +kernel
theorem dX11_why_20 : decode cX11_why 20 = .ok (.if_icmp .ge 15, 3) := by decide +kernel
theorem dX11_why_23 : decode cX11_why 23 = .ok (.aload_n 0, 1) := by decide +kernel
theorem dX11_why_24 : decode cX11_why 24 = .ok (.getfield 61, 3) := by decide +kernel
theorem dX11_why_27 : decode cX11_why 27 = .ok (.getfield 245, 3) := by decide +kernel
theorem dX11_why_30 : decode cX11_why 30 = .ok (.iload_n 1, 1) := by decide +kernel
theorem dX11_why_31 : decode cX11_why 31 = .ok (.iaload, 1) := by decide +kernel
theorem dX11_why_32 : decode cX11_why 32 = .ok (.goto 5, 3) := by decide +kernel
theorem dX11_why_35 : decode cX11_why 35 = .ok (.bipush (-9), 2) := by decide +kernel
theorem dX11_why_37 : decode cX11_why 37 = .ok (.ireturn, 1) := by decide +kernel
theorem dX11_script_0 : decode cX11_script 0 = .ok (.iload_n 1, 1) := by decide +kernel
theorem dX11_script_1 : decode cX11_script 1 = .ok (.bipush 98, 2) := by decide +kernel
theorem dX11_script_3 : decode cX11_script 3 = .ok (.invokestatic 95, 3) := by decide +kernel
theorem dX11_script_6 : decode cX11_script 6 = .ok (.ifCond .ne 11, 3) := by decide +kernel
theorem dX11_script_9 : decode cX11_script 9 = .ok (.iload_n 2, 1) := by decide +kernel
theorem dX11_script_10 : decode cX11_script 10 = .ok (.iconst 1, 1) := by decide +kernel
theorem dX11_script_11 : decode cX11_script 11 = .ok (.invokestatic 95, 3) := by decide +kernel
theorem dX11_script_14 : decode cX11_script 14 = .ok (.ifCond .eq 6, 3) := by decide +kernel
theorem dX11_script_17 : decode cX11_script 17 = .ok (.bipush (-2), 2) := by decide +kernel
theorem dX11_script_19 : decode cX11_script 19 = .ok (.ireturn, 1) := by decide +kernel
theorem dX11_script_20 : decode cX11_script 20 = .ok (.iload_n 1, 1) := by decide +kernel
theorem dX11_script_21 : decode cX11_script 21 = .ok (.aload_n 0, 1) := by decide +kernel
theorem dX11_script_22 : decode cX11_script 22 = .ok (.getfield 61, 3) := by decide +kernel
theorem dX11_script_25 : decode cX11_script 25 = .ok (.getfield 248, 3) := by decide +kernel
theorem dX11_script_28 : decode cX11_script 28 = .ok (.if_icmp .lt 6, 3) := by decide +kernel
theorem dX11_script_31 : decode cX11_script 31 = .ok (.bipush (-9), 2) := by decide +kernel
theorem dX11_script_33 : decode cX11_script 33 = .ok (.ireturn, 1) := by decide +kernel
theorem dX11_script_34 : decode cX11_script 34 = .ok (.iload_n 2, 1) := by decide +kernel
theorem dX11_script_35 : decode cX11_script 35 = .ok (.ifCond .ne 15, 3) := by decide +kernel
theorem dX11_script_38 : decode cX11_script 38 = .ok (.aload_n 0, 1) := by decide +kernel
theorem dX11_script_39 : decode cX11_script 39 = .ok (.getfield 61, 3) := by decide +kernel
theorem dX11_script_42 : decode cX11_script 42 = .ok (.getfield 249, 3) := by decide +kernel
theorem dX11_script_45 : decode cX11_script 45 = .ok (.iload_n 1, 1) := by decide +kernel
theorem dX11_script_46 : decode cX11_script 46 = .ok (.iaload, 1) := by decide +kernel
theorem dX11_script_47 : decode cX11_script 47 = .ok (.goto 12, 3) := by decide +kernel
theorem dX11_script_50 : decode cX11_script 50 = .ok (.aload_n 0, 1) := by decide +kernel
theorem dX11_script_51 : decode cX11_script 51 = .ok (.getfield 61, 3) := by decide +kernel
theorem dX11_script_54 : decode cX11_script 54 = .ok (.getfield 252, 3) := by decide +kernel
theorem dX11_script_57 : decode cX11_script 57 = .ok (.iload_n 1, 1) := by decide +kernel
theorem dX11_script_58 : decode cX11_script 58 = .ok (.iaload, 1) := by decide +kernel
theorem dX11_script_59 : decode cX11_script 59 = .ok (.ireturn, 1) := by decide +kernel
theorem dX11_lemma_0 : decode cX11_lemma 0 = .ok (.iload_n 1, 1) := by decide +kernel
theorem dX11_lemma_1 : decode cX11_lemma 1 = .ok (.aload_n 0, 1) := by decide +kernel
theorem dX11_lemma_2 : decode cX11_lemma 2 = .ok (.getfield 54, 3) := by decide +kernel
theorem dX11_lemma_5 : decode cX11_lemma 5 = .ok (.getfield 161, 3) := by decide +kernel
theorem dX11_lemma_8 : decode cX11_lemma 8 = .ok (.iconst 1, 1) := by decide +kernel
theorem dX11_lemma_9 : decode cX11_lemma 9 = .ok (.isub, 1) := by decide +kernel
theorem dX11_lemma_10 : decode cX11_lemma 10 = .ok (.invokestatic 95, 3) := by decide +kernel
theorem dX11_lemma_13 : decode cX11_lemma 13 = .ok (.ifCond .eq 5, 3) := by decide +kernel
theorem dX11_lemma_16 : decode cX11_lemma 16 = .ok (.iconst (-1), 1) := by decide +kernel
theorem dX11_lemma_17 : decode cX11_lemma 17 = .ok (.ireturn, 1) := by decide +kernel
theorem dX11_lemma_18 : decode cX11_lemma 18 = .ok (.iload_n 2, 1) := by decide +kernel
theorem dX11_lemma_19 : decode cX11_lemma 19 = .ok (.iconst 1, 1) := by decide +kernel
theorem dX11_lemma_20 : decode cX11_lemma 20 = .ok (.invokestatic 95, 3) := by decide +kernel
theorem dX11_lemma_23 : decode cX11_lemma 23 = .ok (.ifCond .ne 12, 3) := by decide +kernel
theorem dX11_lemma_26 : decode cX11_lemma 26 = .ok (.iload_n 3, 1) := by decide +kernel
theorem dX11_lemma_27 : decode cX11_lemma 27 = .ok (.bipush 40, 2) := by decide +kernel
theorem dX11_lemma_29 : decode cX11_lemma 29 = .ok (.invokestatic 188, 3) := by decide +kernel
theorem dX11_lemma_32 : decode cX11_lemma 32 = .ok (.ifCond .eq 6, 3) := by decide +kernel
theorem dX11_lemma_35 : decode cX11_lemma 35 = .ok (.bipush (-2), 2) := by decide +kernel
theorem dX11_lemma_37 : decode cX11_lemma 37 = .ok (.ireturn, 1) := by decide +kernel
theorem dX11_lemma_38 : decode cX11_lemma 38 = .ok (.aload_n 0, 1) := by decide +kernel
theorem dX11_lemma_39 : decode cX11_lemma 39 = .ok (.getfield 54, 3) := by decide +kernel
theorem dX11_lemma_42 : decode cX11_lemma 42 = .ok (.getfield 255, 3) := by decide +kernel
theorem dX11_lemma_45 : decode cX11_lemma 45 = .ok (.iload_n 1, 1) := by decide +kernel
theorem dX11_lemma_46 : decode cX11_lemma 46 = .ok (.aaload, 1) := by decide +kernel
theorem dX11_lemma_47 : decode cX11_lemma 47 = .ok (.iload_n 2, 1) := by decide +kernel
theorem dX11_lemma_48 : decode cX11_lemma 48 = .ok (.invokevirtual 154, 3) := by decide +kernel
theorem dX11_lemma_51 : decode cX11_lemma 51 = .ok (.iload_n 3, 1) := by decide +kernel
theorem dX11_lemma_52 : decode cX11_lemma 52 = .ok (.invokevirtual 136, 3) := by decide +kernel
theorem dX11_lemma_55 : decode cX11_lemma 55 = .ok (.ireturn, 1) := by decide +kernel
theorem dX11_tested_0 : decode cX11_tested 0 = .ok (.iload_n 1, 1) := by decide +kernel
theorem dX11_tested_1 : decode cX11_tested 1 = .ok (.aload_n 0, 1) := by decide +kernel
theorem dX11_tested_2 : decode cX11_tested 2 = .ok (.getfield 54, 3) := by decide +kernel
theorem dX11_tested_5 : decode cX11_tested 5 = .ok (.getfield 161, 3) := by decide +kernel
theorem dX11_tested_8 : decode cX11_tested 8 = .ok (.iconst 1, 1) := by decide +kernel
theorem dX11_tested_9 : decode cX11_tested 9 = .ok (.isub, 1) := by decide +kernel
theorem dX11_tested_10 : decode cX11_tested 10 = .ok (.invokestatic 95, 3) := by decide +kernel
theorem dX11_tested_13 : decode cX11_tested 13 = .ok (.ifCond .eq 5, 3) := by decide +kernel
theorem dX11_tested_16 : decode cX11_tested 16 = .ok (.iconst (-1), 1) := by decide +kernel
theorem dX11_tested_17 : decode cX11_tested 17 = .ok (.ireturn, 1) := by decide +kernel
theorem dX11_tested_18 : decode cX11_tested 18 = .ok (.iload_n 2, 1) := by decide +kernel
theorem dX11_tested_19 : decode cX11_tested 19 = .ok (.iconst 2, 1) := by decide +kernel
theorem dX11_tested_20 : decode cX11_tested 20 = .ok (.invokestatic 95, 3) := by decide +kernel
theorem dX11_tested_23 : decode cX11_tested 23 = .ok (.ifCond .eq 6, 3) := by decide +kernel
theorem dX11_tested_26 : decode cX11_tested 26 = .ok (.bipush (-2), 2) := by decide +kernel
theorem dX11_tested_28 : decode cX11_tested 28 = .ok (.ireturn, 1) := by decide +kernel
theorem dX11_tested_29 : decode cX11_tested 29 = .ok (.iload_n 2, 1) := by decide +kernel
theorem dX11_tested_30 : decode cX11_tested 30 = .ok (.ifCond .ne 7, 3) := by decide +kernel
theorem dX11_tested_33 : decode cX11_tested 33 = .ok (.iconst 1, 1) := by decide +kernel
theorem dX11_tested_34 : decode cX11_tested 34 = .ok (.goto 14, 3) := by decide +kernel
theorem dX11_tested_37 : decode cX11_tested 37 = .ok (.iload_n 2, 1) := by decide +kernel
theorem dX11_tested_38 : decode cX11_tested 38 = .ok (.iconst 1, 1) := by decide +kernel
theorem dX11_tested_39 : decode cX11_tested 39 = .ok (.if_icmp .ne 7, 3) := by decide +kernel
theorem dX11_tested_42 : decode cX11_tested 42 = .ok (.iconst 0, 1) := by decide +kernel
theorem dX11_tested_43 : decode cX11_tested 43 = .ok (.goto 5, 3) := by decide +kernel
theorem dX11_tested_46 : decode cX11_tested 46 = .ok (.bipush (-9), 2) := by decide +kernel
theorem dX11_tested_48 : decode cX11_tested 48 = .ok (.istore_n 3, 1) := by decide +kernel
theorem dX11_tested_49 : decode cX11_tested 49 = .ok (.aload_n 0, 1) := by decide +kernel
theorem dX11_tested_50 : decode cX11_tested 50 = .ok (.getfield 28, 3) := by decide +kernel
theorem dX11_tested_53 : decode cX11_tested 53 = .ok (.aload_n 0, 1) := by decide +kernel
theorem dX11_tested_54 : decode cX11_tested 54 = .ok (.getfield 54, 3) := by decide +kernel
theorem dX11_tested_57 : decode cX11_tested 57 = .ok (.getfield 255, 3) := by decide +kernel
theorem dX11_tested_60 : decode cX11_tested 60 = .ok (.iload_n 1, 1) := by decide +kernel
theorem dX11_tested_61 : decode cX11_tested 61 = .ok (.aaload, 1) := by decide +kernel
theorem dX11_tested_62 : decode cX11_tested 62 = .ok (.iload_n 3, 1) := by decide +kernel
theorem dX11_tested_63 : decode cX11_tested 63 = .ok (.invokevirtual 258, 3) := by decide +kernel
theorem dX11_tested_66 : decode cX11_tested 66 = .ok (.ireturn, 1) := by decide +kernel
theorem dX11_back_0 : decode cX11_back 0 = .ok (.aload_n 0, 1) := by decide +kernel
theorem dX11_back_1 : decode cX11_back 1 = .ok (.getfield 54, 3) := by decide +kernel
theorem dX11_back_4 : decode cX11_back 4 = .ok (.getfield 161, 3) := by decide +kernel
theorem dX11_back_7 : decode cX11_back 7 = .ok (.ifCond .gt 6, 3) := by decide +kernel
theorem dX11_back_10 : decode cX11_back 10 = .ok (.bipush (-3), 2) := by decide +kernel
theorem dX11_back_12 : decode cX11_back 12 = .ok (.ireturn, 1) := by decide +kernel
theorem dX11_back_13 : decode cX11_back 13 = .ok (.aload_n 0, 1) := by decide +kernel
theorem dX11_back_14 : decode cX11_back 14 = .ok (.getfield 54, 3) := by decide +kernel
theorem dX11_back_17 : decode cX11_back 17 = .ok (.dup, 1) := by decide +kernel
theorem dX11_back_18 : decode cX11_back 18 = .ok (.getfield 161, 3) := by decide +kernel
theorem dX11_back_21 : decode cX11_back 21 = .ok (.iconst 1, 1) := by decide +kernel
theorem dX11_back_22 : decode cX11_back 22 = .ok (.isub, 1) := by decide +kernel
theorem dX11_back_23 : decode cX11_back 23 = .ok (.putfield 161, 3) := by decide +kernel
theorem dX11_back_26 : decode cX11_back 26 = .ok (.aload_n 0, 1) := by decide +kernel
theorem dX11_back_27 : decode cX11_back 27 = .ok (.getfield 54, 3) := by decide +kernel
theorem dX11_back_30 : decode cX11_back 30 = .ok (.getfield 161, 3) := by decide +kernel
theorem dX11_back_33 : decode cX11_back 33 = .ok (.ireturn, 1) := by decide +kernel
theorem dX11_many_0 : decode cX11_many 0 = .ok (.iload_n 1, 1) := by decide +kernel
theorem dX11_many_1 : decode cX11_many 1 = .ok (.tableswitch 63 0 3 #[31, 39, 47, 55], 31) := by decide +kernel
theorem dX11_many_32 : decode cX11_many 32 = .ok (.aload_n 0, 1) := by decide +kernel
theorem dX11_many_33 : decode cX11_many 33 = .ok (.getfield 12, 3) := by decide +kernel
theorem dX11_many_36 : decode cX11_many 36 = .ok (.getfield 107, 3) := by decide +kernel
theorem dX11_many_39 : decode cX11_many 39 = .ok (.ireturn, 1) := by decide +kernel
theorem dX11_many_40 : decode cX11_many 40 = .ok (.aload_n 0, 1) := by decide +kernel
theorem dX11_many_41 : decode cX11_many 41 = .ok (.getfield 54, 3) := by decide +kernel
theorem dX11_many_44 : decode cX11_many 44 = .ok (.getfield 161, 3) := by decide +kernel
theorem dX11_many_47 : decode cX11_many 47 = .ok (.ireturn, 1) := by decide +kernel
theorem dX11_many_48 : decode cX11_many 48 = .ok (.aload_n 0, 1) := by decide +kernel
theorem dX11_many_49 : decode cX11_many 49 = .ok (.getfield 21, 3) := by decide +kernel
theorem dX11_many_52 : decode cX11_many 52 = .ok (.getfield 99, 3) := by decide +kernel
theorem dX11_many_55 : decode cX11_many 55 = .ok (.ireturn, 1) := by decide +kernel
theorem dX11_many_56 : decode cX11_many 56 = .ok (.aload_n 0, 1) := by decide +kernel
theorem dX11_many_57 : decode cX11_many 57 = .ok (.getfield 61, 3) := by decide +kernel
theorem dX11_many_60 : decode cX11_many 60 = .ok (.getfield 248, 3) := by decide +kernel
theorem dX11_many_63 : decode cX11_many 63 = .ok (.ireturn, 1) := by decide +kernel
theorem dX11_many_64 : decode cX11_many 64 = .ok (.bipush (-2), 2) := by decide +kernel
theorem dX11_many_66 : decode cX11_many 66 = .ok (.ireturn, 1) := by decide +kernel
theorem dX11_isOutside_0 : decode cX11_isOutside 0 = .ok (.iload_n 0, 1) := by decide +kernel
theorem dX11_isOutside_1 : decode cX11_isOutside 1 = .ok (.ifCond .lt 8, 3) := by decide +kernel
theorem dX11_isOutside_4 : decode cX11_isOutside 4 = .ok (.iload_n 0, 1) := by decide +kernel
theorem dX11_isOutside_5 : decode cX11_isOutside 5 = .ok (.iload_n 1, 1) := by decide +kernel
theorem dX11_isOutside_6 : decode cX11_isOutside 6 = .ok (.if_icmp .le 7, 3) := by decide +kernel
theorem dX11_isOutside_9 : decode cX11_isOutside 9 = .ok (.iconst 1, 1) := by decide +kernel
theorem dX11_isOutside_10 : decode cX11_isOutside 10 = .ok (.goto 4, 3) := by decide +kernel
theorem dX11_isOutside_13 : decode cX11_isOutside 13 = .ok (.iconst 0, 1) := by decide +kernel
theorem dX11_isOutside_14 : decode cX11_isOutside 14 = .ok (.ireturn, 1) := by decide +kernel
theorem dX11_isNoPlace_0 : decode cX11_isNoPlace 0 = .ok (.iload_n 0, 1) := by decide +kernel
theorem dX11_isNoPlace_1 : decode cX11_isNoPlace 1 = .ok (.bipush (-9), 2) := by decide +kernel
theorem dX11_isNoPlace_3 : decode cX11_isNoPlace 3 = .ok (.if_icmp .eq 17, 3) := by decide +kernel
theorem dX11_isNoPlace_6 : decode cX11_isNoPlace 6 = .ok (.iload_n 0, 1) := by decide +kernel
theorem dX11_isNoPlace_7 : decode cX11_isNoPlace 7 = .ok (.iload_n 1, 1) := by decide +kernel
theorem dX11_isNoPlace_8 : decode cX11_isNoPlace 8 = .ok (.iconst 1, 1) := by decide +kernel
theorem dX11_isNoPlace_9 : decode cX11_isNoPlace 9 = .ok (.isub, 1) := by decide +kernel
theorem dX11_isNoPlace_10 : decode cX11_isNoPlace 10 = .ok (.invokestatic 95, 3) := by decide +kernel
theorem dX11_isNoPlace_13 : decode cX11_isNoPlace 13 = .ok (.ifCond .eq 7, 3) := by decide +kernel
theorem dX11_isNoPlace_16 : decode cX11_isNoPlace 16 = .ok (.iconst 1, 1) := by decide +kernel
theorem dX11_isNoPlace_17 : decode cX11_isNoPlace 17 = .ok (.goto 4, 3) := by decide +kernel
theorem dX11_isNoPlace_20 : decode cX11_isNoPlace 20 = .ok (.iconst 0, 1) := by decide +kernel
theorem dX11_isNoPlace_21 : decode cX11_isNoPlace 21 = .ok (.ireturn, 1) := by decide +kernel
theorem dJ9_max_7cf53_0 : decode cJ9_max_7cf53 0 = .ok (.iload_n 0, 1) := by decide +kernel
theorem dJ9_max_7cf53_1 : decode cJ9_max_7cf53 1 = .ok (.iload_n 1, 1) := by decide +kernel
theorem dJ9_max_7cf53_2 : decode cJ9_max_7cf53 2 = .ok (.if_icmp .lt 7, 3) := by decide +kernel
theorem dJ9_max_7cf53_5 : decode cJ9_max_7cf53 5 = .ok (.iload_n 0, 1) := by decide +kernel
theorem dJ9_max_7cf53_6 : decode cJ9_max_7cf53 6 = .ok (.goto 4, 3) := by decide +kernel
theorem dJ9_max_7cf53_9 : decode cJ9_max_7cf53 9 = .ok (.iload_n 1, 1) := by decide +kernel
theorem dJ9_max_7cf53_10 : decode cJ9_max_7cf53 10 = .ok (.ireturn, 1) := by decide +kernel
theorem dJ9_min_7cf53_0 : decode cJ9_min_7cf53 0 = .ok (.iload_n 0, 1) := by decide +kernel
theorem dJ9_min_7cf53_1 : decode cJ9_min_7cf53 1 = .ok (.iload_n 1, 1) := by decide +kernel
theorem dJ9_min_7cf53_2 : decode cJ9_min_7cf53 2 = .ok (.if_icmp .gt 7, 3) := by decide +kernel
theorem dJ9_min_7cf53_5 : decode cJ9_min_7cf53 5 = .ok (.iload_n 0, 1) := by decide +kernel
theorem dJ9_min_7cf53_6 : decode cJ9_min_7cf53 6 = .ok (.goto 4, 3) := by decide +kernel
theorem dJ9_min_7cf53_9 : decode cJ9_min_7cf53 9 = .ok (.iload_n 1, 1) := by decide +kernel
theorem dJ9_min_7cf53_10 : decode cJ9_min_7cf53 10 = .ok (.ireturn, 1) := by decide +kernel
theorem dL_law_0 : decode cL_law 0 = .ok (.new 7, 3) := by decide +kernel
theorem dL_law_3 : decode cL_law 3 = .ok (.dup, 1) := by decide +kernel
theorem dL_law_4 : decode cL_law 4 = .ok (.invokespecial 9, 3) := by decide +kernel
theorem dL_law_7 : decode cL_law 7 = .ok (.astore_n 1, 1) := by decide +kernel
theorem dL_law_8 : decode cL_law 8 = .ok (.new 10, 3) := by decide +kernel
theorem dL_law_11 : decode cL_law 11 = .ok (.dup, 1) := by decide +kernel
theorem dL_law_12 : decode cL_law 12 = .ok (.invokespecial 12, 3) := by decide +kernel
theorem dL_law_15 : decode cL_law 15 = .ok (.astore_n 2, 1) := by decide +kernel
theorem dL_law_16 : decode cL_law 16 = .ok (.iconst 0, 1) := by decide +kernel
theorem dL_law_17 : decode cL_law 17 = .ok (.istore_n 3, 1) := by decide +kernel
theorem dL_law_18 : decode cL_law 18 = .ok (.iload_n 3, 1) := by decide +kernel
theorem dL_law_19 : decode cL_law 19 = .ok (.aload_n 0, 1) := by decide +kernel
theorem dL_law_20 : decode cL_law 20 = .ok (.arraylength, 1) := by decide +kernel
theorem dL_law_21 : decode cL_law 21 = .ok (.iconst 5, 1) := by decide +kernel
theorem dL_law_22 : decode cL_law 22 = .ok (.isub, 1) := by decide +kernel
theorem dL_law_23 : decode cL_law 23 = .ok (.if_icmp .gt 779, 3) := by decide +kernel
theorem dL_law_26 : decode cL_law 26 = .ok (.aload_n 0, 1) := by decide +kernel
theorem dL_law_27 : decode cL_law 27 = .ok (.iload_n 3, 1) := by decide +kernel
theorem dL_law_28 : decode cL_law 28 = .ok (.iaload, 1) := by decide +kernel
theorem dL_law_29 : decode cL_law 29 = .ok (.bipush 31, 2) := by decide +kernel
theorem dL_law_31 : decode cL_law 31 = .ok (.iand, 1) := by decide +kernel
theorem dL_law_32 : decode cL_law 32 = .ok (.tableswitch 764 0 23 #[112, 135, 148, 181, 214, 257, 270, 303, 316, 369, 412, 435, 468, 491, 504, 527, 550, 583, 596, 619, 652, 695, 728, 741], 112) := by decide +kernel
theorem dL_law_144 : decode cL_law 144 = .ok (.aload_n 1, 1) := by decide +kernel
theorem dL_law_145 : decode cL_law 145 = .ok (.aload_n 0, 1) := by decide +kernel
theorem dL_law_146 : decode cL_law 146 = .ok (.iload_n 3, 1) := by decide +kernel
theorem dL_law_147 : decode cL_law 147 = .ok (.iconst 1, 1) := by decide +kernel
theorem dL_law_148 : decode cL_law 148 = .ok (.iadd, 1) := by decide +kernel
theorem dL_law_149 : decode cL_law 149 = .ok (.iaload, 1) := by decide +kernel
theorem dL_law_150 : decode cL_law 150 = .ok (.invokevirtual 13, 3) := by decide +kernel
theorem dL_law_153 : decode cL_law 153 = .ok (.aload_n 2, 1) := by decide +kernel
theorem dL_law_154 : decode cL_law 154 = .ok (.aload_n 0, 1) := by decide +kernel
theorem dL_law_155 : decode cL_law 155 = .ok (.iload_n 3, 1) := by decide +kernel
theorem dL_law_156 : decode cL_law 156 = .ok (.iconst 1, 1) := by decide +kernel
theorem dL_law_157 : decode cL_law 157 = .ok (.iadd, 1) := by decide +kernel
theorem dL_law_158 : decode cL_law 158 = .ok (.iaload, 1) := by decide +kernel
theorem dL_law_159 : decode cL_law 159 = .ok (.invokevirtual 17, 3) := by decide +kernel
theorem dL_law_162 : decode cL_law 162 = .ok (.if_icmp .eq 634, 3) := by decide +kernel
theorem dL_law_165 : decode cL_law 165 = .ok (.iconst 0, 1) := by decide +kernel
theorem dL_law_166 : decode cL_law 166 = .ok (.ireturn, 1) := by decide +kernel
theorem dL_law_167 : decode cL_law 167 = .ok (.aload_n 1, 1) := by decide +kernel
theorem dL_law_168 : decode cL_law 168 = .ok (.invokevirtual 18, 3) := by decide +kernel
theorem dL_law_171 : decode cL_law 171 = .ok (.aload_n 2, 1) := by decide +kernel
theorem dL_law_172 : decode cL_law 172 = .ok (.invokevirtual 22, 3) := by decide +kernel
theorem dL_law_175 : decode cL_law 175 = .ok (.if_icmp .eq 621, 3) := by decide +kernel
theorem dL_law_178 : decode cL_law 178 = .ok (.iconst 0, 1) := by decide +kernel
theorem dL_law_179 : decode cL_law 179 = .ok (.ireturn, 1) := by decide +kernel
theorem dL_law_180 : decode cL_law 180 = .ok (.aload_n 1, 1) := by decide +kernel
theorem dL_law_181 : decode cL_law 181 = .ok (.aload_n 0, 1) := by decide +kernel
theorem dL_law_182 : decode cL_law 182 = .ok (.iload_n 3, 1) := by decide +kernel
theorem dL_law_183 : decode cL_law 183 = .ok (.iconst 1, 1) := by decide +kernel
theorem dL_law_184 : decode cL_law 184 = .ok (.iadd, 1) := by decide +kernel
theorem dL_law_185 : decode cL_law 185 = .ok (.iaload, 1) := by decide +kernel
theorem dL_law_186 : decode cL_law 186 = .ok (.aload_n 0, 1) := by decide +kernel
theorem dL_law_187 : decode cL_law 187 = .ok (.iload_n 3, 1) := by decide +kernel
theorem dL_law_188 : decode cL_law 188 = .ok (.iconst 2, 1) := by decide +kernel
theorem dL_law_189 : decode cL_law 189 = .ok (.iadd, 1) := by decide +kernel
theorem dL_law_190 : decode cL_law 190 = .ok (.iaload, 1) := by decide +kernel
theorem dL_law_191 : decode cL_law 191 = .ok (.invokevirtual 23, 3) := by decide +kernel
theorem dL_law_194 : decode cL_law 194 = .ok (.aload_n 2, 1) := by decide +kernel
theorem dL_law_195 : decode cL_law 195 = .ok (.aload_n 0, 1) := by decide +kernel
theorem dL_law_196 : decode cL_law 196 = .ok (.iload_n 3, 1) := by decide +kernel
theorem dL_law_197 : decode cL_law 197 = .ok (.iconst 1, 1) := by decide +kernel
theorem dL_law_198 : decode cL_law 198 = .ok (.iadd, 1) := by decide +kernel
theorem dL_law_199 : decode cL_law 199 = .ok (.iaload, 1) := by decide +kernel
theorem dL_law_200 : decode cL_law 200 = .ok (.aload_n 0, 1) := by decide +kernel
theorem dL_law_201 : decode cL_law 201 = .ok (.iload_n 3, 1) := by decide +kernel
theorem dL_law_202 : decode cL_law 202 = .ok (.iconst 2, 1) := by decide +kernel
theorem dL_law_203 : decode cL_law 203 = .ok (.iadd, 1) := by decide +kernel
theorem dL_law_204 : decode cL_law 204 = .ok (.iaload, 1) := by decide +kernel
theorem dL_law_205 : decode cL_law 205 = .ok (.invokevirtual 27, 3) := by decide +kernel
theorem dL_law_208 : decode cL_law 208 = .ok (.if_icmp .eq 588, 3) := by decide +kernel
theorem dL_law_211 : decode cL_law 211 = .ok (.iconst 0, 1) := by decide +kernel
theorem dL_law_212 : decode cL_law 212 = .ok (.ireturn, 1) := by decide +kernel
theorem dL_law_213 : decode cL_law 213 = .ok (.aload_n 1, 1) := by decide +kernel
theorem dL_law_214 : decode cL_law 214 = .ok (.aload_n 0, 1) := by decide +kernel
theorem dL_law_215 : decode cL_law 215 = .ok (.iload_n 3, 1) := by decide +kernel
theorem dL_law_216 : decode cL_law 216 = .ok (.iconst 1, 1) := by decide +kernel
theorem dL_law_217 : decode cL_law 217 = .ok (.iadd, 1) := by decide +kernel
theorem dL_law_218 : decode cL_law 218 = .ok (.iaload, 1) := by decide +kernel
theorem dL_law_219 : decode cL_law 219 = .ok (.aload_n 0, 1) := by decide +kernel
theorem dL_law_220 : decode cL_law 220 = .ok (.iload_n 3, 1) := by decide +kernel
theorem dL_law_221 : decode cL_law 221 = .ok (.iconst 2, 1) := by decide +kernel
theorem dL_law_222 : decode cL_law 222 = .ok (.iadd, 1) := by decide +kernel
theorem dL_law_223 : decode cL_law 223 = .ok (.iaload, 1) := by decide +kernel
theorem dL_law_224 : decode cL_law 224 = .ok (.invokevirtual 28, 3) := by decide +kernel
theorem dL_law_227 : decode cL_law 227 = .ok (.aload_n 2, 1) := by decide +kernel
theorem dL_law_228 : decode cL_law 228 = .ok (.aload_n 0, 1) := by decide +kernel
theorem dL_law_229 : decode cL_law 229 = .ok (.iload_n 3, 1) := by decide +kernel
theorem dL_law_230 : decode cL_law 230 = .ok (.iconst 1, 1) := by decide +kernel
theorem dL_law_231 : decode cL_law 231 = .ok (.iadd, 1) := by decide +kernel
theorem dL_law_232 : decode cL_law 232 = .ok (.iaload, 1) := by decide +kernel
theorem dL_law_233 : decode cL_law 233 = .ok (.aload_n 0, 1) := by decide +kernel
theorem dL_law_234 : decode cL_law 234 = .ok (.iload_n 3, 1) := by decide +kernel
theorem dL_law_235 : decode cL_law 235 = .ok (.iconst 2, 1) := by decide +kernel
theorem dL_law_236 : decode cL_law 236 = .ok (.iadd, 1) := by decide +kernel
theorem dL_law_237 : decode cL_law 237 = .ok (.iaload, 1) := by decide +kernel
theorem dL_law_238 : decode cL_law 238 = .ok (.invokevirtual 31, 3) := by decide +kernel
theorem dL_law_241 : decode cL_law 241 = .ok (.if_icmp .eq 555, 3) := by decide +kernel
theorem dL_law_244 : decode cL_law 244 = .ok (.iconst 0, 1) := by decide +kernel
theorem dL_law_245 : decode cL_law 245 = .ok (.ireturn, 1) := by decide +kernel
theorem dL_law_246 : decode cL_law 246 = .ok (.aload_n 1, 1) := by decide +kernel
theorem dL_law_247 : decode cL_law 247 = .ok (.aload_n 0, 1) := by decide +kernel
theorem dL_law_248 : decode cL_law 248 = .ok (.iload_n 3, 1) := by decide +kernel
theorem dL_law_249 : decode cL_law 249 = .ok (.iconst 1, 1) := by decide +kernel
theorem dL_law_250 : decode cL_law 250 = .ok (.iadd, 1) := by decide +kernel
theorem dL_law_251 : decode cL_law 251 = .ok (.iaload, 1) := by decide +kernel
theorem dL_law_252 : decode cL_law 252 = .ok (.aload_n 0, 1) := by decide +kernel
theorem dL_law_253 : decode cL_law 253 = .ok (.iload_n 3, 1) := by decide +kernel
theorem dL_law_254 : decode cL_law 254 = .ok (.iconst 2, 1) := by decide +kernel
theorem dL_law_255 : decode cL_law 255 = .ok (.iadd, 1) := by decide +kernel
theorem dL_law_256 : decode cL_law 256 = .ok (.iaload, 1) := by decide +kernel
theorem dL_law_257 : decode cL_law 257 = .ok (.aload_n 0, 1) := by decide +kernel
theorem dL_law_258 : decode cL_law 258 = .ok (.iload_n 3, 1) := by decide +kernel
theorem dL_law_259 : decode cL_law 259 = .ok (.iconst 3, 1) := by decide +kernel
theorem dL_law_260 : decode cL_law 260 = .ok (.iadd, 1) := by decide +kernel
theorem dL_law_261 : decode cL_law 261 = .ok (.iaload, 1) := by decide +kernel
theorem dL_law_262 : decode cL_law 262 = .ok (.invokevirtual 32, 3) := by decide +kernel
theorem dL_law_265 : decode cL_law 265 = .ok (.aload_n 2, 1) := by decide +kernel
theorem dL_law_266 : decode cL_law 266 = .ok (.aload_n 0, 1) := by decide +kernel
theorem dL_law_267 : decode cL_law 267 = .ok (.iload_n 3, 1) := by decide +kernel
theorem dL_law_268 : decode cL_law 268 = .ok (.iconst 1, 1) := by decide +kernel
theorem dL_law_269 : decode cL_law 269 = .ok (.iadd, 1) := by decide +kernel
theorem dL_law_270 : decode cL_law 270 = .ok (.iaload, 1) := by decide +kernel
theorem dL_law_271 : decode cL_law 271 = .ok (.aload_n 0, 1) := by decide +kernel
theorem dL_law_272 : decode cL_law 272 = .ok (.iload_n 3, 1) := by decide +kernel
theorem dL_law_273 : decode cL_law 273 = .ok (.iconst 2, 1) := by decide +kernel
theorem dL_law_274 : decode cL_law 274 = .ok (.iadd, 1) := by decide +kernel
theorem dL_law_275 : decode cL_law 275 = .ok (.iaload, 1) := by decide +kernel
theorem dL_law_276 : decode cL_law 276 = .ok (.aload_n 0, 1) := by decide +kernel
theorem dL_law_277 : decode cL_law 277 = .ok (.iload_n 3, 1) := by decide +kernel
theorem dL_law_278 : decode cL_law 278 = .ok (.iconst 3, 1) := by decide +kernel
theorem dL_law_279 : decode cL_law 279 = .ok (.iadd, 1) := by decide +kernel
theorem dL_law_280 : decode cL_law 280 = .ok (.iaload, 1) := by decide +kernel
theorem dL_law_281 : decode cL_law 281 = .ok (.invokevirtual 36, 3) := by decide +kernel
theorem dL_law_284 : decode cL_law 284 = .ok (.if_icmp .eq 512, 3) := by decide +kernel
theorem dL_law_287 : decode cL_law 287 = .ok (.iconst 0, 1) := by decide +kernel
theorem dL_law_288 : decode cL_law 288 = .ok (.ireturn, 1) := by decide +kernel
theorem dL_law_289 : decode cL_law 289 = .ok (.aload_n 1, 1) := by decide +kernel
theorem dL_law_290 : decode cL_law 290 = .ok (.invokevirtual 37, 3) := by decide +kernel
theorem dL_law_293 : decode cL_law 293 = .ok (.aload_n 2, 1) := by decide +kernel
theorem dL_law_294 : decode cL_law 294 = .ok (.invokevirtual 40, 3) := by decide +kernel
theorem dL_law_297 : decode cL_law 297 = .ok (.if_icmp .eq 499, 3) := by decide +kernel
theorem dL_law_300 : decode cL_law 300 = .ok (.iconst 0, 1) := by decide +kernel
theorem dL_law_301 : decode cL_law 301 = .ok (.ireturn, 1) := by decide +kernel
theorem dL_law_302 : decode cL_law 302 = .ok (.aload_n 1, 1) := by decide +kernel
theorem dL_law_303 : decode cL_law 303 = .ok (.aload_n 0, 1) := by decide +kernel
theorem dL_law_304 : decode cL_law 304 = .ok (.iload_n 3, 1) := by decide +kernel
theorem dL_law_305 : decode cL_law 305 = .ok (.iconst 1, 1) := by decide +kernel
theorem dL_law_306 : decode cL_law 306 = .ok (.iadd, 1) := by decide +kernel
theorem dL_law_307 : decode cL_law 307 = .ok (.iaload, 1) := by decide +kernel
theorem dL_law_308 : decode cL_law 308 = .ok (.aload_n 0, 1) := by decide +kernel
theorem dL_law_309 : decode cL_law 309 = .ok (.iload_n 3, 1) := by decide +kernel
theorem dL_law_310 : decode cL_law 310 = .ok (.iconst 2, 1) := by decide +kernel
theorem dL_law_311 : decode cL_law 311 = .ok (.iadd, 1) := by decide +kernel
theorem dL_law_312 : decode cL_law 312 = .ok (.iaload, 1) := by decide +kernel
theorem dL_law_313 : decode cL_law 313 = .ok (.invokevirtual 41, 3) := by decide +kernel
theorem dL_law_316 : decode cL_law 316 = .ok (.aload_n 2, 1) := by decide +kernel
theorem dL_law_317 : decode cL_law 317 = .ok (.aload_n 0, 1) := by decide +kernel
theorem dL_law_318 : decode cL_law 318 = .ok (.iload_n 3, 1) := by decide +kernel
theorem dL_law_319 : decode cL_law 319 = .ok (.iconst 1, 1) := by decide +kernel
theorem dL_law_320 : decode cL_law 320 = .ok (.iadd, 1) := by decide +kernel
theorem dL_law_321 : decode cL_law 321 = .ok (.iaload, 1) := by decide +kernel
theorem dL_law_322 : decode cL_law 322 = .ok (.aload_n 0, 1) := by decide +kernel
theorem dL_law_323 : decode cL_law 323 = .ok (.iload_n 3, 1) := by decide +kernel
theorem dL_law_324 : decode cL_law 324 = .ok (.iconst 2, 1) := by decide +kernel
theorem dL_law_325 : decode cL_law 325 = .ok (.iadd, 1) := by decide +kernel
theorem dL_law_326 : decode cL_law 326 = .ok (.iaload, 1) := by decide +kernel
theorem dL_law_327 : decode cL_law 327 = .ok (.invokevirtual 44, 3) := by decide +kernel
theorem dL_law_330 : decode cL_law 330 = .ok (.if_icmp .eq 466, 3) := by decide +kernel
theorem dL_law_333 : decode cL_law 333 = .ok (.iconst 0, 1) := by decide +kernel
theorem dL_law_334 : decode cL_law 334 = .ok (.ireturn, 1) := by decide +kernel
theorem dL_law_335 : decode cL_law 335 = .ok (.aload_n 1, 1) := by decide +kernel
theorem dL_law_336 : decode cL_law 336 = .ok (.invokevirtual 45, 3) := by decide +kernel
theorem dL_law_339 : decode cL_law 339 = .ok (.aload_n 2, 1) := by decide +kernel
theorem dL_law_340 : decode cL_law 340 = .ok (.invokevirtual 48, 3) := by decide +kernel
theorem dL_law_343 : decode cL_law 343 = .ok (.if_icmp .eq 453, 3) := by decide +kernel
theorem dL_law_346 : decode cL_law 346 = .ok (.iconst 0, 1) := by decide +kernel
theorem dL_law_347 : decode cL_law 347 = .ok (.ireturn, 1) := by decide +kernel
theorem dL_law_348 : decode cL_law 348 = .ok (.aload_n 1, 1) := by decide +kernel
theorem dL_law_349 : decode cL_law 349 = .ok (.aload_n 0, 1) := by decide +kernel
theorem dL_law_350 : decode cL_law 350 = .ok (.iload_n 3, 1) := by decide +kernel
theorem dL_law_351 : decode cL_law 351 = .ok (.iconst 1, 1) := by decide +kernel
theorem dL_law_352 : decode cL_law 352 = .ok (.iadd, 1) := by decide +kernel
theorem dL_law_353 : decode cL_law 353 = .ok (.iaload, 1) := by decide +kernel
theorem dL_law_354 : decode cL_law 354 = .ok (.aload_n 0, 1) := by decide +kernel
theorem dL_law_355 : decode cL_law 355 = .ok (.iload_n 3, 1) := by decide +kernel
theorem dL_law_356 : decode cL_law 356 = .ok (.iconst 2, 1) := by decide +kernel
theorem dL_law_357 : decode cL_law 357 = .ok (.iadd, 1) := by decide +kernel
theorem dL_law_358 : decode cL_law 358 = .ok (.iaload, 1) := by decide +kernel
theorem dL_law_359 : decode cL_law 359 = .ok (.aload_n 0, 1) := by decide +kernel
theorem dL_law_360 : decode cL_law 360 = .ok (.iload_n 3, 1) := by decide +kernel
theorem dL_law_361 : decode cL_law 361 = .ok (.iconst 3, 1) := by decide +kernel
theorem dL_law_362 : decode cL_law 362 = .ok (.iadd, 1) := by decide +kernel
theorem dL_law_363 : decode cL_law 363 = .ok (.iaload, 1) := by decide +kernel
theorem dL_law_364 : decode cL_law 364 = .ok (.aload_n 0, 1) := by decide +kernel
theorem dL_law_365 : decode cL_law 365 = .ok (.iload_n 3, 1) := by decide +kernel
theorem dL_law_366 : decode cL_law 366 = .ok (.iconst 4, 1) := by decide +kernel
theorem dL_law_367 : decode cL_law 367 = .ok (.iadd, 1) := by decide +kernel
theorem dL_law_368 : decode cL_law 368 = .ok (.iaload, 1) := by decide +kernel
theorem dL_law_369 : decode cL_law 369 = .ok (.invokevirtual 49, 3) := by decide +kernel
theorem dL_law_372 : decode cL_law 372 = .ok (.aload_n 2, 1) := by decide +kernel
theorem dL_law_373 : decode cL_law 373 = .ok (.aload_n 0, 1) := by decide +kernel
theorem dL_law_374 : decode cL_law 374 = .ok (.iload_n 3, 1) := by decide +kernel
theorem dL_law_375 : decode cL_law 375 = .ok (.iconst 1, 1) := by decide +kernel
theorem dL_law_376 : decode cL_law 376 = .ok (.iadd, 1) := by decide +kernel
theorem dL_law_377 : decode cL_law 377 = .ok (.iaload, 1) := by decide +kernel
theorem dL_law_378 : decode cL_law 378 = .ok (.aload_n 0, 1) := by decide +kernel
theorem dL_law_379 : decode cL_law 379 = .ok (.iload_n 3, 1) := by decide +kernel
theorem dL_law_380 : decode cL_law 380 = .ok (.iconst 2, 1) := by decide +kernel
theorem dL_law_381 : decode cL_law 381 = .ok (.iadd, 1) := by decide +kernel
theorem dL_law_382 : decode cL_law 382 = .ok (.iaload, 1) := by decide +kernel
theorem dL_law_383 : decode cL_law 383 = .ok (.aload_n 0, 1) := by decide +kernel
theorem dL_law_384 : decode cL_law 384 = .ok (.iload_n 3, 1) := by decide +kernel
theorem dL_law_385 : decode cL_law 385 = .ok (.iconst 3, 1) := by decide +kernel
theorem dL_law_386 : decode cL_law 386 = .ok (.iadd, 1) := by decide +kernel
theorem dL_law_387 : decode cL_law 387 = .ok (.iaload, 1) := by decide +kernel
theorem dL_law_388 : decode cL_law 388 = .ok (.aload_n 0, 1) := by decide +kernel
theorem dL_law_389 : decode cL_law 389 = .ok (.iload_n 3, 1) := by decide +kernel
theorem dL_law_390 : decode cL_law 390 = .ok (.iconst 4, 1) := by decide +kernel
theorem dL_law_391 : decode cL_law 391 = .ok (.iadd, 1) := by decide +kernel
theorem dL_law_392 : decode cL_law 392 = .ok (.iaload, 1) := by decide +kernel
theorem dL_law_393 : decode cL_law 393 = .ok (.invokevirtual 53, 3) := by decide +kernel
theorem dL_law_396 : decode cL_law 396 = .ok (.if_icmp .eq 400, 3) := by decide +kernel
theorem dL_law_399 : decode cL_law 399 = .ok (.iconst 0, 1) := by decide +kernel
theorem dL_law_400 : decode cL_law 400 = .ok (.ireturn, 1) := by decide +kernel
theorem dL_law_401 : decode cL_law 401 = .ok (.aload_n 1, 1) := by decide +kernel
theorem dL_law_402 : decode cL_law 402 = .ok (.aload_n 0, 1) := by decide +kernel
theorem dL_law_403 : decode cL_law 403 = .ok (.iload_n 3, 1) := by decide +kernel
theorem dL_law_404 : decode cL_law 404 = .ok (.iconst 1, 1) := by decide +kernel
theorem dL_law_405 : decode cL_law 405 = .ok (.iadd, 1) := by decide +kernel
theorem dL_law_406 : decode cL_law 406 = .ok (.iaload, 1) := by decide +kernel
theorem dL_law_407 : decode cL_law 407 = .ok (.aload_n 0, 1) := by decide +kernel
theorem dL_law_408 : decode cL_law 408 = .ok (.iload_n 3, 1) := by decide +kernel
theorem dL_law_409 : decode cL_law 409 = .ok (.iconst 2, 1) := by decide +kernel
theorem dL_law_410 : decode cL_law 410 = .ok (.iadd, 1) := by decide +kernel
theorem dL_law_411 : decode cL_law 411 = .ok (.iaload, 1) := by decide +kernel
theorem dL_law_412 : decode cL_law 412 = .ok (.aload_n 0, 1) := by decide +kernel
theorem dL_law_413 : decode cL_law 413 = .ok (.iload_n 3, 1) := by decide +kernel
theorem dL_law_414 : decode cL_law 414 = .ok (.iconst 3, 1) := by decide +kernel
theorem dL_law_415 : decode cL_law 415 = .ok (.iadd, 1) := by decide +kernel
theorem dL_law_416 : decode cL_law 416 = .ok (.iaload, 1) := by decide +kernel
theorem dL_law_417 : decode cL_law 417 = .ok (.invokevirtual 54, 3) := by decide +kernel
theorem dL_law_420 : decode cL_law 420 = .ok (.aload_n 2, 1) := by decide +kernel
theorem dL_law_421 : decode cL_law 421 = .ok (.aload_n 0, 1) := by decide +kernel
theorem dL_law_422 : decode cL_law 422 = .ok (.iload_n 3, 1) := by decide +kernel
theorem dL_law_423 : decode cL_law 423 = .ok (.iconst 1, 1) := by decide +kernel
theorem dL_law_424 : decode cL_law 424 = .ok (.iadd, 1) := by decide +kernel
theorem dL_law_425 : decode cL_law 425 = .ok (.iaload, 1) := by decide +kernel
theorem dL_law_426 : decode cL_law 426 = .ok (.aload_n 0, 1) := by decide +kernel
theorem dL_law_427 : decode cL_law 427 = .ok (.iload_n 3, 1) := by decide +kernel
theorem dL_law_428 : decode cL_law 428 = .ok (.iconst 2, 1) := by decide +kernel
theorem dL_law_429 : decode cL_law 429 = .ok (.iadd, 1) := by decide +kernel
theorem dL_law_430 : decode cL_law 430 = .ok (.iaload, 1) := by decide +kernel
theorem dL_law_431 : decode cL_law 431 = .ok (.aload_n 0, 1) := by decide +kernel
theorem dL_law_432 : decode cL_law 432 = .ok (.iload_n 3, 1) := by decide +kernel
theorem dL_law_433 : decode cL_law 433 = .ok (.iconst 3, 1) := by decide +kernel
theorem dL_law_434 : decode cL_law 434 = .ok (.iadd, 1) := by decide +kernel
theorem dL_law_435 : decode cL_law 435 = .ok (.iaload, 1) := by decide +kernel
theorem dL_law_436 : decode cL_law 436 = .ok (.invokevirtual 57, 3) := by decide +kernel
theorem dL_law_439 : decode cL_law 439 = .ok (.if_icmp .eq 357, 3) := by decide +kernel
theorem dL_law_442 : decode cL_law 442 = .ok (.iconst 0, 1) := by decide +kernel
theorem dL_law_443 : decode cL_law 443 = .ok (.ireturn, 1) := by decide +kernel
theorem dL_law_444 : decode cL_law 444 = .ok (.aload_n 1, 1) := by decide +kernel
theorem dL_law_445 : decode cL_law 445 = .ok (.aload_n 0, 1) := by decide +kernel
theorem dL_law_446 : decode cL_law 446 = .ok (.iload_n 3, 1) := by decide +kernel
theorem dL_law_447 : decode cL_law 447 = .ok (.iconst 1, 1) := by decide +kernel
theorem dL_law_448 : decode cL_law 448 = .ok (.iadd, 1) := by decide +kernel
theorem dL_law_449 : decode cL_law 449 = .ok (.iaload, 1) := by decide +kernel
theorem dL_law_450 : decode cL_law 450 = .ok (.invokevirtual 58, 3) := by decide +kernel
theorem dL_law_453 : decode cL_law 453 = .ok (.aload_n 2, 1) := by decide +kernel
theorem dL_law_454 : decode cL_law 454 = .ok (.aload_n 0, 1) := by decide +kernel
theorem dL_law_455 : decode cL_law 455 = .ok (.iload_n 3, 1) := by decide +kernel
theorem dL_law_456 : decode cL_law 456 = .ok (.iconst 1, 1) := by decide +kernel
theorem dL_law_457 : decode cL_law 457 = .ok (.iadd, 1) := by decide +kernel
theorem dL_law_458 : decode cL_law 458 = .ok (.iaload, 1) := by decide +kernel
theorem dL_law_459 : decode cL_law 459 = .ok (.invokevirtual 61, 3) := by decide +kernel
theorem dL_law_462 : decode cL_law 462 = .ok (.if_icmp .eq 334, 3) := by decide +kernel
theorem dL_law_465 : decode cL_law 465 = .ok (.iconst 0, 1) := by decide +kernel
theorem dL_law_466 : decode cL_law 466 = .ok (.ireturn, 1) := by decide +kernel
theorem dL_law_467 : decode cL_law 467 = .ok (.aload_n 1, 1) := by decide +kernel
theorem dL_law_468 : decode cL_law 468 = .ok (.aload_n 0, 1) := by decide +kernel
theorem dL_law_469 : decode cL_law 469 = .ok (.iload_n 3, 1) := by decide +kernel
theorem dL_law_470 : decode cL_law 470 = .ok (.iconst 1, 1) := by decide +kernel
theorem dL_law_471 : decode cL_law 471 = .ok (.iadd, 1) := by decide +kernel
theorem dL_law_472 : decode cL_law 472 = .ok (.iaload, 1) := by decide +kernel
theorem dL_law_473 : decode cL_law 473 = .ok (.aload_n 0, 1) := by decide +kernel
theorem dL_law_474 : decode cL_law 474 = .ok (.iload_n 3, 1) := by decide +kernel
theorem dL_law_475 : decode cL_law 475 = .ok (.iconst 2, 1) := by decide +kernel
theorem dL_law_476 : decode cL_law 476 = .ok (.iadd, 1) := by decide +kernel
theorem dL_law_477 : decode cL_law 477 = .ok (.iaload, 1) := by decide +kernel
theorem dL_law_478 : decode cL_law 478 = .ok (.invokevirtual 62, 3) := by decide +kernel
theorem dL_law_481 : decode cL_law 481 = .ok (.aload_n 2, 1) := by decide +kernel
theorem dL_law_482 : decode cL_law 482 = .ok (.aload_n 0, 1) := by decide +kernel
theorem dL_law_483 : decode cL_law 483 = .ok (.iload_n 3, 1) := by decide +kernel
theorem dL_law_484 : decode cL_law 484 = .ok (.iconst 1, 1) := by decide +kernel
theorem dL_law_485 : decode cL_law 485 = .ok (.iadd, 1) := by decide +kernel
theorem dL_law_486 : decode cL_law 486 = .ok (.iaload, 1) := by decide +kernel
theorem dL_law_487 : decode cL_law 487 = .ok (.aload_n 0, 1) := by decide +kernel
theorem dL_law_488 : decode cL_law 488 = .ok (.iload_n 3, 1) := by decide +kernel
theorem dL_law_489 : decode cL_law 489 = .ok (.iconst 2, 1) := by decide +kernel
theorem dL_law_490 : decode cL_law 490 = .ok (.iadd, 1) := by decide +kernel
theorem dL_law_491 : decode cL_law 491 = .ok (.iaload, 1) := by decide +kernel
theorem dL_law_492 : decode cL_law 492 = .ok (.invokevirtual 65, 3) := by decide +kernel
theorem dL_law_495 : decode cL_law 495 = .ok (.if_icmp .eq 301, 3) := by decide +kernel
theorem dL_law_498 : decode cL_law 498 = .ok (.iconst 0, 1) := by decide +kernel
theorem dL_law_499 : decode cL_law 499 = .ok (.ireturn, 1) := by decide +kernel
theorem dL_law_500 : decode cL_law 500 = .ok (.aload_n 1, 1) := by decide +kernel
theorem dL_law_501 : decode cL_law 501 = .ok (.aload_n 0, 1) := by decide +kernel
theorem dL_law_502 : decode cL_law 502 = .ok (.iload_n 3, 1) := by decide +kernel
theorem dL_law_503 : decode cL_law 503 = .ok (.iconst 1, 1) := by decide +kernel
theorem dL_law_504 : decode cL_law 504 = .ok (.iadd, 1) := by decide +kernel
theorem dL_law_505 : decode cL_law 505 = .ok (.iaload, 1) := by decide +kernel
theorem dL_law_506 : decode cL_law 506 = .ok (.invokevirtual 66, 3) := by decide +kernel
theorem dL_law_509 : decode cL_law 509 = .ok (.aload_n 2, 1) := by decide +kernel
theorem dL_law_510 : decode cL_law 510 = .ok (.aload_n 0, 1) := by decide +kernel
theorem dL_law_511 : decode cL_law 511 = .ok (.iload_n 3, 1) := by decide +kernel
theorem dL_law_512 : decode cL_law 512 = .ok (.iconst 1, 1) := by decide +kernel
theorem dL_law_513 : decode cL_law 513 = .ok (.iadd, 1) := by decide +kernel
theorem dL_law_514 : decode cL_law 514 = .ok (.iaload, 1) := by decide +kernel
theorem dL_law_515 : decode cL_law 515 = .ok (.invokevirtual 69, 3) := by decide +kernel
theorem dL_law_518 : decode cL_law 518 = .ok (.if_icmp .eq 278, 3) := by decide +kernel
theorem dL_law_521 : decode cL_law 521 = .ok (.iconst 0, 1) := by decide +kernel
theorem dL_law_522 : decode cL_law 522 = .ok (.ireturn, 1) := by decide +kernel
theorem dL_law_523 : decode cL_law 523 = .ok (.aload_n 1, 1) := by decide +kernel
theorem dL_law_524 : decode cL_law 524 = .ok (.invokevirtual 70, 3) := by decide +kernel
theorem dL_law_527 : decode cL_law 527 = .ok (.aload_n 2, 1) := by decide +kernel
theorem dL_law_528 : decode cL_law 528 = .ok (.invokevirtual 73, 3) := by decide +kernel
theorem dL_law_531 : decode cL_law 531 = .ok (.if_icmp .eq 265, 3) := by decide +kernel
theorem dL_law_534 : decode cL_law 534 = .ok (.iconst 0, 1) := by decide +kernel
theorem dL_law_535 : decode cL_law 535 = .ok (.ireturn, 1) := by decide +kernel
theorem dL_law_536 : decode cL_law 536 = .ok (.aload_n 1, 1) := by decide +kernel
theorem dL_law_537 : decode cL_law 537 = .ok (.aload_n 0, 1) := by decide +kernel
theorem dL_law_538 : decode cL_law 538 = .ok (.iload_n 3, 1) := by decide +kernel
theorem dL_law_539 : decode cL_law 539 = .ok (.iconst 1, 1) := by decide +kernel
theorem dL_law_540 : decode cL_law 540 = .ok (.iadd, 1) := by decide +kernel
theorem dL_law_541 : decode cL_law 541 = .ok (.iaload, 1) := by decide +kernel
theorem dL_law_542 : decode cL_law 542 = .ok (.invokevirtual 74, 3) := by decide +kernel
theorem dL_law_545 : decode cL_law 545 = .ok (.aload_n 2, 1) := by decide +kernel
theorem dL_law_546 : decode cL_law 546 = .ok (.aload_n 0, 1) := by decide +kernel
theorem dL_law_547 : decode cL_law 547 = .ok (.iload_n 3, 1) := by decide +kernel
theorem dL_law_548 : decode cL_law 548 = .ok (.iconst 1, 1) := by decide +kernel
theorem dL_law_549 : decode cL_law 549 = .ok (.iadd, 1) := by decide +kernel
theorem dL_law_550 : decode cL_law 550 = .ok (.iaload, 1) := by decide +kernel
theorem dL_law_551 : decode cL_law 551 = .ok (.invokevirtual 77, 3) := by decide +kernel
theorem dL_law_554 : decode cL_law 554 = .ok (.if_icmp .eq 242, 3) := by decide +kernel
theorem dL_law_557 : decode cL_law 557 = .ok (.iconst 0, 1) := by decide +kernel
theorem dL_law_558 : decode cL_law 558 = .ok (.ireturn, 1) := by decide +kernel
theorem dL_law_559 : decode cL_law 559 = .ok (.aload_n 1, 1) := by decide +kernel
theorem dL_law_560 : decode cL_law 560 = .ok (.aload_n 0, 1) := by decide +kernel
theorem dL_law_561 : decode cL_law 561 = .ok (.iload_n 3, 1) := by decide +kernel
theorem dL_law_562 : decode cL_law 562 = .ok (.iconst 1, 1) := by decide +kernel
theorem dL_law_563 : decode cL_law 563 = .ok (.iadd, 1) := by decide +kernel
theorem dL_law_564 : decode cL_law 564 = .ok (.iaload, 1) := by decide +kernel
theorem dL_law_565 : decode cL_law 565 = .ok (.invokevirtual 78, 3) := by decide +kernel
theorem dL_law_568 : decode cL_law 568 = .ok (.aload_n 2, 1) := by decide +kernel
theorem dL_law_569 : decode cL_law 569 = .ok (.aload_n 0, 1) := by decide +kernel
theorem dL_law_570 : decode cL_law 570 = .ok (.iload_n 3, 1) := by decide +kernel
theorem dL_law_571 : decode cL_law 571 = .ok (.iconst 1, 1) := by decide +kernel
theorem dL_law_572 : decode cL_law 572 = .ok (.iadd, 1) := by decide +kernel
theorem dL_law_573 : decode cL_law 573 = .ok (.iaload, 1) := by decide +kernel
theorem dL_law_574 : decode cL_law 574 = .ok (.invokevirtual 81, 3) := by decide +kernel
theorem dL_law_577 : decode cL_law 577 = .ok (.if_icmp .eq 219, 3) := by decide +kernel
theorem dL_law_580 : decode cL_law 580 = .ok (.iconst 0, 1) := by decide +kernel
theorem dL_law_581 : decode cL_law 581 = .ok (.ireturn, 1) := by decide +kernel
theorem dL_law_582 : decode cL_law 582 = .ok (.aload_n 1, 1) := by decide +kernel
theorem dL_law_583 : decode cL_law 583 = .ok (.aload_n 0, 1) := by decide +kernel
theorem dL_law_584 : decode cL_law 584 = .ok (.iload_n 3, 1) := by decide +kernel
theorem dL_law_585 : decode cL_law 585 = .ok (.iconst 1, 1) := by decide +kernel
theorem dL_law_586 : decode cL_law 586 = .ok (.iadd, 1) := by decide +kernel
theorem dL_law_587 : decode cL_law 587 = .ok (.iaload, 1) := by decide +kernel
theorem dL_law_588 : decode cL_law 588 = .ok (.aload_n 0, 1) := by decide +kernel
theorem dL_law_589 : decode cL_law 589 = .ok (.iload_n 3, 1) := by decide +kernel
theorem dL_law_590 : decode cL_law 590 = .ok (.iconst 2, 1) := by decide +kernel
theorem dL_law_591 : decode cL_law 591 = .ok (.iadd, 1) := by decide +kernel
theorem dL_law_592 : decode cL_law 592 = .ok (.iaload, 1) := by decide +kernel
theorem dL_law_593 : decode cL_law 593 = .ok (.invokevirtual 82, 3) := by decide +kernel
theorem dL_law_596 : decode cL_law 596 = .ok (.aload_n 2, 1) := by decide +kernel
theorem dL_law_597 : decode cL_law 597 = .ok (.aload_n 0, 1) := by decide +kernel
theorem dL_law_598 : decode cL_law 598 = .ok (.iload_n 3, 1) := by decide +kernel
theorem dL_law_599 : decode cL_law 599 = .ok (.iconst 1, 1) := by decide +kernel
theorem dL_law_600 : decode cL_law 600 = .ok (.iadd, 1) := by decide +kernel
theorem dL_law_601 : decode cL_law 601 = .ok (.iaload, 1) := by decide +kernel
theorem dL_law_602 : decode cL_law 602 = .ok (.aload_n 0, 1) := by decide +kernel
theorem dL_law_603 : decode cL_law 603 = .ok (.iload_n 3, 1) := by decide +kernel
theorem dL_law_604 : decode cL_law 604 = .ok (.iconst 2, 1) := by decide +kernel
theorem dL_law_605 : decode cL_law 605 = .ok (.iadd, 1) := by decide +kernel
theorem dL_law_606 : decode cL_law 606 = .ok (.iaload, 1) := by decide +kernel
theorem dL_law_607 : decode cL_law 607 = .ok (.invokevirtual 85, 3) := by decide +kernel
theorem dL_law_610 : decode cL_law 610 = .ok (.if_icmp .eq 186, 3) := by decide +kernel
theorem dL_law_613 : decode cL_law 613 = .ok (.iconst 0, 1) := by decide +kernel
theorem dL_law_614 : decode cL_law 614 = .ok (.ireturn, 1) := by decide +kernel
theorem dL_law_615 : decode cL_law 615 = .ok (.aload_n 1, 1) := by decide +kernel
theorem dL_law_616 : decode cL_law 616 = .ok (.invokevirtual 86, 3) := by decide +kernel
theorem dL_law_619 : decode cL_law 619 = .ok (.aload_n 2, 1) := by decide +kernel
theorem dL_law_620 : decode cL_law 620 = .ok (.invokevirtual 89, 3) := by decide +kernel
theorem dL_law_623 : decode cL_law 623 = .ok (.if_icmp .eq 173, 3) := by decide +kernel
theorem dL_law_626 : decode cL_law 626 = .ok (.iconst 0, 1) := by decide +kernel
theorem dL_law_627 : decode cL_law 627 = .ok (.ireturn, 1) := by decide +kernel
theorem dL_law_628 : decode cL_law 628 = .ok (.aload_n 1, 1) := by decide +kernel
theorem dL_law_629 : decode cL_law 629 = .ok (.aload_n 0, 1) := by decide +kernel
theorem dL_law_630 : decode cL_law 630 = .ok (.iload_n 3, 1) := by decide +kernel
theorem dL_law_631 : decode cL_law 631 = .ok (.iconst 1, 1) := by decide +kernel
theorem dL_law_632 : decode cL_law 632 = .ok (.iadd, 1) := by decide +kernel
theorem dL_law_633 : decode cL_law 633 = .ok (.iaload, 1) := by decide +kernel
theorem dL_law_634 : decode cL_law 634 = .ok (.invokevirtual 90, 3) := by decide +kernel
theorem dL_law_637 : decode cL_law 637 = .ok (.aload_n 2, 1) := by decide +kernel
theorem dL_law_638 : decode cL_law 638 = .ok (.aload_n 0, 1) := by decide +kernel
theorem dL_law_639 : decode cL_law 639 = .ok (.iload_n 3, 1) := by decide +kernel
theorem dL_law_640 : decode cL_law 640 = .ok (.iconst 1, 1) := by decide +kernel
theorem dL_law_641 : decode cL_law 641 = .ok (.iadd, 1) := by decide +kernel
theorem dL_law_642 : decode cL_law 642 = .ok (.iaload, 1) := by decide +kernel
theorem dL_law_643 : decode cL_law 643 = .ok (.invokevirtual 93, 3) := by decide +kernel
theorem dL_law_646 : decode cL_law 646 = .ok (.if_icmp .eq 150, 3) := by decide +kernel
theorem dL_law_649 : decode cL_law 649 = .ok (.iconst 0, 1) := by decide +kernel
theorem dL_law_650 : decode cL_law 650 = .ok (.ireturn, 1) := by decide +kernel
theorem dL_law_651 : decode cL_law 651 = .ok (.aload_n 1, 1) := by decide +kernel
theorem dL_law_652 : decode cL_law 652 = .ok (.aload_n 0, 1) := by decide +kernel
theorem dL_law_653 : decode cL_law 653 = .ok (.iload_n 3, 1) := by decide +kernel
theorem dL_law_654 : decode cL_law 654 = .ok (.iconst 1, 1) := by decide +kernel
theorem dL_law_655 : decode cL_law 655 = .ok (.iadd, 1) := by decide +kernel
theorem dL_law_656 : decode cL_law 656 = .ok (.iaload, 1) := by decide +kernel
theorem dL_law_657 : decode cL_law 657 = .ok (.aload_n 0, 1) := by decide +kernel
theorem dL_law_658 : decode cL_law 658 = .ok (.iload_n 3, 1) := by decide +kernel
theorem dL_law_659 : decode cL_law 659 = .ok (.iconst 2, 1) := by decide +kernel
theorem dL_law_660 : decode cL_law 660 = .ok (.iadd, 1) := by decide +kernel
theorem dL_law_661 : decode cL_law 661 = .ok (.iaload, 1) := by decide +kernel
theorem dL_law_662 : decode cL_law 662 = .ok (.invokevirtual 94, 3) := by decide +kernel
theorem dL_law_665 : decode cL_law 665 = .ok (.aload_n 2, 1) := by decide +kernel
theorem dL_law_666 : decode cL_law 666 = .ok (.aload_n 0, 1) := by decide +kernel
theorem dL_law_667 : decode cL_law 667 = .ok (.iload_n 3, 1) := by decide +kernel
theorem dL_law_668 : decode cL_law 668 = .ok (.iconst 1, 1) := by decide +kernel
theorem dL_law_669 : decode cL_law 669 = .ok (.iadd, 1) := by decide +kernel
theorem dL_law_670 : decode cL_law 670 = .ok (.iaload, 1) := by decide +kernel
theorem dL_law_671 : decode cL_law 671 = .ok (.aload_n 0, 1) := by decide +kernel
theorem dL_law_672 : decode cL_law 672 = .ok (.iload_n 3, 1) := by decide +kernel
theorem dL_law_673 : decode cL_law 673 = .ok (.iconst 2, 1) := by decide +kernel
theorem dL_law_674 : decode cL_law 674 = .ok (.iadd, 1) := by decide +kernel
theorem dL_law_675 : decode cL_law 675 = .ok (.iaload, 1) := by decide +kernel
theorem dL_law_676 : decode cL_law 676 = .ok (.invokevirtual 97, 3) := by decide +kernel
theorem dL_law_679 : decode cL_law 679 = .ok (.if_icmp .eq 117, 3) := by decide +kernel
theorem dL_law_682 : decode cL_law 682 = .ok (.iconst 0, 1) := by decide +kernel
theorem dL_law_683 : decode cL_law 683 = .ok (.ireturn, 1) := by decide +kernel
theorem dL_law_684 : decode cL_law 684 = .ok (.aload_n 1, 1) := by decide +kernel
theorem dL_law_685 : decode cL_law 685 = .ok (.aload_n 0, 1) := by decide +kernel
theorem dL_law_686 : decode cL_law 686 = .ok (.iload_n 3, 1) := by decide +kernel
theorem dL_law_687 : decode cL_law 687 = .ok (.iconst 1, 1) := by decide +kernel
theorem dL_law_688 : decode cL_law 688 = .ok (.iadd, 1) := by decide +kernel
theorem dL_law_689 : decode cL_law 689 = .ok (.iaload, 1) := by decide +kernel
theorem dL_law_690 : decode cL_law 690 = .ok (.aload_n 0, 1) := by decide +kernel
theorem dL_law_691 : decode cL_law 691 = .ok (.iload_n 3, 1) := by decide +kernel
theorem dL_law_692 : decode cL_law 692 = .ok (.iconst 2, 1) := by decide +kernel
theorem dL_law_693 : decode cL_law 693 = .ok (.iadd, 1) := by decide +kernel
theorem dL_law_694 : decode cL_law 694 = .ok (.iaload, 1) := by decide +kernel
theorem dL_law_695 : decode cL_law 695 = .ok (.aload_n 0, 1) := by decide +kernel
theorem dL_law_696 : decode cL_law 696 = .ok (.iload_n 3, 1) := by decide +kernel
theorem dL_law_697 : decode cL_law 697 = .ok (.iconst 3, 1) := by decide +kernel
theorem dL_law_698 : decode cL_law 698 = .ok (.iadd, 1) := by decide +kernel
theorem dL_law_699 : decode cL_law 699 = .ok (.iaload, 1) := by decide +kernel
theorem dL_law_700 : decode cL_law 700 = .ok (.invokevirtual 98, 3) := by decide +kernel
theorem dL_law_703 : decode cL_law 703 = .ok (.aload_n 2, 1) := by decide +kernel
theorem dL_law_704 : decode cL_law 704 = .ok (.aload_n 0, 1) := by decide +kernel
theorem dL_law_705 : decode cL_law 705 = .ok (.iload_n 3, 1) := by decide +kernel
theorem dL_law_706 : decode cL_law 706 = .ok (.iconst 1, 1) := by decide +kernel
theorem dL_law_707 : decode cL_law 707 = .ok (.iadd, 1) := by decide +kernel
theorem dL_law_708 : decode cL_law 708 = .ok (.iaload, 1) := by decide +kernel
theorem dL_law_709 : decode cL_law 709 = .ok (.aload_n 0, 1) := by decide +kernel
theorem dL_law_710 : decode cL_law 710 = .ok (.iload_n 3, 1) := by decide +kernel
theorem dL_law_711 : decode cL_law 711 = .ok (.iconst 2, 1) := by decide +kernel
theorem dL_law_712 : decode cL_law 712 = .ok (.iadd, 1) := by decide +kernel
theorem dL_law_713 : decode cL_law 713 = .ok (.iaload, 1) := by decide +kernel
theorem dL_law_714 : decode cL_law 714 = .ok (.aload_n 0, 1) := by decide +kernel
theorem dL_law_715 : decode cL_law 715 = .ok (.iload_n 3, 1) := by decide +kernel
theorem dL_law_716 : decode cL_law 716 = .ok (.iconst 3, 1) := by decide +kernel
theorem dL_law_717 : decode cL_law 717 = .ok (.iadd, 1) := by decide +kernel
theorem dL_law_718 : decode cL_law 718 = .ok (.iaload, 1) := by decide +kernel
theorem dL_law_719 : decode cL_law 719 = .ok (.invokevirtual 101, 3) := by decide +kernel
theorem dL_law_722 : decode cL_law 722 = .ok (.if_icmp .eq 74, 3) := by decide +kernel
theorem dL_law_725 : decode cL_law 725 = .ok (.iconst 0, 1) := by decide +kernel
theorem dL_law_726 : decode cL_law 726 = .ok (.ireturn, 1) := by decide +kernel
theorem dL_law_727 : decode cL_law 727 = .ok (.aload_n 1, 1) := by decide +kernel
theorem dL_law_728 : decode cL_law 728 = .ok (.aload_n 0, 1) := by decide +kernel
theorem dL_law_729 : decode cL_law 729 = .ok (.iload_n 3, 1) := by decide +kernel
theorem dL_law_730 : decode cL_law 730 = .ok (.iconst 1, 1) := by decide +kernel
theorem dL_law_731 : decode cL_law 731 = .ok (.iadd, 1) := by decide +kernel
theorem dL_law_732 : decode cL_law 732 = .ok (.iaload, 1) := by decide +kernel
theorem dL_law_733 : decode cL_law 733 = .ok (.aload_n 0, 1) := by decide +kernel
theorem dL_law_734 : decode cL_law 734 = .ok (.iload_n 3, 1) := by decide +kernel
theorem dL_law_735 : decode cL_law 735 = .ok (.iconst 2, 1) := by decide +kernel
theorem dL_law_736 : decode cL_law 736 = .ok (.iadd, 1) := by decide +kernel
theorem dL_law_737 : decode cL_law 737 = .ok (.iaload, 1) := by decide +kernel
theorem dL_law_738 : decode cL_law 738 = .ok (.invokevirtual 102, 3) := by decide +kernel
theorem dL_law_741 : decode cL_law 741 = .ok (.aload_n 2, 1) := by decide +kernel
theorem dL_law_742 : decode cL_law 742 = .ok (.aload_n 0, 1) := by decide +kernel
theorem dL_law_743 : decode cL_law 743 = .ok (.iload_n 3, 1) := by decide +kernel
theorem dL_law_744 : decode cL_law 744 = .ok (.iconst 1, 1) := by decide +kernel
theorem dL_law_745 : decode cL_law 745 = .ok (.iadd, 1) := by decide +kernel
theorem dL_law_746 : decode cL_law 746 = .ok (.iaload, 1) := by decide +kernel
theorem dL_law_747 : decode cL_law 747 = .ok (.aload_n 0, 1) := by decide +kernel
theorem dL_law_748 : decode cL_law 748 = .ok (.iload_n 3, 1) := by decide +kernel
theorem dL_law_749 : decode cL_law 749 = .ok (.iconst 2, 1) := by decide +kernel
theorem dL_law_750 : decode cL_law 750 = .ok (.iadd, 1) := by decide +kernel
theorem dL_law_751 : decode cL_law 751 = .ok (.iaload, 1) := by decide +kernel
theorem dL_law_752 : decode cL_law 752 = .ok (.invokevirtual 105, 3) := by decide +kernel
theorem dL_law_755 : decode cL_law 755 = .ok (.if_icmp .eq 41, 3) := by decide +kernel
theorem dL_law_758 : decode cL_law 758 = .ok (.iconst 0, 1) := by decide +kernel
theorem dL_law_759 : decode cL_law 759 = .ok (.ireturn, 1) := by decide +kernel
theorem dL_law_760 : decode cL_law 760 = .ok (.aload_n 1, 1) := by decide +kernel
theorem dL_law_761 : decode cL_law 761 = .ok (.invokevirtual 106, 3) := by decide +kernel
theorem dL_law_764 : decode cL_law 764 = .ok (.aload_n 2, 1) := by decide +kernel
theorem dL_law_765 : decode cL_law 765 = .ok (.invokevirtual 109, 3) := by decide +kernel
theorem dL_law_768 : decode cL_law 768 = .ok (.if_icmp .eq 28, 3) := by decide +kernel
theorem dL_law_771 : decode cL_law 771 = .ok (.iconst 0, 1) := by decide +kernel
theorem dL_law_772 : decode cL_law 772 = .ok (.ireturn, 1) := by decide +kernel
theorem dL_law_773 : decode cL_law 773 = .ok (.aload_n 1, 1) := by decide +kernel
theorem dL_law_774 : decode cL_law 774 = .ok (.aload_n 0, 1) := by decide +kernel
theorem dL_law_775 : decode cL_law 775 = .ok (.iload_n 3, 1) := by decide +kernel
theorem dL_law_776 : decode cL_law 776 = .ok (.iconst 1, 1) := by decide +kernel
theorem dL_law_777 : decode cL_law 777 = .ok (.iadd, 1) := by decide +kernel
theorem dL_law_778 : decode cL_law 778 = .ok (.iaload, 1) := by decide +kernel
theorem dL_law_779 : decode cL_law 779 = .ok (.invokevirtual 110, 3) := by decide +kernel
theorem dL_law_782 : decode cL_law 782 = .ok (.aload_n 2, 1) := by decide +kernel
theorem dL_law_783 : decode cL_law 783 = .ok (.aload_n 0, 1) := by decide +kernel
theorem dL_law_784 : decode cL_law 784 = .ok (.iload_n 3, 1) := by decide +kernel
theorem dL_law_785 : decode cL_law 785 = .ok (.iconst 1, 1) := by decide +kernel
theorem dL_law_786 : decode cL_law 786 = .ok (.iadd, 1) := by decide +kernel
theorem dL_law_787 : decode cL_law 787 = .ok (.iaload, 1) := by decide +kernel
theorem dL_law_788 : decode cL_law 788 = .ok (.invokevirtual 113, 3) := by decide +kernel
theorem dL_law_791 : decode cL_law 791 = .ok (.if_icmp .eq 5, 3) := by decide +kernel
theorem dL_law_794 : decode cL_law 794 = .ok (.iconst 0, 1) := by decide +kernel
theorem dL_law_795 : decode cL_law 795 = .ok (.ireturn, 1) := by decide +kernel
theorem dL_law_796 : decode cL_law 796 = .ok (.iinc 3 5, 3) := by decide +kernel
theorem dL_law_799 : decode cL_law 799 = .ok (.goto (-781), 3) := by decide +kernel
theorem dL_law_802 : decode cL_law 802 = .ok (.iconst 1, 1) := by decide +kernel
theorem dL_law_803 : decode cL_law 803 = .ok (.ireturn, 1) := by decide +kernel
