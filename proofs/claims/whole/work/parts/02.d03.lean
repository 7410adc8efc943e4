theorem dX0_init_0 : decode cX0_init 0 = .ok (.aload_n 0, 1) := by decide +kernel
theorem dX0_init_1 : decode cX0_init 1 = .ok (.invokespecial 3, 3) := by decide +kernel
theorem dX0_init_4 : decode cX0_init 4 = .ok (.aload_n 0, 1) := by decide +kernel
theorem dX0_init_5 : decode cX0_init 5 = .ok (.new 9, 3) := by decide +kernel
theorem dX0_init_8 : decode cX0_init 8 = .ok (.dup, 1) := by decide +kernel
theorem dX0_init_9 : decode cX0_init 9 = .ok (.invokespecial 11, 3) := by decide +kernel
theorem dX0_init_12 : decode cX0_init 12 = .ok (.putfield 12, 3) := by decide +kernel
theorem dX0_init_15 : decode cX0_init 15 = .ok (.aload_n 0, 1) := by decide +kernel
theorem dX0_init_16 : decode cX0_init 16 = .ok (.new 9, 3) := by decide +kernel
theorem dX0_init_19 : decode cX0_init 19 = .ok (.dup, 1) := by decide +kernel
theorem dX0_init_20 : decode cX0_init 20 = .ok (.invokespecial 11, 3) := by decide +kernel
theorem dX0_init_23 : decode cX0_init 23 = .ok (.putfield 18, 3) := by decide +kernel
theorem dX0_init_26 : decode cX0_init 26 = .ok (.return_, 1) := by decide +kernel
theorem dX0_part_0 : decode cX0_part 0 = .ok (.iload_n 1, 1) := by decide +kernel
theorem dX0_part_1 : decode cX0_part 1 = .ok (.ifCond .ne 10, 3) := by decide +kernel
theorem dX0_part_4 : decode cX0_part 4 = .ok (.aload_n 0, 1) := by decide +kernel
theorem dX0_part_5 : decode cX0_part 5 = .ok (.getfield 12, 3) := by decide +kernel
theorem dX0_part_8 : decode cX0_part 8 = .ok (.goto 7, 3) := by decide +kernel
theorem dX0_part_11 : decode cX0_part 11 = .ok (.aload_n 0, 1) := by decide +kernel
theorem dX0_part_12 : decode cX0_part 12 = .ok (.getfield 18, 3) := by decide +kernel
theorem dX0_part_15 : decode cX0_part 15 = .ok (.areturn, 1) := by decide +kernel
theorem dX0_copy_0 : decode cX0_copy 0 = .ok (.aload_n 0, 1) := by decide +kernel
theorem dX0_copy_1 : decode cX0_copy 1 = .ok (.getfield 12, 3) := by decide +kernel
theorem dX0_copy_4 : decode cX0_copy 4 = .ok (.aload_n 1, 1) := by decide +kernel
theorem dX0_copy_5 : decode cX0_copy 5 = .ok (.getfield 12, 3) := by decide +kernel
theorem dX0_copy_8 : decode cX0_copy 8 = .ok (.invokevirtual 21, 3) := by decide +kernel
theorem dX0_copy_11 : decode cX0_copy 11 = .ok (.aload_n 0, 1) := by decide +kernel
theorem dX0_copy_12 : decode cX0_copy 12 = .ok (.getfield 18, 3) := by decide +kernel
theorem dX0_copy_15 : decode cX0_copy 15 = .ok (.aload_n 1, 1) := by decide +kernel
theorem dX0_copy_16 : decode cX0_copy 16 = .ok (.getfield 18, 3) := by decide +kernel
theorem dX0_copy_19 : decode cX0_copy 19 = .ok (.invokevirtual 21, 3) := by decide +kernel
theorem dX0_copy_22 : decode cX0_copy 22 = .ok (.return_, 1) := by decide +kernel
theorem dX0_isSame_0 : decode cX0_isSame 0 = .ok (.aload_n 0, 1) := by decide +kernel
theorem dX0_isSame_1 : decode cX0_isSame 1 = .ok (.getfield 12, 3) := by decide +kernel
theorem dX0_isSame_4 : decode cX0_isSame 4 = .ok (.aload_n 1, 1) := by decide +kernel
theorem dX0_isSame_5 : decode cX0_isSame 5 = .ok (.getfield 12, 3) := by decide +kernel
theorem dX0_isSame_8 : decode cX0_isSame 8 = .ok (.invokevirtual 25, 3) := by decide +kernel
theorem dX0_isSame_11 : decode cX0_isSame 11 = .ok (.ifCond .eq 21, 3) := by decide +kernel
theorem dX0_isSame_14 : decode cX0_isSame 14 = .ok (.aload_n 0, 1) := by decide +kernel
theorem dX0_isSame_15 : decode cX0_isSame 15 = .ok (.getfield 18, 3) := by decide +kernel
theorem dX0_isSame_18 : decode cX0_isSame 18 = .ok (.aload_n 1, 1) := by decide +kernel
theorem dX0_isSame_19 : decode cX0_isSame 19 = .ok (.getfield 18, 3) := by decide +kernel
theorem dX0_isSame_22 : decode cX0_isSame 22 = .ok (.invokevirtual 25, 3) := by decide +kernel
theorem dX0_isSame_25 : decode cX0_isSame 25 = .ok (.ifCond .eq 7, 3) := by decide +kernel
theorem dX0_isSame_28 : decode cX0_isSame 28 = .ok (.iconst 1, 1) := by decide +kernel
theorem dX0_isSame_29 : decode cX0_isSame 29 = .ok (.goto 4, 3) := by decide +kernel
theorem dX0_isSame_32 : decode cX0_isSame 32 = .ok (.iconst 0, 1) := by decide +kernel
theorem dX0_isSame_33 : decode cX0_isSame 33 = .ok (.ireturn, 1) := by decide +kernel
theorem dX0_isTrivial_0 : decode cX0_isTrivial 0 = .ok (.aload_n 0, 1) := by decide +kernel
theorem dX0_isTrivial_1 : decode cX0_isTrivial 1 = .ok (.getfield 12, 3) := by decide +kernel
theorem dX0_isTrivial_4 : decode cX0_isTrivial 4 = .ok (.aload_n 0, 1) := by decide +kernel
theorem dX0_isTrivial_5 : decode cX0_isTrivial 5 = .ok (.getfield 18, 3) := by decide +kernel
theorem dX0_isTrivial_8 : decode cX0_isTrivial 8 = .ok (.invokevirtual 25, 3) := by decide +kernel
theorem dX0_isTrivial_11 : decode cX0_isTrivial 11 = .ok (.ireturn, 1) := by decide +kernel
theorem dX0_has_0 : decode cX0_has 0 = .ok (.aload_n 0, 1) := by decide +kernel
theorem dX0_has_1 : decode cX0_has 1 = .ok (.getfield 12, 3) := by decide +kernel
theorem dX0_has_4 : decode cX0_has 4 = .ok (.bipush 120, 2) := by decide +kernel
theorem dX0_has_6 : decode cX0_has 6 = .ok (.iload_n 1, 1) := by decide +kernel
theorem dX0_has_7 : decode cX0_has 7 = .ok (.iadd, 1) := by decide +kernel
theorem dX0_has_8 : decode cX0_has 8 = .ok (.invokevirtual 29, 3) := by decide +kernel
theorem dX0_has_11 : decode cX0_has 11 = .ok (.ifCond .ne 17, 3) := by decide +kernel
theorem dX0_has_14 : decode cX0_has 14 = .ok (.aload_n 0, 1) := by decide +kernel
theorem dX0_has_15 : decode cX0_has 15 = .ok (.getfield 18, 3) := by decide +kernel
theorem dX0_has_18 : decode cX0_has 18 = .ok (.bipush 120, 2) := by decide +kernel
theorem dX0_has_20 : decode cX0_has 20 = .ok (.iload_n 1, 1) := by decide +kernel
theorem dX0_has_21 : decode cX0_has 21 = .ok (.iadd, 1) := by decide +kernel
theorem dX0_has_22 : decode cX0_has 22 = .ok (.invokevirtual 29, 3) := by decide +kernel
theorem dX0_has_25 : decode cX0_has 25 = .ok (.ifCond .eq 7, 3) := by decide +kernel
theorem dX0_has_28 : decode cX0_has 28 = .ok (.iconst 1, 1) := by decide +kernel
theorem dX0_has_29 : decode cX0_has 29 = .ok (.goto 4, 3) := by decide +kernel
theorem dX0_has_32 : decode cX0_has 32 = .ok (.iconst 0, 1) := by decide +kernel
theorem dX0_has_33 : decode cX0_has 33 = .ok (.ireturn, 1) := by decide +kernel
theorem dX0_callsOf_0 : decode cX0_callsOf 0 = .ok (.iconst 0, 1) := by decide +kernel
theorem dX0_callsOf_1 : decode cX0_callsOf 1 = .ok (.istore_n 2, 1) := by decide +kernel
theorem dX0_callsOf_2 : decode cX0_callsOf 2 = .ok (.iconst 0, 1) := by decide +kernel
theorem dX0_callsOf_3 : decode cX0_callsOf 3 = .ok (.istore_n 3, 1) := by decide +kernel
theorem dX0_callsOf_4 : decode cX0_callsOf 4 = .ok (.iload_n 3, 1) := by decide +kernel
theorem dX0_callsOf_5 : decode cX0_callsOf 5 = .ok (.bipush 40, 2) := by decide +kernel
theorem dX0_callsOf_7 : decode cX0_callsOf 7 = .ok (.if_icmp .ge 49, 3) := by decide +kernel
theorem dX0_callsOf_10 : decode cX0_callsOf 10 = .ok (.iload_n 2, 1) := by decide +kernel
theorem dX0_callsOf_11 : decode cX0_callsOf 11 = .ok (.aload_n 0, 1) := by decide +kernel
theorem dX0_callsOf_12 : decode cX0_callsOf 12 = .ok (.getfield 12, 3) := by decide +kernel
theorem dX0_callsOf_15 : decode cX0_callsOf 15 = .ok (.iload_n 1, 1) := by decide +kernel
theorem dX0_callsOf_16 : decode cX0_callsOf 16 = .ok (.iload_n 3, 1) := by decide +kernel
theorem dX0_callsOf_17 : decode cX0_callsOf 17 = .ok (.invokevirtual 33, 3) := by decide +kernel
theorem dX0_callsOf_20 : decode cX0_callsOf 20 = .ok (.ifCond .eq 7, 3) := by decide +kernel
theorem dX0_callsOf_23 : decode cX0_callsOf 23 = .ok (.iconst 1, 1) := by decide +kernel
theorem dX0_callsOf_24 : decode cX0_callsOf 24 = .ok (.goto 4, 3) := by decide +kernel
theorem dX0_callsOf_27 : decode cX0_callsOf 27 = .ok (.iconst 0, 1) := by decide +kernel
theorem dX0_callsOf_28 : decode cX0_callsOf 28 = .ok (.iadd, 1) := by decide +kernel
theorem dX0_callsOf_29 : decode cX0_callsOf 29 = .ok (.istore_n 2, 1) := by decide +kernel
theorem dX0_callsOf_30 : decode cX0_callsOf 30 = .ok (.iload_n 2, 1) := by decide +kernel
theorem dX0_callsOf_31 : decode cX0_callsOf 31 = .ok (.aload_n 0, 1) := by decide +kernel
theorem dX0_callsOf_32 : decode cX0_callsOf 32 = .ok (.getfield 18, 3) := by decide +kernel
theorem dX0_callsOf_35 : decode cX0_callsOf 35 = .ok (.iload_n 1, 1) := by decide +kernel
theorem dX0_callsOf_36 : decode cX0_callsOf 36 = .ok (.iload_n 3, 1) := by decide +kernel
theorem dX0_callsOf_37 : decode cX0_callsOf 37 = .ok (.invokevirtual 33, 3) := by decide +kernel
theorem dX0_callsOf_40 : decode cX0_callsOf 40 = .ok (.ifCond .eq 7, 3) := by decide +kernel
theorem dX0_callsOf_43 : decode cX0_callsOf 43 = .ok (.iconst 1, 1) := by decide +kernel
theorem dX0_callsOf_44 : decode cX0_callsOf 44 = .ok (.goto 4, 3) := by decide +kernel
theorem dX0_callsOf_47 : decode cX0_callsOf 47 = .ok (.iconst 0, 1) := by decide +kernel
theorem dX0_callsOf_48 : decode cX0_callsOf 48 = .ok (.iadd, 1) := by decide +kernel
theorem dX0_callsOf_49 : decode cX0_callsOf 49 = .ok (.istore_n 2, 1) := by decide +kernel
theorem dX0_callsOf_50 : decode cX0_callsOf 50 = .ok (.iinc 3 1, 3) := by decide +kernel
theorem dX0_callsOf_53 : decode cX0_callsOf 53 = .ok (.goto (-49), 3) := by decide +kernel
theorem dX0_callsOf_56 : decode cX0_callsOf 56 = .ok (.iload_n 2, 1) := by decide +kernel
theorem dX0_callsOf_57 : decode cX0_callsOf 57 = .ok (.ireturn, 1) := by decide +kernel
theorem dX0_deepestCall_0 : decode cX0_deepestCall 0 = .ok (.iconst 0, 1) := by decide +kernel
theorem dX0_deepestCall_1 : decode cX0_deepestCall 1 = .ok (.istore_n 3, 1) := by decide +kernel
theorem dX0_deepestCall_2 : decode cX0_deepestCall 2 = .ok (.iconst 1, 1) := by decide +kernel
theorem dX0_deepestCall_3 : decode cX0_deepestCall 3 = .ok (.istore 4, 2) := by decide +kernel
theorem dX0_deepestCall_5 : decode cX0_deepestCall 5 = .ok (.iload 4, 2) := by decide +kernel
theorem dX0_deepestCall_7 : decode cX0_deepestCall 7 = .ok (.bipush 40, 2) := by decide +kernel
theorem dX0_deepestCall_9 : decode cX0_deepestCall 9 = .ok (.if_icmp .ge 77, 3) := by decide +kernel
theorem dX0_deepestCall_12 : decode cX0_deepestCall 12 = .ok (.aload_n 0, 1) := by decide +kernel
theorem dX0_deepestCall_13 : decode cX0_deepestCall 13 = .ok (.getfield 12, 3) := by decide +kernel
theorem dX0_deepestCall_16 : decode cX0_deepestCall 16 = .ok (.iload_n 1, 1) := by decide +kernel
theorem dX0_deepestCall_17 : decode cX0_deepestCall 17 = .ok (.iload 4, 2) := by decide +kernel
theorem dX0_deepestCall_19 : decode cX0_deepestCall 19 = .ok (.invokevirtual 33, 3) := by decide +kernel
theorem dX0_deepestCall_22 : decode cX0_deepestCall 22 = .ok (.ifCond .eq 24, 3) := by decide +kernel
theorem dX0_deepestCall_25 : decode cX0_deepestCall 25 = .ok (.iload_n 3, 1) := by decide +kernel
theorem dX0_deepestCall_26 : decode cX0_deepestCall 26 = .ok (.aload_n 2, 1) := by decide +kernel
theorem dX0_deepestCall_27 : decode cX0_deepestCall 27 = .ok (.aload_n 0, 1) := by decide +kernel
theorem dX0_deepestCall_28 : decode cX0_deepestCall 28 = .ok (.getfield 12, 3) := by decide +kernel
theorem dX0_deepestCall_31 : decode cX0_deepestCall 31 = .ok (.getfield 37, 3) := by decide +kernel
theorem dX0_deepestCall_34 : decode cX0_deepestCall 34 = .ok (.iload 4, 2) := by decide +kernel
theorem dX0_deepestCall_36 : decode cX0_deepestCall 36 = .ok (.iconst 1, 1) := by decide +kernel
theorem dX0_deepestCall_37 : decode cX0_deepestCall 37 = .ok (.isub, 1) := by decide +kernel
theorem dX0_deepestCall_38 : decode cX0_deepestCall 38 = .ok (.iaload, 1) := by decide +kernel
theorem dX0_deepestCall_39 : decode cX0_deepestCall 39 = .ok (.invokevirtual 41, 3) := by decide +kernel
theorem dX0_deepestCall_42 : decode cX0_deepestCall 42 = .ok (.invokestatic 47, 3) := by decide +kernel
theorem dX0_deepestCall_45 : decode cX0_deepestCall 45 = .ok (.istore_n 3, 1) := by decide +kernel
theorem dX0_deepestCall_46 : decode cX0_deepestCall 46 = .ok (.aload_n 0, 1) := by decide +kernel
theorem dX0_deepestCall_47 : decode cX0_deepestCall 47 = .ok (.getfield 18, 3) := by decide +kernel
theorem dX0_deepestCall_50 : decode cX0_deepestCall 50 = .ok (.iload_n 1, 1) := by decide +kernel
theorem dX0_deepestCall_51 : decode cX0_deepestCall 51 = .ok (.iload 4, 2) := by decide +kernel
theorem dX0_deepestCall_53 : decode cX0_deepestCall 53 = .ok (.invokevirtual 33, 3) := by decide +kernel
theorem dX0_deepestCall_56 : decode cX0_deepestCall 56 = .ok (.ifCond .eq 24, 3) := by decide +kernel
theorem dX0_deepestCall_59 : decode cX0_deepestCall 59 = .ok (.iload_n 3, 1) := by decide +kernel
theorem dX0_deepestCall_60 : decode cX0_deepestCall 60 = .ok (.aload_n 2, 1) := by decide +kernel
theorem dX0_deepestCall_61 : decode cX0_deepestCall 61 = .ok (.aload_n 0, 1) := by decide +kernel
theorem dX0_deepestCall_62 : decode cX0_deepestCall 62 = .ok (.getfield 18, 3) := by decide +kernel
theorem dX0_deepestCall_65 : decode cX0_deepestCall 65 = .ok (.getfield 37, 3) := by decide +kernel
theorem dX0_deepestCall_68 : decode cX0_deepestCall 68 = .ok (.iload 4, 2) := by decide +kernel
theorem dX0_deepestCall_70 : decode cX0_deepestCall 70 = .ok (.iconst 1, 1) := by decide +kernel
theorem dX0_deepestCall_71 : decode cX0_deepestCall 71 = .ok (.isub, 1) := by decide +kernel
theorem dX0_deepestCall_72 : decode cX0_deepestCall 72 = .ok (.iaload, 1) := by decide +kernel
theorem dX0_deepestCall_73 : decode cX0_deepestCall 73 = .ok (.invokevirtual 41, 3) := by decide +kernel
theorem dX0_deepestCall_76 : decode cX0_deepestCall 76 = .ok (.invokestatic 47, 3) := by decide +kernel
theorem dX0_deepestCall_79 : decode cX0_deepestCall 79 = .ok (.istore_n 3, 1) := by decide +kernel
theorem dX0_deepestCall_80 : decode cX0_deepestCall 80 = .ok (.iinc 4 1, 3) := by decide +kernel
theorem dX0_deepestCall_83 : decode cX0_deepestCall 83 = .ok (.goto (-78), 3) := by decide +kernel
theorem dX0_deepestCall_86 : decode cX0_deepestCall 86 = .ok (.iload_n 3, 1) := by decide +kernel
theorem dX0_deepestCall_87 : decode cX0_deepestCall 87 = .ok (.ireturn, 1) := by decide +kernel
theorem dX0_inductionVariable_0 : decode cX0_inductionVariable 0 = .ok (.bipush (-9), 2) := by decide +kernel
theorem dX0_inductionVariable_2 : decode cX0_inductionVariable 2 = .ok (.istore_n 2, 1) := by decide +kernel
theorem dX0_inductionVariable_3 : decode cX0_inductionVariable 3 = .ok (.iconst 0, 1) := by decide +kernel
theorem dX0_inductionVariable_4 : decode cX0_inductionVariable 4 = .ok (.istore_n 3, 1) := by decide +kernel
theorem dX0_inductionVariable_5 : decode cX0_inductionVariable 5 = .ok (.iconst 0, 1) := by decide +kernel
theorem dX0_inductionVariable_6 : decode cX0_inductionVariable 6 = .ok (.istore 4, 2) := by decide +kernel
theorem dX0_inductionVariable_8 : decode cX0_inductionVariable 8 = .ok (.iconst 0, 1) := by decide +kernel
theorem dX0_inductionVariable_9 : decode cX0_inductionVariable 9 = .ok (.istore 5, 2) := by decide +kernel
theorem dX0_inductionVariable_11 : decode cX0_inductionVariable 11 = .ok (.iload 5, 2) := by decide +kernel
theorem dX0_inductionVariable_13 : decode cX0_inductionVariable 13 = .ok (.iconst 3, 1) := by decide +kernel
theorem dX0_inductionVariable_14 : decode cX0_inductionVariable 14 = .ok (.if_icmp .ge 60, 3) := by decide +kernel
theorem dX0_inductionVariable_17 : decode cX0_inductionVariable 17 = .ok (.aload_n 0, 1) := by decide +kernel
theorem dX0_inductionVariable_18 : decode cX0_inductionVariable 18 = .ok (.iload 5, 2) := by decide +kernel
theorem dX0_inductionVariable_20 : decode cX0_inductionVariable 20 = .ok (.invokevirtual 53, 3) := by decide +kernel
theorem dX0_inductionVariable_23 : decode cX0_inductionVariable 23 = .ok (.istore 6, 2) := by decide +kernel
theorem dX0_inductionVariable_25 : decode cX0_inductionVariable 25 = .ok (.aload_n 0, 1) := by decide +kernel
theorem dX0_inductionVariable_26 : decode cX0_inductionVariable 26 = .ok (.iload 5, 2) := by decide +kernel
theorem dX0_inductionVariable_28 : decode cX0_inductionVariable 28 = .ok (.aload_n 1, 1) := by decide +kernel
theorem dX0_inductionVariable_29 : decode cX0_inductionVariable 29 = .ok (.invokevirtual 56, 3) := by decide +kernel
theorem dX0_inductionVariable_32 : decode cX0_inductionVariable 32 = .ok (.istore 7, 2) := by decide +kernel
theorem dX0_inductionVariable_34 : decode cX0_inductionVariable 34 = .ok (.iload 6, 2) := by decide +kernel
theorem dX0_inductionVariable_36 : decode cX0_inductionVariable 36 = .ok (.iload_n 3, 1) := by decide +kernel
theorem dX0_inductionVariable_37 : decode cX0_inductionVariable 37 = .ok (.if_icmp .gt 21, 3) := by decide +kernel
theorem dX0_inductionVariable_40 : decode cX0_inductionVariable 40 = .ok (.iload 6, 2) := by decide +kernel
theorem dX0_inductionVariable_42 : decode cX0_inductionVariable 42 = .ok (.ifCond .le 26, 3) := by decide +kernel
theorem dX0_inductionVariable_45 : decode cX0_inductionVariable 45 = .ok (.iload 6, 2) := by decide +kernel
theorem dX0_inductionVariable_47 : decode cX0_inductionVariable 47 = .ok (.iload_n 3, 1) := by decide +kernel
theorem dX0_inductionVariable_48 : decode cX0_inductionVariable 48 = .ok (.if_icmp .ne 20, 3) := by decide +kernel
theorem dX0_inductionVariable_51 : decode cX0_inductionVariable 51 = .ok (.iload 7, 2) := by decide +kernel
theorem dX0_inductionVariable_53 : decode cX0_inductionVariable 53 = .ok (.iload 4, 2) := by decide +kernel
theorem dX0_inductionVariable_55 : decode cX0_inductionVariable 55 = .ok (.if_icmp .ge 13, 3) := by decide +kernel
theorem dX0_inductionVariable_58 : decode cX0_inductionVariable 58 = .ok (.iload 5, 2) := by decide +kernel
theorem dX0_inductionVariable_60 : decode cX0_inductionVariable 60 = .ok (.istore_n 2, 1) := by decide +kernel
theorem dX0_inductionVariable_61 : decode cX0_inductionVariable 61 = .ok (.iload 6, 2) := by decide +kernel
theorem dX0_inductionVariable_63 : decode cX0_inductionVariable 63 = .ok (.istore_n 3, 1) := by decide +kernel
theorem dX0_inductionVariable_64 : decode cX0_inductionVariable 64 = .ok (.iload 7, 2) := by decide +kernel
theorem dX0_inductionVariable_66 : decode cX0_inductionVariable 66 = .ok (.istore 4, 2) := by decide +kernel
theorem dX0_inductionVariable_68 : decode cX0_inductionVariable 68 = .ok (.iinc 5 1, 3) := by decide +kernel
theorem dX0_inductionVariable_71 : decode cX0_inductionVariable 71 = .ok (.goto (-60), 3) := by decide +kernel
theorem dX0_inductionVariable_74 : decode cX0_inductionVariable 74 = .ok (.iload_n 2, 1) := by decide +kernel
theorem dX0_inductionVariable_75 : decode cX0_inductionVariable 75 = .ok (.ireturn, 1) := by decide +kernel
theorem dX0_commonStart_0 : decode cX0_commonStart 0 = .ok (.bipush (-9), 2) := by decide +kernel
theorem dX0_commonStart_2 : decode cX0_commonStart 2 = .ok (.istore_n 1, 1) := by decide +kernel
theorem dX0_commonStart_3 : decode cX0_commonStart 3 = .ok (.iconst 0, 1) := by decide +kernel
theorem dX0_commonStart_4 : decode cX0_commonStart 4 = .ok (.istore_n 2, 1) := by decide +kernel
theorem dX0_commonStart_5 : decode cX0_commonStart 5 = .ok (.iconst 0, 1) := by decide +kernel
theorem dX0_commonStart_6 : decode cX0_commonStart 6 = .ok (.istore_n 3, 1) := by decide +kernel
theorem dX0_commonStart_7 : decode cX0_commonStart 7 = .ok (.iload_n 3, 1) := by decide +kernel
theorem dX0_commonStart_8 : decode cX0_commonStart 8 = .ok (.aload_n 0, 1) := by decide +kernel
theorem dX0_commonStart_9 : decode cX0_commonStart 9 = .ok (.getfield 12, 3) := by decide +kernel
theorem dX0_commonStart_12 : decode cX0_commonStart 12 = .ok (.getfield 60, 3) := by decide +kernel
theorem dX0_commonStart_15 : decode cX0_commonStart 15 = .ok (.if_icmp .ge 63, 3) := by decide +kernel
theorem dX0_commonStart_18 : decode cX0_commonStart 18 = .ok (.aload_n 0, 1) := by decide +kernel
theorem dX0_commonStart_19 : decode cX0_commonStart 19 = .ok (.getfield 12, 3) := by decide +kernel
theorem dX0_commonStart_22 : decode cX0_commonStart 22 = .ok (.getfield 64, 3) := by decide +kernel
theorem dX0_commonStart_25 : decode cX0_commonStart 25 = .ok (.iload_n 3, 1) := by decide +kernel
theorem dX0_commonStart_26 : decode cX0_commonStart 26 = .ok (.iaload, 1) := by decide +kernel
theorem dX0_commonStart_27 : decode cX0_commonStart 27 = .ok (.iload_n 3, 1) := by decide +kernel
theorem dX0_commonStart_28 : decode cX0_commonStart 28 = .ok (.isub, 1) := by decide +kernel
theorem dX0_commonStart_29 : decode cX0_commonStart 29 = .ok (.istore 4, 2) := by decide +kernel
theorem dX0_commonStart_31 : decode cX0_commonStart 31 = .ok (.iload 4, 2) := by decide +kernel
theorem dX0_commonStart_33 : decode cX0_commonStart 33 = .ok (.iload_n 2, 1) := by decide +kernel
theorem dX0_commonStart_34 : decode cX0_commonStart 34 = .ok (.if_icmp .le 38, 3) := by decide +kernel
theorem dX0_commonStart_37 : decode cX0_commonStart 37 = .ok (.aload_n 0, 1) := by decide +kernel
theorem dX0_commonStart_38 : decode cX0_commonStart 38 = .ok (.getfield 12, 3) := by decide +kernel
theorem dX0_commonStart_41 : decode cX0_commonStart 41 = .ok (.getfield 37, 3) := by decide +kernel
theorem dX0_commonStart_44 : decode cX0_commonStart 44 = .ok (.iload_n 3, 1) := by decide +kernel
theorem dX0_commonStart_45 : decode cX0_commonStart 45 = .ok (.iaload, 1) := by decide +kernel
theorem dX0_commonStart_46 : decode cX0_commonStart 46 = .ok (.invokestatic 67, 3) := by decide +kernel
theorem dX0_commonStart_49 : decode cX0_commonStart 49 = .ok (.ifCond .eq 23, 3) := by decide +kernel
theorem dX0_commonStart_52 : decode cX0_commonStart 52 = .ok (.aload_n 0, 1) := by decide +kernel
theorem dX0_commonStart_53 : decode cX0_commonStart 53 = .ok (.getfield 18, 3) := by decide +kernel
theorem dX0_commonStart_56 : decode cX0_commonStart 56 = .ok (.aload_n 0, 1) := by decide +kernel
theorem dX0_commonStart_57 : decode cX0_commonStart 57 = .ok (.getfield 12, 3) := by decide +kernel
theorem dX0_commonStart_60 : decode cX0_commonStart 60 = .ok (.iload_n 3, 1) := by decide +kernel
theorem dX0_commonStart_61 : decode cX0_commonStart 61 = .ok (.invokevirtual 70, 3) := by decide +kernel
theorem dX0_commonStart_64 : decode cX0_commonStart 64 = .ok (.ifCond .eq 8, 3) := by decide +kernel
theorem dX0_commonStart_67 : decode cX0_commonStart 67 = .ok (.iload_n 3, 1) := by decide +kernel
theorem dX0_commonStart_68 : decode cX0_commonStart 68 = .ok (.istore_n 1, 1) := by decide +kernel
theorem dX0_commonStart_69 : decode cX0_commonStart 69 = .ok (.iload 4, 2) := by decide +kernel
theorem dX0_commonStart_71 : decode cX0_commonStart 71 = .ok (.istore_n 2, 1) := by decide +kernel
theorem dX0_commonStart_72 : decode cX0_commonStart 72 = .ok (.iinc 3 1, 3) := by decide +kernel
theorem dX0_commonStart_75 : decode cX0_commonStart 75 = .ok (.goto (-68), 3) := by decide +kernel
theorem dX0_commonStart_78 : decode cX0_commonStart 78 = .ok (.iload_n 1, 1) := by decide +kernel
theorem dX0_commonStart_79 : decode cX0_commonStart 79 = .ok (.ireturn, 1) := by decide +kernel
theorem dX0_freeVariable_0 : decode cX0_freeVariable 0 = .ok (.iconst 0, 1) := by decide +kernel
theorem dX0_freeVariable_1 : decode cX0_freeVariable 1 = .ok (.istore_n 1, 1) := by decide +kernel
theorem dX0_freeVariable_2 : decode cX0_freeVariable 2 = .ok (.iload_n 1, 1) := by decide +kernel
theorem dX0_freeVariable_3 : decode cX0_freeVariable 3 = .ok (.iconst 3, 1) := by decide +kernel
theorem dX0_freeVariable_4 : decode cX0_freeVariable 4 = .ok (.if_icmp .ge 19, 3) := by decide +kernel
theorem dX0_freeVariable_7 : decode cX0_freeVariable 7 = .ok (.aload_n 0, 1) := by decide +kernel
theorem dX0_freeVariable_8 : decode cX0_freeVariable 8 = .ok (.iload_n 1, 1) := by decide +kernel
theorem dX0_freeVariable_9 : decode cX0_freeVariable 9 = .ok (.invokevirtual 74, 3) := by decide +kernel
theorem dX0_freeVariable_12 : decode cX0_freeVariable 12 = .ok (.ifCond .ne 5, 3) := by decide +kernel
theorem dX0_freeVariable_15 : decode cX0_freeVariable 15 = .ok (.iload_n 1, 1) := by decide +kernel
theorem dX0_freeVariable_16 : decode cX0_freeVariable 16 = .ok (.ireturn, 1) := by decide +kernel
theorem dX0_freeVariable_17 : decode cX0_freeVariable 17 = .ok (.iinc 1 1, 3) := by decide +kernel
theorem dX0_freeVariable_20 : decode cX0_freeVariable 20 = .ok (.goto (-18), 3) := by decide +kernel
theorem dX0_freeVariable_23 : decode cX0_freeVariable 23 = .ok (.bipush (-9), 2) := by decide +kernel
theorem dX0_freeVariable_25 : decode cX0_freeVariable 25 = .ok (.ireturn, 1) := by decide +kernel
theorem dX0_generalize_0 : decode cX0_generalize 0 = .ok (.aload_n 0, 1) := by decide +kernel
theorem dX0_generalize_1 : decode cX0_generalize 1 = .ok (.invokevirtual 75, 3) := by decide +kernel
theorem dX0_generalize_4 : decode cX0_generalize 4 = .ok (.istore_n 3, 1) := by decide +kernel
theorem dX0_generalize_5 : decode cX0_generalize 5 = .ok (.iload_n 3, 1) := by decide +kernel
theorem dX0_generalize_6 : decode cX0_generalize 6 = .ok (.bipush (-9), 2) := by decide +kernel
theorem dX0_generalize_8 : decode cX0_generalize 8 = .ok (.if_icmp .ne 8, 3) := by decide +kernel
theorem dX0_generalize_11 : decode cX0_generalize 11 = .ok (.bipush (-9), 2) := by decide +kernel
theorem dX0_generalize_13 : decode cX0_generalize 13 = .ok (.goto 7, 3) := by decide +kernel
theorem dX0_generalize_16 : decode cX0_generalize 16 = .ok (.aload_n 0, 1) := by decide +kernel
theorem dX0_generalize_17 : decode cX0_generalize 17 = .ok (.invokevirtual 79, 3) := by decide +kernel
theorem dX0_generalize_20 : decode cX0_generalize 20 = .ok (.istore 4, 2) := by decide +kernel
theorem dX0_generalize_22 : decode cX0_generalize 22 = .ok (.iload 4, 2) := by decide +kernel
theorem dX0_generalize_24 : decode cX0_generalize 24 = .ok (.bipush (-9), 2) := by decide +kernel
theorem dX0_generalize_26 : decode cX0_generalize 26 = .ok (.if_icmp .ne 11, 3) := by decide +kernel
theorem dX0_generalize_29 : decode cX0_generalize 29 = .ok (.aload_n 1, 1) := by decide +kernel
theorem dX0_generalize_30 : decode cX0_generalize 30 = .ok (.aload_n 0, 1) := by decide +kernel
theorem dX0_generalize_31 : decode cX0_generalize 31 = .ok (.invokevirtual 82, 3) := by decide +kernel
theorem dX0_generalize_34 : decode cX0_generalize 34 = .ok (.bipush (-9), 2) := by decide +kernel
theorem dX0_generalize_36 : decode cX0_generalize 36 = .ok (.ireturn, 1) := by decide +kernel
theorem dX0_generalize_37 : decode cX0_generalize 37 = .ok (.aload_n 0, 1) := by decide +kernel
theorem dX0_generalize_38 : decode cX0_generalize 38 = .ok (.aload_n 0, 1) := by decide +kernel
theorem dX0_generalize_39 : decode cX0_generalize 39 = .ok (.getfield 12, 3) := by decide +kernel
theorem dX0_generalize_42 : decode cX0_generalize 42 = .ok (.iload_n 3, 1) := by decide +kernel
theorem dX0_generalize_43 : decode cX0_generalize 43 = .ok (.iload 4, 2) := by decide +kernel
theorem dX0_generalize_45 : decode cX0_generalize 45 = .ok (.aload_n 1, 1) := by decide +kernel
theorem dX0_generalize_46 : decode cX0_generalize 46 = .ok (.getfield 12, 3) := by decide +kernel
theorem dX0_generalize_49 : decode cX0_generalize 49 = .ok (.invokevirtual 85, 3) := by decide +kernel
theorem dX0_generalize_52 : decode cX0_generalize 52 = .ok (.aload_n 0, 1) := by decide +kernel
theorem dX0_generalize_53 : decode cX0_generalize 53 = .ok (.aload_n 0, 1) := by decide +kernel
theorem dX0_generalize_54 : decode cX0_generalize 54 = .ok (.getfield 18, 3) := by decide +kernel
theorem dX0_generalize_57 : decode cX0_generalize 57 = .ok (.iload_n 3, 1) := by decide +kernel
theorem dX0_generalize_58 : decode cX0_generalize 58 = .ok (.iload 4, 2) := by decide +kernel
theorem dX0_generalize_60 : decode cX0_generalize 60 = .ok (.aload_n 1, 1) := by decide +kernel
theorem dX0_generalize_61 : decode cX0_generalize 61 = .ok (.getfield 18, 3) := by decide +kernel
theorem dX0_generalize_64 : decode cX0_generalize 64 = .ok (.invokevirtual 85, 3) := by decide +kernel
theorem dX0_generalize_67 : decode cX0_generalize 67 = .ok (.aload_n 1, 1) := by decide +kernel
theorem dX0_generalize_68 : decode cX0_generalize 68 = .ok (.getfield 12, 3) := by decide +kernel
theorem dX0_generalize_71 : decode cX0_generalize 71 = .ok (.aload_n 2, 1) := by decide +kernel
theorem dX0_generalize_72 : decode cX0_generalize 72 = .ok (.getfield 89, 3) := by decide +kernel
theorem dX0_generalize_75 : decode cX0_generalize 75 = .ok (.invokevirtual 92, 3) := by decide +kernel
theorem dX0_generalize_78 : decode cX0_generalize 78 = .ok (.aload_n 1, 1) := by decide +kernel
theorem dX0_generalize_79 : decode cX0_generalize 79 = .ok (.getfield 18, 3) := by decide +kernel
theorem dX0_generalize_82 : decode cX0_generalize 82 = .ok (.aload_n 2, 1) := by decide +kernel
theorem dX0_generalize_83 : decode cX0_generalize 83 = .ok (.getfield 89, 3) := by decide +kernel
theorem dX0_generalize_86 : decode cX0_generalize 86 = .ok (.invokevirtual 92, 3) := by decide +kernel
theorem dX0_generalize_89 : decode cX0_generalize 89 = .ok (.iload 4, 2) := by decide +kernel
theorem dX0_generalize_91 : decode cX0_generalize 91 = .ok (.ireturn, 1) := by decide +kernel
theorem dX0_putVariable_0 : decode cX0_putVariable 0 = .ok (.aload 4, 2) := by decide +kernel
theorem dX0_putVariable_2 : decode cX0_putVariable 2 = .ok (.invokevirtual 96, 3) := by decide +kernel
theorem dX0_putVariable_5 : decode cX0_putVariable 5 = .ok (.iconst 0, 1) := by decide +kernel
theorem dX0_putVariable_6 : decode cX0_putVariable 6 = .ok (.istore 5, 2) := by decide +kernel
theorem dX0_putVariable_8 : decode cX0_putVariable 8 = .ok (.iconst 0, 1) := by decide +kernel
theorem dX0_putVariable_9 : decode cX0_putVariable 9 = .ok (.istore 6, 2) := by decide +kernel
theorem dX0_putVariable_11 : decode cX0_putVariable 11 = .ok (.iload 6, 2) := by decide +kernel
theorem dX0_putVariable_13 : decode cX0_putVariable 13 = .ok (.aload_n 1, 1) := by decide +kernel
theorem dX0_putVariable_14 : decode cX0_putVariable 14 = .ok (.getfield 60, 3) := by decide +kernel
theorem dX0_putVariable_17 : decode cX0_putVariable 17 = .ok (.if_icmp .ge 78, 3) := by decide +kernel
theorem dX0_putVariable_20 : decode cX0_putVariable 20 = .ok (.iload 6, 2) := by decide +kernel
theorem dX0_putVariable_22 : decode cX0_putVariable 22 = .ok (.iload 5, 2) := by decide +kernel
theorem dX0_putVariable_24 : decode cX0_putVariable 24 = .ok (.if_icmp .ge 6, 3) := by decide +kernel
theorem dX0_putVariable_27 : decode cX0_putVariable 27 = .ok (.goto 62, 3) := by decide +kernel
theorem dX0_putVariable_30 : decode cX0_putVariable 30 = .ok (.aload_n 0, 1) := by decide +kernel
theorem dX0_putVariable_31 : decode cX0_putVariable 31 = .ok (.getfield 12, 3) := by decide +kernel
theorem dX0_putVariable_34 : decode cX0_putVariable 34 = .ok (.iload_n 2, 1) := by decide +kernel
theorem dX0_putVariable_35 : decode cX0_putVariable 35 = .ok (.aload_n 1, 1) := by decide +kernel
theorem dX0_putVariable_36 : decode cX0_putVariable 36 = .ok (.iload 6, 2) := by decide +kernel
theorem dX0_putVariable_38 : decode cX0_putVariable 38 = .ok (.invokevirtual 99, 3) := by decide +kernel
theorem dX0_putVariable_41 : decode cX0_putVariable 41 = .ok (.istore 7, 2) := by decide +kernel
theorem dX0_putVariable_43 : decode cX0_putVariable 43 = .ok (.aload 4, 2) := by decide +kernel
theorem dX0_putVariable_45 : decode cX0_putVariable 45 = .ok (.iload 7, 2) := by decide +kernel
theorem dX0_putVariable_47 : decode cX0_putVariable 47 = .ok (.ifCond .eq 10, 3) := by decide +kernel
theorem dX0_putVariable_50 : decode cX0_putVariable 50 = .ok (.bipush 120, 2) := by decide +kernel
theorem dX0_putVariable_52 : decode cX0_putVariable 52 = .ok (.iload_n 3, 1) := by decide +kernel
theorem dX0_putVariable_53 : decode cX0_putVariable 53 = .ok (.iadd, 1) := by decide +kernel
theorem dX0_putVariable_54 : decode cX0_putVariable 54 = .ok (.goto 10, 3) := by decide +kernel
theorem dX0_putVariable_57 : decode cX0_putVariable 57 = .ok (.aload_n 1, 1) := by decide +kernel
theorem dX0_putVariable_58 : decode cX0_putVariable 58 = .ok (.getfield 37, 3) := by decide +kernel
theorem dX0_putVariable_61 : decode cX0_putVariable 61 = .ok (.iload 6, 2) := by decide +kernel
theorem dX0_putVariable_63 : decode cX0_putVariable 63 = .ok (.iaload, 1) := by decide +kernel
theorem dX0_putVariable_64 : decode cX0_putVariable 64 = .ok (.invokevirtual 103, 3) := by decide +kernel
theorem dX0_putVariable_67 : decode cX0_putVariable 67 = .ok (.pop, 1) := by decide +kernel
theorem dX0_putVariable_68 : decode cX0_putVariable 68 = .ok (.iload 7, 2) := by decide +kernel
theorem dX0_putVariable_70 : decode cX0_putVariable 70 = .ok (.ifCond .eq 13, 3) := by decide +kernel
theorem dX0_putVariable_73 : decode cX0_putVariable 73 = .ok (.aload_n 1, 1) := by decide +kernel
theorem dX0_putVariable_74 : decode cX0_putVariable 74 = .ok (.getfield 64, 3) := by decide +kernel
theorem dX0_putVariable_77 : decode cX0_putVariable 77 = .ok (.iload 6, 2) := by decide +kernel
theorem dX0_putVariable_79 : decode cX0_putVariable 79 = .ok (.iaload, 1) := by decide +kernel
theorem dX0_putVariable_80 : decode cX0_putVariable 80 = .ok (.goto 7, 3) := by decide +kernel
theorem dX0_putVariable_83 : decode cX0_putVariable 83 = .ok (.iload 6, 2) := by decide +kernel
theorem dX0_putVariable_85 : decode cX0_putVariable 85 = .ok (.iconst 1, 1) := by decide +kernel
theorem dX0_putVariable_86 : decode cX0_putVariable 86 = .ok (.iadd, 1) := by decide +kernel
theorem dX0_putVariable_87 : decode cX0_putVariable 87 = .ok (.istore 5, 2) := by decide +kernel
theorem dX0_putVariable_89 : decode cX0_putVariable 89 = .ok (.iinc 6 1, 3) := by decide +kernel
theorem dX0_putVariable_92 : decode cX0_putVariable 92 = .ok (.goto (-81), 3) := by decide +kernel
theorem dX0_putVariable_95 : decode cX0_putVariable 95 = .ok (.return_, 1) := by decide +kernel
theorem dX1_init_0 : decode cX1_init 0 = .ok (.aload_n 0, 1) := by decide +kernel
theorem dX1_init_1 : decode cX1_init 1 = .ok (.invokespecial 3, 3) := by decide +kernel
theorem dX1_init_4 : decode cX1_init 4 = .ok (.aload_n 0, 1) := by decide +kernel
theorem dX1_init_5 : decode cX1_init 5 = .ok (.sipush 1600, 3) := by decide +kernel
theorem dX1_init_8 : decode cX1_init 8 = .ok (.newarray .int, 2) := by decide +kernel
theorem dX1_init_10 : decode cX1_init 10 = .ok (.putfield 9, 3) := by decide +kernel
theorem dX1_init_13 : decode cX1_init 13 = .ok (.aload_n 0, 1) := by decide +kernel
theorem dX1_init_14 : decode cX1_init 14 = .ok (.bipush 40, 2) := by decide +kernel
theorem dX1_init_16 : decode cX1_init 16 = .ok (.newarray .int, 2) := by decide +kernel
theorem dX1_init_18 : decode cX1_init 18 = .ok (.putfield 15, 3) := by decide +kernel
theorem dX1_init_21 : decode cX1_init 21 = .ok (.return_, 1) := by decide +kernel
theorem dX1_smallest_0 : decode cX1_smallest 0 = .ok (.aload_n 2, 1) := by decide +kernel
theorem dX1_smallest_1 : decode cX1_smallest 1 = .ok (.getfield 18, 3) := by decide +kernel
theorem dX1_smallest_4 : decode cX1_smallest 4 = .ok (.iconst 1, 1) := by decide +kernel
theorem dX1_smallest_5 : decode cX1_smallest 5 = .ok (.if_icmp .lt 14, 3) := by decide +kernel
theorem dX1_smallest_8 : decode cX1_smallest 8 = .ok (.aload_n 1, 1) := by decide +kernel
theorem dX1_smallest_9 : decode cX1_smallest 9 = .ok (.getfield 18, 3) := by decide +kernel
theorem dX1_smallest_12 : decode cX1_smallest 12 = .ok (.aload_n 2, 1) := by decide +kernel
theorem dX1_smallest_13 : decode cX1_smallest 13 = .ok (.getfield 18, 3) := by decide +kernel
theorem dX1_smallest_16 : decode cX1_smallest 16 = .ok (.if_icmp .ge 6, 3) := by decide +kernel
theorem dX1_smallest_19 : decode cX1_smallest 19 = .ok (.bipush (-9), 2) := by decide +kernel
theorem dX1_smallest_21 : decode cX1_smallest 21 = .ok (.ireturn, 1) := by decide +kernel
theorem dX1_smallest_22 : decode cX1_smallest 22 = .ok (.aload_n 0, 1) := by decide +kernel
theorem dX1_smallest_23 : decode cX1_smallest 23 = .ok (.aload_n 1, 1) := by decide +kernel
theorem dX1_smallest_24 : decode cX1_smallest 24 = .ok (.invokevirtual 24, 3) := by decide +kernel
theorem dX1_smallest_27 : decode cX1_smallest 27 = .ok (.aload_n 1, 1) := by decide +kernel
theorem dX1_smallest_28 : decode cX1_smallest 28 = .ok (.getfield 18, 3) := by decide +kernel
theorem dX1_smallest_31 : decode cX1_smallest 31 = .ok (.iconst 1, 1) := by decide +kernel
theorem dX1_smallest_32 : decode cX1_smallest 32 = .ok (.isub, 1) := by decide +kernel
theorem dX1_smallest_33 : decode cX1_smallest 33 = .ok (.istore_n 3, 1) := by decide +kernel
theorem dX1_smallest_34 : decode cX1_smallest 34 = .ok (.iload_n 3, 1) := by decide +kernel
theorem dX1_smallest_35 : decode cX1_smallest 35 = .ok (.ifCond .lt 49, 3) := by decide +kernel
theorem dX1_smallest_38 : decode cX1_smallest 38 = .ok (.aload_n 2, 1) := by decide +kernel
theorem dX1_smallest_39 : decode cX1_smallest 39 = .ok (.getfield 18, 3) := by decide +kernel
theorem dX1_smallest_42 : decode cX1_smallest 42 = .ok (.iconst 1, 1) := by decide +kernel
theorem dX1_smallest_43 : decode cX1_smallest 43 = .ok (.isub, 1) := by decide +kernel
theorem dX1_smallest_44 : decode cX1_smallest 44 = .ok (.istore 4, 2) := by decide +kernel
theorem dX1_smallest_46 : decode cX1_smallest 46 = .ok (.iload 4, 2) := by decide +kernel
theorem dX1_smallest_48 : decode cX1_smallest 48 = .ok (.ifCond .lt 30, 3) := by decide +kernel
theorem dX1_smallest_51 : decode cX1_smallest 51 = .ok (.aload_n 0, 1) := by decide +kernel
theorem dX1_smallest_52 : decode cX1_smallest 52 = .ok (.getfield 9, 3) := by decide +kernel
theorem dX1_smallest_55 : decode cX1_smallest 55 = .ok (.iload_n 3, 1) := by decide +kernel
theorem dX1_smallest_56 : decode cX1_smallest 56 = .ok (.bipush 40, 2) := by decide +kernel
theorem dX1_smallest_58 : decode cX1_smallest 58 = .ok (.imul, 1) := by decide +kernel
theorem dX1_smallest_59 : decode cX1_smallest 59 = .ok (.iload 4, 2) := by decide +kernel
theorem dX1_smallest_61 : decode cX1_smallest 61 = .ok (.iadd, 1) := by decide +kernel
theorem dX1_smallest_62 : decode cX1_smallest 62 = .ok (.aload_n 0, 1) := by decide +kernel
theorem dX1_smallest_63 : decode cX1_smallest 63 = .ok (.aload_n 1, 1) := by decide +kernel
theorem dX1_smallest_64 : decode cX1_smallest 64 = .ok (.iload_n 3, 1) := by decide +kernel
theorem dX1_smallest_65 : decode cX1_smallest 65 = .ok (.aload_n 2, 1) := by decide +kernel
theorem dX1_smallest_66 : decode cX1_smallest 66 = .ok (.iload 4, 2) := by decide +kernel
theorem dX1_smallest_68 : decode cX1_smallest 68 = .ok (.invokevirtual 28, 3) := by decide +kernel
theorem dX1_smallest_71 : decode cX1_smallest 71 = .ok (.iastore, 1) := by decide +kernel
theorem dX1_smallest_72 : decode cX1_smallest 72 = .ok (.iinc 4 (-1), 3) := by decide +kernel
theorem dX1_smallest_75 : decode cX1_smallest 75 = .ok (.goto (-29), 3) := by decide +kernel
theorem dX1_smallest_78 : decode cX1_smallest 78 = .ok (.iinc 3 (-1), 3) := by decide +kernel
theorem dX1_smallest_81 : decode cX1_smallest 81 = .ok (.goto (-47), 3) := by decide +kernel
theorem dX1_smallest_84 : decode cX1_smallest 84 = .ok (.aload_n 0, 1) := by decide +kernel
theorem dX1_smallest_85 : decode cX1_smallest 85 = .ok (.getfield 9, 3) := by decide +kernel
theorem dX1_smallest_88 : decode cX1_smallest 88 = .ok (.iconst 0, 1) := by decide +kernel
theorem dX1_smallest_89 : decode cX1_smallest 89 = .ok (.iaload, 1) := by decide +kernel
theorem dX1_smallest_90 : decode cX1_smallest 90 = .ok (.ldc 32, 2) := by decide +kernel
theorem dX1_smallest_92 : decode cX1_smallest 92 = .ok (.if_icmp .lt 8, 3) := by decide +kernel
theorem dX1_smallest_95 : decode cX1_smallest 95 = .ok (.bipush (-9), 2) := by decide +kernel
theorem dX1_smallest_97 : decode cX1_smallest 97 = .ok (.goto 9, 3) := by decide +kernel
theorem dX1_smallest_100 : decode cX1_smallest 100 = .ok (.aload_n 0, 1) := by decide +kernel
theorem dX1_smallest_101 : decode cX1_smallest 101 = .ok (.getfield 9, 3) := by decide +kernel
theorem dX1_smallest_104 : decode cX1_smallest 104 = .ok (.iconst 0, 1) := by decide +kernel
theorem dX1_smallest_105 : decode cX1_smallest 105 = .ok (.iaload, 1) := by decide +kernel
theorem dX1_smallest_106 : decode cX1_smallest 106 = .ok (.ireturn, 1) := by decide +kernel
theorem dX1_findDepths_0 : decode cX1_findDepths 0 = .ok (.aload_n 0, 1) := by decide +kernel
theorem dX1_findDepths_1 : decode cX1_findDepths 1 = .ok (.getfield 15, 3) := by decide +kernel
theorem dX1_findDepths_4 : decode cX1_findDepths 4 = .ok (.iconst 0, 1) := by decide +kernel
theorem dX1_findDepths_5 : decode cX1_findDepths 5 = .ok (.iconst 0, 1) := by decide +kernel
theorem dX1_findDepths_6 : decode cX1_findDepths 6 = .ok (.iastore, 1) := by decide +kernel
theorem dX1_findDepths_7 : decode cX1_findDepths 7 = .ok (.iconst 0, 1) := by decide +kernel
theorem dX1_findDepths_8 : decode cX1_findDepths 8 = .ok (.istore_n 2, 1) := by decide +kernel
theorem dX1_findDepths_9 : decode cX1_findDepths 9 = .ok (.iload_n 2, 1) := by decide +kernel
theorem dX1_findDepths_10 : decode cX1_findDepths 10 = .ok (.iconst 1, 1) := by decide +kernel
theorem dX1_findDepths_11 : decode cX1_findDepths 11 = .ok (.iadd, 1) := by decide +kernel
theorem dX1_findDepths_12 : decode cX1_findDepths 12 = .ok (.aload_n 1, 1) := by decide +kernel
theorem dX1_findDepths_13 : decode cX1_findDepths 13 = .ok (.getfield 18, 3) := by decide +kernel
theorem dX1_findDepths_16 : decode cX1_findDepths 16 = .ok (.if_icmp .ge 70, 3) := by decide +kernel
theorem dX1_findDepths_19 : decode cX1_findDepths 19 = .ok (.aload_n 1, 1) := by decide +kernel
theorem dX1_findDepths_20 : decode cX1_findDepths 20 = .ok (.getfield 33, 3) := by decide +kernel
theorem dX1_findDepths_23 : decode cX1_findDepths 23 = .ok (.iload_n 2, 1) := by decide +kernel
theorem dX1_findDepths_24 : decode cX1_findDepths 24 = .ok (.iaload, 1) := by decide +kernel
theorem dX1_findDepths_25 : decode cX1_findDepths 25 = .ok (.iload_n 2, 1) := by decide +kernel
theorem dX1_findDepths_26 : decode cX1_findDepths 26 = .ok (.iconst 1, 1) := by decide +kernel
theorem dX1_findDepths_27 : decode cX1_findDepths 27 = .ok (.iadd, 1) := by decide +kernel
theorem dX1_findDepths_28 : decode cX1_findDepths 28 = .ok (.if_icmp .le 52, 3) := by decide +kernel
theorem dX1_findDepths_31 : decode cX1_findDepths 31 = .ok (.aload_n 0, 1) := by decide +kernel
theorem dX1_findDepths_32 : decode cX1_findDepths 32 = .ok (.getfield 15, 3) := by decide +kernel
theorem dX1_findDepths_35 : decode cX1_findDepths 35 = .ok (.iload_n 2, 1) := by decide +kernel
theorem dX1_findDepths_36 : decode cX1_findDepths 36 = .ok (.iconst 1, 1) := by decide +kernel
theorem dX1_findDepths_37 : decode cX1_findDepths 37 = .ok (.iadd, 1) := by decide +kernel
theorem dX1_findDepths_38 : decode cX1_findDepths 38 = .ok (.aload_n 0, 1) := by decide +kernel
theorem dX1_findDepths_39 : decode cX1_findDepths 39 = .ok (.getfield 15, 3) := by decide +kernel
theorem dX1_findDepths_42 : decode cX1_findDepths 42 = .ok (.iload_n 2, 1) := by decide +kernel
theorem dX1_findDepths_43 : decode cX1_findDepths 43 = .ok (.iaload, 1) := by decide +kernel
theorem dX1_findDepths_44 : decode cX1_findDepths 44 = .ok (.iconst 1, 1) := by decide +kernel
theorem dX1_findDepths_45 : decode cX1_findDepths 45 = .ok (.iadd, 1) := by decide +kernel
theorem dX1_findDepths_46 : decode cX1_findDepths 46 = .ok (.iastore, 1) := by decide +kernel
theorem dX1_findDepths_47 : decode cX1_findDepths 47 = .ok (.aload_n 1, 1) := by decide +kernel
theorem dX1_findDepths_48 : decode cX1_findDepths 48 = .ok (.getfield 33, 3) := by decide +kernel
theorem dX1_findDepths_51 : decode cX1_findDepths 51 = .ok (.iload_n 2, 1) := by decide +kernel
theorem dX1_findDepths_52 : decode cX1_findDepths 52 = .ok (.iconst 1, 1) := by decide +kernel
theorem dX1_findDepths_53 : decode cX1_findDepths 53 = .ok (.iadd, 1) := by decide +kernel
theorem dX1_findDepths_54 : decode cX1_findDepths 54 = .ok (.iaload, 1) := by decide +kernel
theorem dX1_findDepths_55 : decode cX1_findDepths 55 = .ok (.istore_n 3, 1) := by decide +kernel
theorem dX1_findDepths_56 : decode cX1_findDepths 56 = .ok (.iload_n 3, 1) := by decide +kernel
theorem dX1_findDepths_57 : decode cX1_findDepths 57 = .ok (.aload_n 1, 1) := by decide +kernel
theorem dX1_findDepths_58 : decode cX1_findDepths 58 = .ok (.getfield 33, 3) := by decide +kernel
theorem dX1_findDepths_61 : decode cX1_findDepths 61 = .ok (.iload_n 2, 1) := by decide +kernel
theorem dX1_findDepths_62 : decode cX1_findDepths 62 = .ok (.iaload, 1) := by decide +kernel
theorem dX1_findDepths_63 : decode cX1_findDepths 63 = .ok (.if_icmp .ge 17, 3) := by decide +kernel
theorem dX1_findDepths_66 : decode cX1_findDepths 66 = .ok (.aload_n 0, 1) := by decide +kernel
theorem dX1_findDepths_67 : decode cX1_findDepths 67 = .ok (.getfield 15, 3) := by decide +kernel
theorem dX1_findDepths_70 : decode cX1_findDepths 70 = .ok (.iload_n 3, 1) := by decide +kernel
theorem dX1_findDepths_71 : decode cX1_findDepths 71 = .ok (.aload_n 0, 1) := by decide +kernel
theorem dX1_findDepths_72 : decode cX1_findDepths 72 = .ok (.getfield 15, 3) := by decide +kernel
theorem dX1_findDepths_75 : decode cX1_findDepths 75 = .ok (.iload_n 2, 1) := by decide +kernel
theorem dX1_findDepths_76 : decode cX1_findDepths 76 = .ok (.iaload, 1) := by decide +kernel
theorem dX1_findDepths_77 : decode cX1_findDepths 77 = .ok (.iconst 1, 1) := by decide +kernel
theorem dX1_findDepths_78 : decode cX1_findDepths 78 = .ok (.iadd, 1) := by decide +kernel
theorem dX1_findDepths_79 : decode cX1_findDepths 79 = .ok (.iastore, 1) := by decide +kernel
theorem dX1_findDepths_80 : decode cX1_findDepths 80 = .ok (.iinc 2 1, 3) := by decide +kernel
theorem dX1_findDepths_83 : decode cX1_findDepths 83 = .ok (.goto (-74), 3) := by decide +kernel
theorem dX1_findDepths_86 : decode cX1_findDepths 86 = .ok (.return_, 1) := by decide +kernel
theorem dX1_smallestAt_0 : decode cX1_smallestAt 0 = .ok (.aload_n 1, 1) := by decide +kernel
theorem dX1_smallestAt_1 : decode cX1_smallestAt 1 = .ok (.getfield 33, 3) := by decide +kernel
theorem dX1_smallestAt_4 : decode cX1_smallestAt 4 = .ok (.iload_n 2, 1) := by decide +kernel
theorem dX1_smallestAt_5 : decode cX1_smallestAt 5 = .ok (.iaload, 1) := by decide +kernel
theorem dX1_smallestAt_6 : decode cX1_smallestAt 6 = .ok (.istore 5, 2) := by decide +kernel
theorem dX1_smallestAt_8 : decode cX1_smallestAt 8 = .ok (.aload_n 3, 1) := by decide +kernel
theorem dX1_smallestAt_9 : decode cX1_smallestAt 9 = .ok (.getfield 33, 3) := by decide +kernel
theorem dX1_smallestAt_12 : decode cX1_smallestAt 12 = .ok (.iload 4, 2) := by decide +kernel
theorem dX1_smallestAt_14 : decode cX1_smallestAt 14 = .ok (.iaload, 1) := by decide +kernel
theorem dX1_smallestAt_15 : decode cX1_smallestAt 15 = .ok (.istore 6, 2) := by decide +kernel
theorem dX1_smallestAt_17 : decode cX1_smallestAt 17 = .ok (.iload 5, 2) := by decide +kernel
theorem dX1_smallestAt_19 : decode cX1_smallestAt 19 = .ok (.iload_n 2, 1) := by decide +kernel
theorem dX1_smallestAt_20 : decode cX1_smallestAt 20 = .ok (.isub, 1) := by decide +kernel
theorem dX1_smallestAt_21 : decode cX1_smallestAt 21 = .ok (.iload 6, 2) := by decide +kernel
theorem dX1_smallestAt_23 : decode cX1_smallestAt 23 = .ok (.iload 4, 2) := by decide +kernel
theorem dX1_smallestAt_25 : decode cX1_smallestAt 25 = .ok (.isub, 1) := by decide +kernel
theorem dX1_smallestAt_26 : decode cX1_smallestAt 26 = .ok (.if_icmp .ge 6, 3) := by decide +kernel
theorem dX1_smallestAt_29 : decode cX1_smallestAt 29 = .ok (.ldc 32, 2) := by decide +kernel
theorem dX1_smallestAt_31 : decode cX1_smallestAt 31 = .ok (.ireturn, 1) := by decide +kernel
theorem dX1_smallestAt_32 : decode cX1_smallestAt 32 = .ok (.aload_n 1, 1) := by decide +kernel
theorem dX1_smallestAt_33 : decode cX1_smallestAt 33 = .ok (.getfield 36, 3) := by decide +kernel
theorem dX1_smallestAt_36 : decode cX1_smallestAt 36 = .ok (.iload_n 2, 1) := by decide +kernel
theorem dX1_smallestAt_37 : decode cX1_smallestAt 37 = .ok (.iaload, 1) := by decide +kernel
theorem dX1_smallestAt_38 : decode cX1_smallestAt 38 = .ok (.aload_n 3, 1) := by decide +kernel
theorem dX1_smallestAt_39 : decode cX1_smallestAt 39 = .ok (.getfield 36, 3) := by decide +kernel
theorem dX1_smallestAt_42 : decode cX1_smallestAt 42 = .ok (.iload 4, 2) := by decide +kernel
theorem dX1_smallestAt_44 : decode cX1_smallestAt 44 = .ok (.iaload, 1) := by decide +kernel
theorem dX1_smallestAt_45 : decode cX1_smallestAt 45 = .ok (.if_icmp .ne 7, 3) := by decide +kernel
theorem dX1_smallestAt_48 : decode cX1_smallestAt 48 = .ok (.iconst 1, 1) := by decide +kernel
theorem dX1_smallestAt_49 : decode cX1_smallestAt 49 = .ok (.goto 4, 3) := by decide +kernel
theorem dX1_smallestAt_52 : decode cX1_smallestAt 52 = .ok (.iconst 0, 1) := by decide +kernel
theorem dX1_smallestAt_53 : decode cX1_smallestAt 53 = .ok (.istore 7, 2) := by decide +kernel
theorem dX1_smallestAt_55 : decode cX1_smallestAt 55 = .ok (.iload 5, 2) := by decide +kernel
theorem dX1_smallestAt_57 : decode cX1_smallestAt 57 = .ok (.iload_n 2, 1) := by decide +kernel
theorem dX1_smallestAt_58 : decode cX1_smallestAt 58 = .ok (.iconst 1, 1) := by decide +kernel
theorem dX1_smallestAt_59 : decode cX1_smallestAt 59 = .ok (.iadd, 1) := by decide +kernel
theorem dX1_smallestAt_60 : decode cX1_smallestAt 60 = .ok (.if_icmp .gt 15, 3) := by decide +kernel
theorem dX1_smallestAt_63 : decode cX1_smallestAt 63 = .ok (.iload 7, 2) := by decide +kernel
theorem dX1_smallestAt_65 : decode cX1_smallestAt 65 = .ok (.ifCond .eq 7, 3) := by decide +kernel
theorem dX1_smallestAt_68 : decode cX1_smallestAt 68 = .ok (.iconst 0, 1) := by decide +kernel
theorem dX1_smallestAt_69 : decode cX1_smallestAt 69 = .ok (.goto 5, 3) := by decide +kernel
theorem dX1_smallestAt_72 : decode cX1_smallestAt 72 = .ok (.ldc 32, 2) := by decide +kernel
theorem dX1_smallestAt_74 : decode cX1_smallestAt 74 = .ok (.ireturn, 1) := by decide +kernel
theorem dX1_smallestAt_75 : decode cX1_smallestAt 75 = .ok (.aload_n 1, 1) := by decide +kernel
theorem dX1_smallestAt_76 : decode cX1_smallestAt 76 = .ok (.getfield 33, 3) := by decide +kernel
theorem dX1_smallestAt_79 : decode cX1_smallestAt 79 = .ok (.iload_n 2, 1) := by decide +kernel
theorem dX1_smallestAt_80 : decode cX1_smallestAt 80 = .ok (.iconst 1, 1) := by decide +kernel
theorem dX1_smallestAt_81 : decode cX1_smallestAt 81 = .ok (.iadd, 1) := by decide +kernel
theorem dX1_smallestAt_82 : decode cX1_smallestAt 82 = .ok (.iaload, 1) := by decide +kernel
theorem dX1_smallestAt_83 : decode cX1_smallestAt 83 = .ok (.istore 8, 2) := by decide +kernel
theorem dX1_smallestAt_85 : decode cX1_smallestAt 85 = .ok (.iload 8, 2) := by decide +kernel
theorem dX1_smallestAt_87 : decode cX1_smallestAt 87 = .ok (.iload 5, 2) := by decide +kernel
theorem dX1_smallestAt_89 : decode cX1_smallestAt 89 = .ok (.if_icmp .ge 7, 3) := by decide +kernel
theorem dX1_smallestAt_92 : decode cX1_smallestAt 92 = .ok (.iconst 1, 1) := by decide +kernel
theorem dX1_smallestAt_93 : decode cX1_smallestAt 93 = .ok (.goto 4, 3) := by decide +kernel
theorem dX1_smallestAt_96 : decode cX1_smallestAt 96 = .ok (.iconst 0, 1) := by decide +kernel
theorem dX1_smallestAt_97 : decode cX1_smallestAt 97 = .ok (.istore 9, 2) := by decide +kernel
theorem dX1_smallestAt_99 : decode cX1_smallestAt 99 = .ok (.aload_n 0, 1) := by decide +kernel
theorem dX1_smallestAt_100 : decode cX1_smallestAt 100 = .ok (.getfield 9, 3) := by decide +kernel
theorem dX1_smallestAt_103 : decode cX1_smallestAt 103 = .ok (.iload_n 2, 1) := by decide +kernel
theorem dX1_smallestAt_104 : decode cX1_smallestAt 104 = .ok (.iconst 1, 1) := by decide +kernel
theorem dX1_smallestAt_105 : decode cX1_smallestAt 105 = .ok (.iadd, 1) := by decide +kernel
theorem dX1_smallestAt_106 : decode cX1_smallestAt 106 = .ok (.bipush 40, 2) := by decide +kernel
theorem dX1_smallestAt_108 : decode cX1_smallestAt 108 = .ok (.imul, 1) := by decide +kernel
theorem dX1_smallestAt_109 : decode cX1_smallestAt 109 = .ok (.iload 4, 2) := by decide +kernel
theorem dX1_smallestAt_111 : decode cX1_smallestAt 111 = .ok (.iadd, 1) := by decide +kernel
theorem dX1_smallestAt_112 : decode cX1_smallestAt 112 = .ok (.iaload, 1) := by decide +kernel
theorem dX1_smallestAt_113 : decode cX1_smallestAt 113 = .ok (.istore 10, 2) := by decide +kernel
theorem dX1_smallestAt_115 : decode cX1_smallestAt 115 = .ok (.iload 9, 2) := by decide +kernel
theorem dX1_smallestAt_117 : decode cX1_smallestAt 117 = .ok (.ifCond .eq 23, 3) := by decide +kernel
theorem dX1_smallestAt_120 : decode cX1_smallestAt 120 = .ok (.iload 10, 2) := by decide +kernel
theorem dX1_smallestAt_122 : decode cX1_smallestAt 122 = .ok (.aload_n 0, 1) := by decide +kernel
theorem dX1_smallestAt_123 : decode cX1_smallestAt 123 = .ok (.getfield 9, 3) := by decide +kernel
theorem dX1_smallestAt_126 : decode cX1_smallestAt 126 = .ok (.iload 8, 2) := by decide +kernel
theorem dX1_smallestAt_128 : decode cX1_smallestAt 128 = .ok (.bipush 40, 2) := by decide +kernel
theorem dX1_smallestAt_130 : decode cX1_smallestAt 130 = .ok (.imul, 1) := by decide +kernel
theorem dX1_smallestAt_131 : decode cX1_smallestAt 131 = .ok (.iload 4, 2) := by decide +kernel
theorem dX1_smallestAt_133 : decode cX1_smallestAt 133 = .ok (.iadd, 1) := by decide +kernel
theorem dX1_smallestAt_134 : decode cX1_smallestAt 134 = .ok (.iaload, 1) := by decide +kernel
theorem dX1_smallestAt_135 : decode cX1_smallestAt 135 = .ok (.invokestatic 39, 3) := by decide +kernel
theorem dX1_smallestAt_138 : decode cX1_smallestAt 138 = .ok (.istore 10, 2) := by decide +kernel
theorem dX1_smallestAt_140 : decode cX1_smallestAt 140 = .ok (.iload 10, 2) := by decide +kernel
theorem dX1_smallestAt_142 : decode cX1_smallestAt 142 = .ok (.aload_n 0, 1) := by decide +kernel
theorem dX1_smallestAt_143 : decode cX1_smallestAt 143 = .ok (.getfield 15, 3) := by decide +kernel
theorem dX1_smallestAt_146 : decode cX1_smallestAt 146 = .ok (.iload_n 2, 1) := by decide +kernel
theorem dX1_smallestAt_147 : decode cX1_smallestAt 147 = .ok (.iaload, 1) := by decide +kernel
theorem dX1_smallestAt_148 : decode cX1_smallestAt 148 = .ok (.iadd, 1) := by decide +kernel
theorem dX1_smallestAt_149 : decode cX1_smallestAt 149 = .ok (.istore 11, 2) := by decide +kernel
theorem dX1_smallestAt_151 : decode cX1_smallestAt 151 = .ok (.iload 7, 2) := by decide +kernel
theorem dX1_smallestAt_153 : decode cX1_smallestAt 153 = .ok (.ifCond .eq 60, 3) := by decide +kernel
theorem dX1_smallestAt_156 : decode cX1_smallestAt 156 = .ok (.aload_n 0, 1) := by decide +kernel
theorem dX1_smallestAt_157 : decode cX1_smallestAt 157 = .ok (.getfield 9, 3) := by decide +kernel
theorem dX1_smallestAt_160 : decode cX1_smallestAt 160 = .ok (.iload_n 2, 1) := by decide +kernel
theorem dX1_smallestAt_161 : decode cX1_smallestAt 161 = .ok (.iconst 1, 1) := by decide +kernel
theorem dX1_smallestAt_162 : decode cX1_smallestAt 162 = .ok (.iadd, 1) := by decide +kernel
theorem dX1_smallestAt_163 : decode cX1_smallestAt 163 = .ok (.bipush 40, 2) := by decide +kernel
theorem dX1_smallestAt_165 : decode cX1_smallestAt 165 = .ok (.imul, 1) := by decide +kernel
theorem dX1_smallestAt_166 : decode cX1_smallestAt 166 = .ok (.iload 4, 2) := by decide +kernel
theorem dX1_smallestAt_168 : decode cX1_smallestAt 168 = .ok (.iadd, 1) := by decide +kernel
theorem dX1_smallestAt_169 : decode cX1_smallestAt 169 = .ok (.iconst 1, 1) := by decide +kernel
theorem dX1_smallestAt_170 : decode cX1_smallestAt 170 = .ok (.iadd, 1) := by decide +kernel
theorem dX1_smallestAt_171 : decode cX1_smallestAt 171 = .ok (.iaload, 1) := by decide +kernel
theorem dX1_smallestAt_172 : decode cX1_smallestAt 172 = .ok (.istore 12, 2) := by decide +kernel
theorem dX1_smallestAt_174 : decode cX1_smallestAt 174 = .ok (.iload 9, 2) := by decide +kernel
theorem dX1_smallestAt_176 : decode cX1_smallestAt 176 = .ok (.ifCond .eq 28, 3) := by decide +kernel
theorem dX1_smallestAt_179 : decode cX1_smallestAt 179 = .ok (.iload 12, 2) := by decide +kernel
theorem dX1_smallestAt_181 : decode cX1_smallestAt 181 = .ok (.aload_n 0, 1) := by decide +kernel
theorem dX1_smallestAt_182 : decode cX1_smallestAt 182 = .ok (.getfield 9, 3) := by decide +kernel
theorem dX1_smallestAt_185 : decode cX1_smallestAt 185 = .ok (.iload 8, 2) := by decide +kernel
theorem dX1_smallestAt_187 : decode cX1_smallestAt 187 = .ok (.bipush 40, 2) := by decide +kernel
theorem dX1_smallestAt_189 : decode cX1_smallestAt 189 = .ok (.imul, 1) := by decide +kernel
theorem dX1_smallestAt_190 : decode cX1_smallestAt 190 = .ok (.aload_n 3, 1) := by decide +kernel
theorem dX1_smallestAt_191 : decode cX1_smallestAt 191 = .ok (.getfield 33, 3) := by decide +kernel
theorem dX1_smallestAt_194 : decode cX1_smallestAt 194 = .ok (.iload 4, 2) := by decide +kernel
theorem dX1_smallestAt_196 : decode cX1_smallestAt 196 = .ok (.iconst 1, 1) := by decide +kernel
theorem dX1_smallestAt_197 : decode cX1_smallestAt 197 = .ok (.iadd, 1) := by decide +kernel
theorem dX1_smallestAt_198 : decode cX1_smallestAt 198 = .ok (.iaload, 1) := by decide +kernel
theorem dX1_smallestAt_199 : decode cX1_smallestAt 199 = .ok (.iadd, 1) := by decide +kernel
theorem dX1_smallestAt_200 : decode cX1_smallestAt 200 = .ok (.iaload, 1) := by decide +kernel
theorem dX1_smallestAt_201 : decode cX1_smallestAt 201 = .ok (.iadd, 1) := by decide +kernel
theorem dX1_smallestAt_202 : decode cX1_smallestAt 202 = .ok (.istore 12, 2) := by decide +kernel
theorem dX1_smallestAt_204 : decode cX1_smallestAt 204 = .ok (.iload 11, 2) := by decide +kernel
theorem dX1_smallestAt_206 : decode cX1_smallestAt 206 = .ok (.iload 12, 2) := by decide +kernel
theorem dX1_smallestAt_208 : decode cX1_smallestAt 208 = .ok (.invokestatic 39, 3) := by decide +kernel
theorem dX1_smallestAt_211 : decode cX1_smallestAt 211 = .ok (.istore 11, 2) := by decide +kernel
theorem dX1_smallestAt_213 : decode cX1_smallestAt 213 = .ok (.iload 11, 2) := by decide +kernel
theorem dX1_smallestAt_215 : decode cX1_smallestAt 215 = .ok (.ldc 32, 2) := by decide +kernel
theorem dX1_smallestAt_217 : decode cX1_smallestAt 217 = .ok (.invokestatic 39, 3) := by decide +kernel
theorem dX1_smallestAt_220 : decode cX1_smallestAt 220 = .ok (.ireturn, 1) := by decide +kernel
theorem dX2_init_0 : decode cX2_init 0 = .ok (.aload_n 0, 1) := by decide +kernel
theorem dX2_init_1 : decode cX2_init 1 = .ok (.invokespecial 5, 3) := by decide +kernel
theorem dX2_init_4 : decode cX2_init 4 = .ok (.aload_n 0, 1) := by decide +kernel
theorem dX2_init_5 : decode cX2_init 5 = .ok (.iconst 3, 1) := by decide +kernel
theorem dX2_init_6 : decode cX2_init 6 = .ok (.newarray .int, 2) := by decide +kernel
theorem dX2_init_8 : decode cX2_init 8 = .ok (.putfield 11, 3) := by decide +kernel
theorem dX2_init_11 : decode cX2_init 11 = .ok (.aload_n 0, 1) := by decide +kernel
theorem dX2_init_12 : decode cX2_init 12 = .ok (.bipush 61, 2) := by decide +kernel
theorem dX2_init_14 : decode cX2_init 14 = .ok (.anewarray 15, 3) := by decide +kernel
theorem dX2_init_17 : decode cX2_init 17 = .ok (.putfield 17, 3) := by decide +kernel
theorem dX2_init_20 : decode cX2_init 20 = .ok (.aload_n 0, 1) := by decide +kernel
theorem dX2_init_21 : decode cX2_init 21 = .ok (.bipush 61, 2) := by decide +kernel
theorem dX2_init_23 : decode cX2_init 23 = .ok (.newarray .int, 2) := by decide +kernel
theorem dX2_init_25 : decode cX2_init 25 = .ok (.putfield 21, 3) := by decide +kernel
theorem dX2_init_28 : decode cX2_init 28 = .ok (.aload_n 0, 1) := by decide +kernel
theorem dX2_init_29 : decode cX2_init 29 = .ok (.bipush 61, 2) := by decide +kernel
theorem dX2_init_31 : decode cX2_init 31 = .ok (.newarray .int, 2) := by decide +kernel
theorem dX2_init_33 : decode cX2_init 33 = .ok (.putfield 24, 3) := by decide +kernel
theorem dX2_init_36 : decode cX2_init 36 = .ok (.aload_n 0, 1) := by decide +kernel
theorem dX2_init_37 : decode cX2_init 37 = .ok (.bipush 61, 2) := by decide +kernel
theorem dX2_init_39 : decode cX2_init 39 = .ok (.newarray .int, 2) := by decide +kernel
theorem dX2_init_41 : decode cX2_init 41 = .ok (.putfield 27, 3) := by decide +kernel
theorem dX2_init_44 : decode cX2_init 44 = .ok (.aload_n 0, 1) := by decide +kernel
theorem dX2_init_45 : decode cX2_init 45 = .ok (.sipush 640, 3) := by decide +kernel
theorem dX2_init_48 : decode cX2_init 48 = .ok (.newarray .int, 2) := by decide +kernel
theorem dX2_init_50 : decode cX2_init 50 = .ok (.putfield 30, 3) := by decide +kernel
theorem dX2_init_53 : decode cX2_init 53 = .ok (.aload_n 0, 1) := by decide +kernel
theorem dX2_init_54 : decode cX2_init 54 = .ok (.aload_n 1, 1) := by decide +kernel
theorem dX2_init_55 : decode cX2_init 55 = .ok (.putfield 33, 3) := by decide +kernel
theorem dX2_init_58 : decode cX2_init 58 = .ok (.return_, 1) := by decide +kernel
theorem dX2_refutes_0 : decode cX2_refutes 0 = .ok (.aload_n 1, 1) := by decide +kernel
theorem dX2_refutes_1 : decode cX2_refutes 1 = .ok (.iconst 0, 1) := by decide +kernel
theorem dX2_refutes_2 : decode cX2_refutes 2 = .ok (.invokevirtual 37, 3) := by decide +kernel
theorem dX2_refutes_5 : decode cX2_refutes 5 = .ok (.ifCond .eq 7, 3) := by decide +kernel
theorem dX2_refutes_8 : decode cX2_refutes 8 = .ok (.iconst 2, 1) := by decide +kernel
theorem dX2_refutes_9 : decode cX2_refutes 9 = .ok (.goto 4, 3) := by decide +kernel
theorem dX2_refutes_12 : decode cX2_refutes 12 = .ok (.iconst 0, 1) := by decide +kernel
theorem dX2_refutes_13 : decode cX2_refutes 13 = .ok (.istore_n 2, 1) := by decide +kernel
theorem dX2_refutes_14 : decode cX2_refutes 14 = .ok (.aload_n 1, 1) := by decide +kernel
theorem dX2_refutes_15 : decode cX2_refutes 15 = .ok (.iconst 1, 1) := by decide +kernel
theorem dX2_refutes_16 : decode cX2_refutes 16 = .ok (.invokevirtual 37, 3) := by decide +kernel
theorem dX2_refutes_19 : decode cX2_refutes 19 = .ok (.ifCond .eq 7, 3) := by decide +kernel
theorem dX2_refutes_22 : decode cX2_refutes 22 = .ok (.iconst 2, 1) := by decide +kernel
theorem dX2_refutes_23 : decode cX2_refutes 23 = .ok (.goto 4, 3) := by decide +kernel
theorem dX2_refutes_26 : decode cX2_refutes 26 = .ok (.iconst 0, 1) := by decide +kernel
theorem dX2_refutes_27 : decode cX2_refutes 27 = .ok (.istore_n 3, 1) := by decide +kernel
theorem dX2_refutes_28 : decode cX2_refutes 28 = .ok (.aload_n 1, 1) := by decide +kernel
theorem dX2_refutes_29 : decode cX2_refutes 29 = .ok (.iconst 2, 1) := by decide +kernel
theorem dX2_refutes_30 : decode cX2_refutes 30 = .ok (.invokevirtual 37, 3) := by decide +kernel
theorem dX2_refutes_33 : decode cX2_refutes 33 = .ok (.ifCond .eq 7, 3) := by decide +kernel
theorem dX2_refutes_36 : decode cX2_refutes 36 = .ok (.iconst 2, 1) := by decide +kernel
theorem dX2_refutes_37 : decode cX2_refutes 37 = .ok (.goto 4, 3) := by decide +kernel
theorem dX2_refutes_40 : decode cX2_refutes 40 = .ok (.iconst 0, 1) := by decide +kernel
theorem dX2_refutes_41 : decode cX2_refutes 41 = .ok (.istore 4, 2) := by decide +kernel
theorem dX2_refutes_43 : decode cX2_refutes 43 = .ok (.iconst 0, 1) := by decide +kernel
theorem dX2_refutes_44 : decode cX2_refutes 44 = .ok (.istore 5, 2) := by decide +kernel
theorem dX2_refutes_46 : decode cX2_refutes 46 = .ok (.iload 5, 2) := by decide +kernel
theorem dX2_refutes_48 : decode cX2_refutes 48 = .ok (.iload_n 2, 1) := by decide +kernel
theorem dX2_refutes_49 : decode cX2_refutes 49 = .ok (.if_icmp .gt 80, 3) := by decide +kernel
theorem dX2_refutes_52 : decode cX2_refutes 52 = .ok (.iconst 0, 1) := by decide +kernel
theorem dX2_refutes_53 : decode cX2_refutes 53 = .ok (.istore 6, 2) := by decide +kernel
theorem dX2_refutes_55 : decode cX2_refutes 55 = .ok (.iload 6, 2) := by decide +kernel
theorem dX2_refutes_57 : decode cX2_refutes 57 = .ok (.iload_n 3, 1) := by decide +kernel
theorem dX2_refutes_58 : decode cX2_refutes 58 = .ok (.if_icmp .gt 65, 3) := by decide +kernel
theorem dX2_refutes_61 : decode cX2_refutes 61 = .ok (.iconst 0, 1) := by decide +kernel
theorem dX2_refutes_62 : decode cX2_refutes 62 = .ok (.istore 7, 2) := by decide +kernel
theorem dX2_refutes_64 : decode cX2_refutes 64 = .ok (.iload 7, 2) := by decide +kernel
theorem dX2_refutes_66 : decode cX2_refutes 66 = .ok (.iload 4, 2) := by decide +kernel
theorem dX2_refutes_68 : decode cX2_refutes 68 = .ok (.if_icmp .gt 49, 3) := by decide +kernel
theorem dX2_refutes_71 : decode cX2_refutes 71 = .ok (.aload_n 0, 1) := by decide +kernel
theorem dX2_refutes_72 : decode cX2_refutes 72 = .ok (.aload_n 1, 1) := by decide +kernel
theorem dX2_refutes_73 : decode cX2_refutes 73 = .ok (.iload 5, 2) := by decide +kernel
theorem dX2_refutes_75 : decode cX2_refutes 75 = .ok (.iload 6, 2) := by decide +kernel
theorem dX2_refutes_77 : decode cX2_refutes 77 = .ok (.iload 7, 2) := by decide +kernel
theorem dX2_refutes_79 : decode cX2_refutes 79 = .ok (.invokevirtual 43, 3) := by decide +kernel
theorem dX2_refutes_82 : decode cX2_refutes 82 = .ok (.ifCond .ne 29, 3) := by decide +kernel
theorem dX2_refutes_85 : decode cX2_refutes 85 = .ok (.aload_n 0, 1) := by decide +kernel
theorem dX2_refutes_86 : decode cX2_refutes 86 = .ok (.getfield 11, 3) := by decide +kernel
theorem dX2_refutes_89 : decode cX2_refutes 89 = .ok (.iconst 0, 1) := by decide +kernel
theorem dX2_refutes_90 : decode cX2_refutes 90 = .ok (.iload 5, 2) := by decide +kernel
theorem dX2_refutes_92 : decode cX2_refutes 92 = .ok (.iastore, 1) := by decide +kernel
theorem dX2_refutes_93 : decode cX2_refutes 93 = .ok (.aload_n 0, 1) := by decide +kernel
theorem dX2_refutes_94 : decode cX2_refutes 94 = .ok (.getfield 11, 3) := by decide +kernel
theorem dX2_refutes_97 : decode cX2_refutes 97 = .ok (.iconst 1, 1) := by decide +kernel
theorem dX2_refutes_98 : decode cX2_refutes 98 = .ok (.iload 6, 2) := by decide +kernel
theorem dX2_refutes_100 : decode cX2_refutes 100 = .ok (.iastore, 1) := by decide +kernel
theorem dX2_refutes_101 : decode cX2_refutes 101 = .ok (.aload_n 0, 1) := by decide +kernel
theorem dX2_refutes_102 : decode cX2_refutes 102 = .ok (.getfield 11, 3) := by decide +kernel
theorem dX2_refutes_105 : decode cX2_refutes 105 = .ok (.iconst 2, 1) := by decide +kernel
theorem dX2_refutes_106 : decode cX2_refutes 106 = .ok (.iload 7, 2) := by decide +kernel
theorem dX2_refutes_108 : decode cX2_refutes 108 = .ok (.iastore, 1) := by decide +kernel
theorem dX2_refutes_109 : decode cX2_refutes 109 = .ok (.iconst 1, 1) := by decide +kernel
theorem dX2_refutes_110 : decode cX2_refutes 110 = .ok (.ireturn, 1) := by decide +kernel
theorem dX2_refutes_111 : decode cX2_refutes 111 = .ok (.iinc 7 1, 3) := by decide +kernel
theorem dX2_refutes_114 : decode cX2_refutes 114 = .ok (.goto (-50), 3) := by decide +kernel
theorem dX2_refutes_117 : decode cX2_refutes 117 = .ok (.iinc 6 1, 3) := by decide +kernel
theorem dX2_refutes_120 : decode cX2_refutes 120 = .ok (.goto (-65), 3) := by decide +kernel
theorem dX2_refutes_123 : decode cX2_refutes 123 = .ok (.iinc 5 1, 3) := by decide +kernel
theorem dX2_refutes_126 : decode cX2_refutes 126 = .ok (.goto (-80), 3) := by decide +kernel
theorem dX2_refutes_129 : decode cX2_refutes 129 = .ok (.iconst 0, 1) := by decide +kernel
theorem dX2_refutes_130 : decode cX2_refutes 130 = .ok (.ireturn, 1) := by decide +kernel
theorem dX2_countTriples_0 : decode cX2_countTriples 0 = .ok (.aload_n 1, 1) := by decide +kernel
theorem dX2_countTriples_1 : decode cX2_countTriples 1 = .ok (.iconst 0, 1) := by decide +kernel
theorem dX2_countTriples_2 : decode cX2_countTriples 2 = .ok (.invokevirtual 37, 3) := by decide +kernel
theorem dX2_countTriples_5 : decode cX2_countTriples 5 = .ok (.ifCond .eq 7, 3) := by decide +kernel
theorem dX2_countTriples_8 : decode cX2_countTriples 8 = .ok (.iconst 3, 1) := by decide +kernel
theorem dX2_countTriples_9 : decode cX2_countTriples 9 = .ok (.goto 4, 3) := by decide +kernel
theorem dX2_countTriples_12 : decode cX2_countTriples 12 = .ok (.iconst 0, 1) := by decide +kernel
theorem dX2_countTriples_13 : decode cX2_countTriples 13 = .ok (.istore_n 3, 1) := by decide +kernel
theorem dX2_countTriples_14 : decode cX2_countTriples 14 = .ok (.aload_n 1, 1) := by decide +kernel
theorem dX2_countTriples_15 : decode cX2_countTriples 15 = .ok (.iconst 1, 1) := by decide +kernel
theorem dX2_countTriples_16 : decode cX2_countTriples 16 = .ok (.invokevirtual 37, 3) := by decide +kernel
theorem dX2_countTriples_19 : decode cX2_countTriples 19 = .ok (.ifCond .eq 7, 3) := by decide +kernel
theorem dX2_countTriples_22 : decode cX2_countTriples 22 = .ok (.iconst 3, 1) := by decide +kernel
theorem dX2_countTriples_23 : decode cX2_countTriples 23 = .ok (.goto 4, 3) := by decide +kernel
theorem dX2_countTriples_26 : decode cX2_countTriples 26 = .ok (.iconst 0, 1) := by decide +kernel
theorem dX2_countTriples_27 : decode cX2_countTriples 27 = .ok (.istore 4, 2) := by decide +kernel
theorem dX2_countTriples_29 : decode cX2_countTriples 29 = .ok (.aload_n 1, 1) := by decide +kernel
theorem dX2_countTriples_30 : decode cX2_countTriples 30 = .ok (.iconst 2, 1) := by decide +kernel
theorem dX2_countTriples_31 : decode cX2_countTriples 31 = .ok (.invokevirtual 37, 3) := by decide +kernel
theorem dX2_countTriples_34 : decode cX2_countTriples 34 = .ok (.ifCond .eq 7, 3) := by decide +kernel
theorem dX2_countTriples_37 : decode cX2_countTriples 37 = .ok (.iconst 3, 1) := by decide +kernel
theorem dX2_countTriples_38 : decode cX2_countTriples 38 = .ok (.goto 4, 3) := by decide +kernel
theorem dX2_countTriples_41 : decode cX2_countTriples 41 = .ok (.iconst 0, 1) := by decide +kernel
theorem dX2_countTriples_42 : decode cX2_countTriples 42 = .ok (.istore 5, 2) := by decide +kernel
theorem dX2_countTriples_44 : decode cX2_countTriples 44 = .ok (.iconst 0, 1) := by decide +kernel
theorem dX2_countTriples_45 : decode cX2_countTriples 45 = .ok (.istore 6, 2) := by decide +kernel
theorem dX2_countTriples_47 : decode cX2_countTriples 47 = .ok (.iconst 0, 1) := by decide +kernel
theorem dX2_countTriples_48 : decode cX2_countTriples 48 = .ok (.istore 7, 2) := by decide +kernel
theorem dX2_countTriples_50 : decode cX2_countTriples 50 = .ok (.iload 7, 2) := by decide +kernel
theorem dX2_countTriples_52 : decode cX2_countTriples 52 = .ok (.iload_n 3, 1) := by decide +kernel
theorem dX2_countTriples_53 : decode cX2_countTriples 53 = .ok (.if_icmp .gt 66, 3) := by decide +kernel
theorem dX2_countTriples_56 : decode cX2_countTriples 56 = .ok (.iconst 0, 1) := by decide +kernel
theorem dX2_countTriples_57 : decode cX2_countTriples 57 = .ok (.istore 8, 2) := by decide +kernel
theorem dX2_countTriples_59 : decode cX2_countTriples 59 = .ok (.iload 8, 2) := by decide +kernel
theorem dX2_countTriples_61 : decode cX2_countTriples 61 = .ok (.iload 4, 2) := by decide +kernel
theorem dX2_countTriples_63 : decode cX2_countTriples 63 = .ok (.if_icmp .gt 50, 3) := by decide +kernel
theorem dX2_countTriples_66 : decode cX2_countTriples 66 = .ok (.iconst 0, 1) := by decide +kernel
theorem dX2_countTriples_67 : decode cX2_countTriples 67 = .ok (.istore 9, 2) := by decide +kernel
theorem dX2_countTriples_69 : decode cX2_countTriples 69 = .ok (.iload 9, 2) := by decide +kernel
theorem dX2_countTriples_71 : decode cX2_countTriples 71 = .ok (.iload 5, 2) := by decide +kernel
theorem dX2_countTriples_73 : decode cX2_countTriples 73 = .ok (.if_icmp .gt 34, 3) := by decide +kernel
theorem dX2_countTriples_76 : decode cX2_countTriples 76 = .ok (.iload 6, 2) := by decide +kernel
theorem dX2_countTriples_78 : decode cX2_countTriples 78 = .ok (.aload_n 0, 1) := by decide +kernel
theorem dX2_countTriples_79 : decode cX2_countTriples 79 = .ok (.aload_n 1, 1) := by decide +kernel
theorem dX2_countTriples_80 : decode cX2_countTriples 80 = .ok (.iload 7, 2) := by decide +kernel
theorem dX2_countTriples_82 : decode cX2_countTriples 82 = .ok (.iload 8, 2) := by decide +kernel
theorem dX2_countTriples_84 : decode cX2_countTriples 84 = .ok (.iload 9, 2) := by decide +kernel
theorem dX2_countTriples_86 : decode cX2_countTriples 86 = .ok (.invokevirtual 43, 3) := by decide +kernel
theorem dX2_countTriples_89 : decode cX2_countTriples 89 = .ok (.iload_n 2, 1) := by decide +kernel
theorem dX2_countTriples_90 : decode cX2_countTriples 90 = .ok (.if_icmp .ne 7, 3) := by decide +kernel
theorem dX2_countTriples_93 : decode cX2_countTriples 93 = .ok (.iconst 1, 1) := by decide +kernel
theorem dX2_countTriples_94 : decode cX2_countTriples 94 = .ok (.goto 4, 3) := by decide +kernel
theorem dX2_countTriples_97 : decode cX2_countTriples 97 = .ok (.iconst 0, 1) := by decide +kernel
theorem dX2_countTriples_98 : decode cX2_countTriples 98 = .ok (.iadd, 1) := by decide +kernel
theorem dX2_countTriples_99 : decode cX2_countTriples 99 = .ok (.istore 6, 2) := by decide +kernel
theorem dX2_countTriples_101 : decode cX2_countTriples 101 = .ok (.iinc 9 1, 3) := by decide +kernel
theorem dX2_countTriples_104 : decode cX2_countTriples 104 = .ok (.goto (-35), 3) := by decide +kernel
theorem dX2_countTriples_107 : decode cX2_countTriples 107 = .ok (.iinc 8 1, 3) := by decide +kernel
theorem dX2_countTriples_110 : decode cX2_countTriples 110 = .ok (.goto (-51), 3) := by decide +kernel
theorem dX2_countTriples_113 : decode cX2_countTriples 113 = .ok (.iinc 7 1, 3) := by decide +kernel
theorem dX2_countTriples_116 : decode cX2_countTriples 116 = .ok (.goto (-66), 3) := by decide +kernel
theorem dX2_countTriples_119 : decode cX2_countTriples 119 = .ok (.iconst 4, 1) := by decide +kernel
theorem dX2_countTriples_120 : decode cX2_countTriples 120 = .ok (.istore 7, 2) := by decide +kernel
theorem dX2_countTriples_122 : decode cX2_countTriples 122 = .ok (.iload 6, 2) := by decide +kernel
theorem dX2_countTriples_124 : decode cX2_countTriples 124 = .ok (.iload_n 3, 1) := by decide +kernel
theorem dX2_countTriples_125 : decode cX2_countTriples 125 = .ok (.ifCond .ne 8, 3) := by decide +kernel
theorem dX2_countTriples_128 : decode cX2_countTriples 128 = .ok (.iload 7, 2) := by decide +kernel
theorem dX2_countTriples_130 : decode cX2_countTriples 130 = .ok (.goto 4, 3) := by decide +kernel
theorem dX2_countTriples_133 : decode cX2_countTriples 133 = .ok (.iconst 1, 1) := by decide +kernel
theorem dX2_countTriples_134 : decode cX2_countTriples 134 = .ok (.imul, 1) := by decide +kernel
theorem dX2_countTriples_135 : decode cX2_countTriples 135 = .ok (.iload 4, 2) := by decide +kernel
theorem dX2_countTriples_137 : decode cX2_countTriples 137 = .ok (.ifCond .ne 8, 3) := by decide +kernel
theorem dX2_countTriples_140 : decode cX2_countTriples 140 = .ok (.iload 7, 2) := by decide +kernel
theorem dX2_countTriples_142 : decode cX2_countTriples 142 = .ok (.goto 4, 3) := by decide +kernel
theorem dX2_countTriples_145 : decode cX2_countTriples 145 = .ok (.iconst 1, 1) := by decide +kernel
theorem dX2_countTriples_146 : decode cX2_countTriples 146 = .ok (.imul, 1) := by decide +kernel
theorem dX2_countTriples_147 : decode cX2_countTriples 147 = .ok (.iload 5, 2) := by decide +kernel
theorem dX2_countTriples_149 : decode cX2_countTriples 149 = .ok (.ifCond .ne 8, 3) := by decide +kernel
theorem dX2_countTriples_152 : decode cX2_countTriples 152 = .ok (.iload 7, 2) := by decide +kernel
theorem dX2_countTriples_154 : decode cX2_countTriples 154 = .ok (.goto 4, 3) := by decide +kernel
theorem dX2_countTriples_157 : decode cX2_countTriples 157 = .ok (.iconst 1, 1) := by decide +kernel
theorem dX2_countTriples_158 : decode cX2_countTriples 158 = .ok (.imul, 1) := by decide +kernel
theorem dX2_countTriples_159 : decode cX2_countTriples 159 = .ok (.ireturn, 1) := by decide +kernel
theorem dX2_compare_0 : decode cX2_compare 0 = .ok (.aload_n 0, 1) := by decide +kernel
theorem dX2_compare_1 : decode cX2_compare 1 = .ok (.aload_n 1, 1) := by decide +kernel
theorem dX2_compare_2 : decode cX2_compare 2 = .ok (.getfield 47, 3) := by decide +kernel
theorem dX2_compare_5 : decode cX2_compare 5 = .ok (.iload_n 2, 1) := by decide +kernel
theorem dX2_compare_6 : decode cX2_compare 6 = .ok (.iload_n 3, 1) := by decide +kernel
theorem dX2_compare_7 : decode cX2_compare 7 = .ok (.iload 4, 2) := by decide +kernel
theorem dX2_compare_9 : decode cX2_compare 9 = .ok (.invokevirtual 51, 3) := by decide +kernel
theorem dX2_compare_12 : decode cX2_compare 12 = .ok (.istore 5, 2) := by decide +kernel
theorem dX2_compare_14 : decode cX2_compare 14 = .ok (.iload 5, 2) := by decide +kernel
theorem dX2_compare_16 : decode cX2_compare 16 = .ok (.bipush (-9), 2) := by decide +kernel
theorem dX2_compare_18 : decode cX2_compare 18 = .ok (.if_icmp .ne 6, 3) := by decide +kernel
theorem dX2_compare_21 : decode cX2_compare 21 = .ok (.bipush (-9), 2) := by decide +kernel
theorem dX2_compare_23 : decode cX2_compare 23 = .ok (.ireturn, 1) := by decide +kernel
theorem dX2_compare_24 : decode cX2_compare 24 = .ok (.aload_n 0, 1) := by decide +kernel
theorem dX2_compare_25 : decode cX2_compare 25 = .ok (.aload_n 1, 1) := by decide +kernel
theorem dX2_compare_26 : decode cX2_compare 26 = .ok (.getfield 55, 3) := by decide +kernel
theorem dX2_compare_29 : decode cX2_compare 29 = .ok (.iload_n 2, 1) := by decide +kernel
theorem dX2_compare_30 : decode cX2_compare 30 = .ok (.iload_n 3, 1) := by decide +kernel
theorem dX2_compare_31 : decode cX2_compare 31 = .ok (.iload 4, 2) := by decide +kernel
theorem dX2_compare_33 : decode cX2_compare 33 = .ok (.invokevirtual 51, 3) := by decide +kernel
theorem dX2_compare_36 : decode cX2_compare 36 = .ok (.istore 6, 2) := by decide +kernel
theorem dX2_compare_38 : decode cX2_compare 38 = .ok (.iload 6, 2) := by decide +kernel
theorem dX2_compare_40 : decode cX2_compare 40 = .ok (.bipush (-9), 2) := by decide +kernel
theorem dX2_compare_42 : decode cX2_compare 42 = .ok (.if_icmp .ne 6, 3) := by decide +kernel
theorem dX2_compare_45 : decode cX2_compare 45 = .ok (.bipush (-9), 2) := by decide +kernel
theorem dX2_compare_47 : decode cX2_compare 47 = .ok (.ireturn, 1) := by decide +kernel
theorem dX2_compare_48 : decode cX2_compare 48 = .ok (.iload 5, 2) := by decide +kernel
theorem dX2_compare_50 : decode cX2_compare 50 = .ok (.iload 6, 2) := by decide +kernel
theorem dX2_compare_52 : decode cX2_compare 52 = .ok (.if_icmp .ne 7, 3) := by decide +kernel
theorem dX2_compare_55 : decode cX2_compare 55 = .ok (.iconst 1, 1) := by decide +kernel
theorem dX2_compare_56 : decode cX2_compare 56 = .ok (.goto 4, 3) := by decide +kernel
theorem dX2_compare_59 : decode cX2_compare 59 = .ok (.iconst 0, 1) := by decide +kernel
theorem dX2_compare_60 : decode cX2_compare 60 = .ok (.ireturn, 1) := by decide +kernel
theorem dX2_valueOf_0 : decode cX2_valueOf 0 = .ok (.aload_n 0, 1) := by decide +kernel
theorem dX2_valueOf_1 : decode cX2_valueOf 1 = .ok (.iconst 0, 1) := by decide +kernel
theorem dX2_valueOf_2 : decode cX2_valueOf 2 = .ok (.putfield 58, 3) := by decide +kernel
theorem dX2_valueOf_5 : decode cX2_valueOf 5 = .ok (.aload_n 0, 1) := by decide +kernel
theorem dX2_valueOf_6 : decode cX2_valueOf 6 = .ok (.iconst 0, 1) := by decide +kernel
theorem dX2_valueOf_7 : decode cX2_valueOf 7 = .ok (.putfield 62, 3) := by decide +kernel
theorem dX2_valueOf_10 : decode cX2_valueOf 10 = .ok (.aload_n 0, 1) := by decide +kernel
theorem dX2_valueOf_11 : decode cX2_valueOf 11 = .ok (.iconst 0, 1) := by decide +kernel
theorem dX2_valueOf_12 : decode cX2_valueOf 12 = .ok (.putfield 65, 3) := by decide +kernel
theorem dX2_valueOf_15 : decode cX2_valueOf 15 = .ok (.aload_n 0, 1) := by decide +kernel
theorem dX2_valueOf_16 : decode cX2_valueOf 16 = .ok (.getfield 17, 3) := by decide +kernel
theorem dX2_valueOf_19 : decode cX2_valueOf 19 = .ok (.iconst 0, 1) := by decide +kernel
theorem dX2_valueOf_20 : decode cX2_valueOf 20 = .ok (.aload_n 1, 1) := by decide +kernel
theorem dX2_valueOf_21 : decode cX2_valueOf 21 = .ok (.aastore, 1) := by decide +kernel
theorem dX2_valueOf_22 : decode cX2_valueOf 22 = .ok (.aload_n 0, 1) := by decide +kernel
theorem dX2_valueOf_23 : decode cX2_valueOf 23 = .ok (.getfield 21, 3) := by decide +kernel
theorem dX2_valueOf_26 : decode cX2_valueOf 26 = .ok (.iconst 0, 1) := by decide +kernel
theorem dX2_valueOf_27 : decode cX2_valueOf 27 = .ok (.aload_n 1, 1) := by decide +kernel
theorem dX2_valueOf_28 : decode cX2_valueOf 28 = .ok (.getfield 68, 3) := by decide +kernel
theorem dX2_valueOf_31 : decode cX2_valueOf 31 = .ok (.iastore, 1) := by decide +kernel
theorem dX2_valueOf_32 : decode cX2_valueOf 32 = .ok (.aload_n 0, 1) := by decide +kernel
theorem dX2_valueOf_33 : decode cX2_valueOf 33 = .ok (.getfield 24, 3) := by decide +kernel
theorem dX2_valueOf_36 : decode cX2_valueOf 36 = .ok (.iconst 0, 1) := by decide +kernel
theorem dX2_valueOf_37 : decode cX2_valueOf 37 = .ok (.iload_n 2, 1) := by decide +kernel
theorem dX2_valueOf_38 : decode cX2_valueOf 38 = .ok (.iastore, 1) := by decide +kernel
theorem dX2_valueOf_39 : decode cX2_valueOf 39 = .ok (.aload_n 0, 1) := by decide +kernel
theorem dX2_valueOf_40 : decode cX2_valueOf 40 = .ok (.getfield 27, 3) := by decide +kernel
theorem dX2_valueOf_43 : decode cX2_valueOf 43 = .ok (.iconst 0, 1) := by decide +kernel
theorem dX2_valueOf_44 : decode cX2_valueOf 44 = .ok (.iload_n 3, 1) := by decide +kernel
theorem dX2_valueOf_45 : decode cX2_valueOf 45 = .ok (.iastore, 1) := by decide +kernel
theorem dX2_valueOf_46 : decode cX2_valueOf 46 = .ok (.iconst 0, 1) := by decide +kernel
theorem dX2_valueOf_47 : decode cX2_valueOf 47 = .ok (.istore 5, 2) := by decide +kernel
theorem dX2_valueOf_49 : decode cX2_valueOf 49 = .ok (.iload 5, 2) := by decide +kernel
theorem dX2_valueOf_51 : decode cX2_valueOf 51 = .ok (.sipush 702, 3) := by decide +kernel
theorem dX2_valueOf_54 : decode cX2_valueOf 54 = .ok (.if_icmp .ge 148, 3) := by decide +kernel
theorem dX2_valueOf_57 : decode cX2_valueOf 57 = .ok (.aload_n 0, 1) := by decide +kernel
theorem dX2_valueOf_58 : decode cX2_valueOf 58 = .ok (.getfield 21, 3) := by decide +kernel
theorem dX2_valueOf_61 : decode cX2_valueOf 61 = .ok (.aload_n 0, 1) := by decide +kernel
theorem dX2_valueOf_62 : decode cX2_valueOf 62 = .ok (.getfield 65, 3) := by decide +kernel
theorem dX2_valueOf_65 : decode cX2_valueOf 65 = .ok (.iaload, 1) := by decide +kernel
theorem dX2_valueOf_66 : decode cX2_valueOf 66 = .ok (.ifCond .gt 30, 3) := by decide +kernel
theorem dX2_valueOf_69 : decode cX2_valueOf 69 = .ok (.aload_n 0, 1) := by decide +kernel
theorem dX2_valueOf_70 : decode cX2_valueOf 70 = .ok (.getfield 65, 3) := by decide +kernel
theorem dX2_valueOf_73 : decode cX2_valueOf 73 = .ok (.ifCond .ne 23, 3) := by decide +kernel
theorem dX2_valueOf_76 : decode cX2_valueOf 76 = .ok (.aload_n 0, 1) := by decide +kernel
theorem dX2_valueOf_77 : decode cX2_valueOf 77 = .ok (.getfield 62, 3) := by decide +kernel
theorem dX2_valueOf_80 : decode cX2_valueOf 80 = .ok (.iconst 1, 1) := by decide +kernel
theorem dX2_valueOf_81 : decode cX2_valueOf 81 = .ok (.if_icmp .ne 12, 3) := by decide +kernel
theorem dX2_valueOf_84 : decode cX2_valueOf 84 = .ok (.aload_n 0, 1) := by decide +kernel
theorem dX2_valueOf_85 : decode cX2_valueOf 85 = .ok (.getfield 30, 3) := by decide +kernel
theorem dX2_valueOf_88 : decode cX2_valueOf 88 = .ok (.iconst 0, 1) := by decide +kernel
theorem dX2_valueOf_89 : decode cX2_valueOf 89 = .ok (.iaload, 1) := by decide +kernel
theorem dX2_valueOf_90 : decode cX2_valueOf 90 = .ok (.goto 5, 3) := by decide +kernel
theorem dX2_valueOf_93 : decode cX2_valueOf 93 = .ok (.bipush (-9), 2) := by decide +kernel
theorem dX2_valueOf_95 : decode cX2_valueOf 95 = .ok (.ireturn, 1) := by decide +kernel
theorem dX2_valueOf_96 : decode cX2_valueOf 96 = .ok (.aload_n 0, 1) := by decide +kernel
theorem dX2_valueOf_97 : decode cX2_valueOf 97 = .ok (.getfield 21, 3) := by decide +kernel
theorem dX2_valueOf_100 : decode cX2_valueOf 100 = .ok (.aload_n 0, 1) := by decide +kernel
theorem dX2_valueOf_101 : decode cX2_valueOf 101 = .ok (.getfield 65, 3) := by decide +kernel
theorem dX2_valueOf_104 : decode cX2_valueOf 104 = .ok (.iaload, 1) := by decide +kernel
theorem dX2_valueOf_105 : decode cX2_valueOf 105 = .ok (.ifCond .gt 16, 3) := by decide +kernel
theorem dX2_valueOf_108 : decode cX2_valueOf 108 = .ok (.aload_n 0, 1) := by decide +kernel
theorem dX2_valueOf_109 : decode cX2_valueOf 109 = .ok (.dup, 1) := by decide +kernel
theorem dX2_valueOf_110 : decode cX2_valueOf 110 = .ok (.getfield 65, 3) := by decide +kernel
theorem dX2_valueOf_113 : decode cX2_valueOf 113 = .ok (.iconst 1, 1) := by decide +kernel
theorem dX2_valueOf_114 : decode cX2_valueOf 114 = .ok (.isub, 1) := by decide +kernel
theorem dX2_valueOf_115 : decode cX2_valueOf 115 = .ok (.putfield 65, 3) := by decide +kernel
theorem dX2_valueOf_118 : decode cX2_valueOf 118 = .ok (.goto 78, 3) := by decide +kernel
theorem dX2_valueOf_121 : decode cX2_valueOf 121 = .ok (.aload_n 0, 1) := by decide +kernel
theorem dX2_valueOf_122 : decode cX2_valueOf 122 = .ok (.getfield 21, 3) := by decide +kernel
theorem dX2_valueOf_125 : decode cX2_valueOf 125 = .ok (.aload_n 0, 1) := by decide +kernel
theorem dX2_valueOf_126 : decode cX2_valueOf 126 = .ok (.getfield 65, 3) := by decide +kernel
theorem dX2_valueOf_129 : decode cX2_valueOf 129 = .ok (.dup2, 1) := by decide +kernel
theorem dX2_valueOf_130 : decode cX2_valueOf 130 = .ok (.iaload, 1) := by decide +kernel
theorem dX2_valueOf_131 : decode cX2_valueOf 131 = .ok (.iconst 1, 1) := by decide +kernel
theorem dX2_valueOf_132 : decode cX2_valueOf 132 = .ok (.isub, 1) := by decide +kernel
theorem dX2_valueOf_133 : decode cX2_valueOf 133 = .ok (.iastore, 1) := by decide +kernel
theorem dX2_valueOf_134 : decode cX2_valueOf 134 = .ok (.aload_n 0, 1) := by decide +kernel
theorem dX2_valueOf_135 : decode cX2_valueOf 135 = .ok (.getfield 17, 3) := by decide +kernel
theorem dX2_valueOf_138 : decode cX2_valueOf 138 = .ok (.aload_n 0, 1) := by decide +kernel
theorem dX2_valueOf_139 : decode cX2_valueOf 139 = .ok (.getfield 65, 3) := by decide +kernel
theorem dX2_valueOf_142 : decode cX2_valueOf 142 = .ok (.aaload, 1) := by decide +kernel
theorem dX2_valueOf_143 : decode cX2_valueOf 143 = .ok (.getfield 71, 3) := by decide +kernel
theorem dX2_valueOf_146 : decode cX2_valueOf 146 = .ok (.aload_n 0, 1) := by decide +kernel
theorem dX2_valueOf_147 : decode cX2_valueOf 147 = .ok (.getfield 21, 3) := by decide +kernel
theorem dX2_valueOf_150 : decode cX2_valueOf 150 = .ok (.aload_n 0, 1) := by decide +kernel
theorem dX2_valueOf_151 : decode cX2_valueOf 151 = .ok (.getfield 65, 3) := by decide +kernel
theorem dX2_valueOf_154 : decode cX2_valueOf 154 = .ok (.iaload, 1) := by decide +kernel
theorem dX2_valueOf_155 : decode cX2_valueOf 155 = .ok (.iaload, 1) := by decide +kernel
theorem dX2_valueOf_156 : decode cX2_valueOf 156 = .ok (.istore 6, 2) := by decide +kernel
theorem dX2_valueOf_158 : decode cX2_valueOf 158 = .ok (.iload 6, 2) := by decide +kernel
theorem dX2_valueOf_160 : decode cX2_valueOf 160 = .ok (.invokestatic 74, 3) := by decide +kernel
theorem dX2_valueOf_163 : decode cX2_valueOf 163 = .ok (.ifCond .eq 15, 3) := by decide +kernel
theorem dX2_valueOf_166 : decode cX2_valueOf 166 = .ok (.aload_n 0, 1) := by decide +kernel
theorem dX2_valueOf_167 : decode cX2_valueOf 167 = .ok (.iload 6, 2) := by decide +kernel
theorem dX2_valueOf_169 : decode cX2_valueOf 169 = .ok (.bipush 97, 2) := by decide +kernel
theorem dX2_valueOf_171 : decode cX2_valueOf 171 = .ok (.isub, 1) := by decide +kernel
theorem dX2_valueOf_172 : decode cX2_valueOf 172 = .ok (.invokevirtual 77, 3) := by decide +kernel
theorem dX2_valueOf_175 : decode cX2_valueOf 175 = .ok (.goto 11, 3) := by decide +kernel
theorem dX2_valueOf_178 : decode cX2_valueOf 178 = .ok (.aload_n 0, 1) := by decide +kernel
theorem dX2_valueOf_179 : decode cX2_valueOf 179 = .ok (.iload 6, 2) := by decide +kernel
theorem dX2_valueOf_181 : decode cX2_valueOf 181 = .ok (.iload 4, 2) := by decide +kernel
theorem dX2_valueOf_183 : decode cX2_valueOf 183 = .ok (.invokevirtual 80, 3) := by decide +kernel
theorem dX2_valueOf_186 : decode cX2_valueOf 186 = .ok (.istore 7, 2) := by decide +kernel
theorem dX2_valueOf_188 : decode cX2_valueOf 188 = .ok (.iload 7, 2) := by decide +kernel
theorem dX2_valueOf_190 : decode cX2_valueOf 190 = .ok (.ifCond .ne 6, 3) := by decide +kernel
theorem dX2_valueOf_193 : decode cX2_valueOf 193 = .ok (.bipush (-9), 2) := by decide +kernel
theorem dX2_valueOf_195 : decode cX2_valueOf 195 = .ok (.ireturn, 1) := by decide +kernel
theorem dX2_valueOf_196 : decode cX2_valueOf 196 = .ok (.iinc 5 1, 3) := by decide +kernel
theorem dX2_valueOf_199 : decode cX2_valueOf 199 = .ok (.goto (-150), 3) := by decide +kernel
theorem dX2_valueOf_202 : decode cX2_valueOf 202 = .ok (.bipush (-9), 2) := by decide +kernel
theorem dX2_valueOf_204 : decode cX2_valueOf 204 = .ok (.ireturn, 1) := by decide +kernel
theorem dX2_take_0 : decode cX2_take 0 = .ok (.iload_n 1, 1) := by decide +kernel
theorem dX2_take_1 : decode cX2_take 1 = .ok (.bipush 83, 2) := by decide +kernel
theorem dX2_take_3 : decode cX2_take 3 = .ok (.if_icmp .ne 46, 3) := by decide +kernel
theorem dX2_take_6 : decode cX2_take 6 = .ok (.aload_n 0, 1) := by decide +kernel
theorem dX2_take_7 : decode cX2_take 7 = .ok (.getfield 62, 3) := by decide +kernel
theorem dX2_take_10 : decode cX2_take 10 = .ok (.iconst 1, 1) := by decide +kernel
theorem dX2_take_11 : decode cX2_take 11 = .ok (.if_icmp .lt 19, 3) := by decide +kernel
theorem dX2_take_14 : decode cX2_take 14 = .ok (.aload_n 0, 1) := by decide +kernel
theorem dX2_take_15 : decode cX2_take 15 = .ok (.getfield 30, 3) := by decide +kernel
theorem dX2_take_18 : decode cX2_take 18 = .ok (.aload_n 0, 1) := by decide +kernel
theorem dX2_take_19 : decode cX2_take 19 = .ok (.getfield 62, 3) := by decide +kernel
theorem dX2_take_22 : decode cX2_take 22 = .ok (.iconst 1, 1) := by decide +kernel
theorem dX2_take_23 : decode cX2_take 23 = .ok (.isub, 1) := by decide +kernel
theorem dX2_take_24 : decode cX2_take 24 = .ok (.iaload, 1) := by decide +kernel
theorem dX2_take_25 : decode cX2_take 25 = .ok (.bipush 99, 2) := by decide +kernel
theorem dX2_take_27 : decode cX2_take 27 = .ok (.if_icmp .lt 5, 3) := by decide +kernel
theorem dX2_take_30 : decode cX2_take 30 = .ok (.iconst 0, 1) := by decide +kernel
theorem dX2_take_31 : decode cX2_take 31 = .ok (.ireturn, 1) := by decide +kernel
theorem dX2_take_32 : decode cX2_take 32 = .ok (.aload_n 0, 1) := by decide +kernel
theorem dX2_take_33 : decode cX2_take 33 = .ok (.getfield 30, 3) := by decide +kernel
theorem dX2_take_36 : decode cX2_take 36 = .ok (.aload_n 0, 1) := by decide +kernel
theorem dX2_take_37 : decode cX2_take 37 = .ok (.getfield 62, 3) := by decide +kernel
theorem dX2_take_40 : decode cX2_take 40 = .ok (.iconst 1, 1) := by decide +kernel
theorem dX2_take_41 : decode cX2_take 41 = .ok (.isub, 1) := by decide +kernel
theorem dX2_take_42 : decode cX2_take 42 = .ok (.dup2, 1) := by decide +kernel
theorem dX2_take_43 : decode cX2_take 43 = .ok (.iaload, 1) := by decide +kernel
theorem dX2_take_44 : decode cX2_take 44 = .ok (.iconst 1, 1) := by decide +kernel
theorem dX2_take_45 : decode cX2_take 45 = .ok (.iadd, 1) := by decide +kernel
theorem dX2_take_46 : decode cX2_take 46 = .ok (.iastore, 1) := by decide +kernel
theorem dX2_take_47 : decode cX2_take 47 = .ok (.iconst 1, 1) := by decide +kernel
theorem dX2_take_48 : decode cX2_take 48 = .ok (.ireturn, 1) := by decide +kernel
theorem dX2_take_49 : decode cX2_take 49 = .ok (.aload_n 0, 1) := by decide +kernel
theorem dX2_take_50 : decode cX2_take 50 = .ok (.getfield 62, 3) := by decide +kernel
theorem dX2_take_53 : decode cX2_take 53 = .ok (.ifCond .lt 13, 3) := by decide +kernel
theorem dX2_take_56 : decode cX2_take 56 = .ok (.aload_n 0, 1) := by decide +kernel
theorem dX2_take_57 : decode cX2_take 57 = .ok (.getfield 62, 3) := by decide +kernel
theorem dX2_take_60 : decode cX2_take 60 = .ok (.sipush 640, 3) := by decide +kernel
theorem dX2_take_63 : decode cX2_take 63 = .ok (.if_icmp .lt 5, 3) := by decide +kernel
theorem dX2_take_66 : decode cX2_take 66 = .ok (.iconst 0, 1) := by decide +kernel
theorem dX2_take_67 : decode cX2_take 67 = .ok (.ireturn, 1) := by decide +kernel
theorem dX2_take_68 : decode cX2_take 68 = .ok (.iload_n 1, 1) := by decide +kernel
theorem dX2_take_69 : decode cX2_take 69 = .ok (.tableswitch 82 120 122 #[27, 48, 69], 27) := by decide +kernel
theorem dX2_take_96 : decode cX2_take 96 = .ok (.aload_n 0, 1) := by decide +kernel
theorem dX2_take_97 : decode cX2_take 97 = .ok (.getfield 30, 3) := by decide +kernel
theorem dX2_take_100 : decode cX2_take 100 = .ok (.aload_n 0, 1) := by decide +kernel
theorem dX2_take_101 : decode cX2_take 101 = .ok (.getfield 62, 3) := by decide +kernel
theorem dX2_take_104 : decode cX2_take 104 = .ok (.aload_n 0, 1) := by decide +kernel
theorem dX2_take_105 : decode cX2_take 105 = .ok (.getfield 24, 3) := by decide +kernel
theorem dX2_take_108 : decode cX2_take 108 = .ok (.aload_n 0, 1) := by decide +kernel
theorem dX2_take_109 : decode cX2_take 109 = .ok (.getfield 65, 3) := by decide +kernel
theorem dX2_take_112 : decode cX2_take 112 = .ok (.iaload, 1) := by decide +kernel
theorem dX2_take_113 : decode cX2_take 113 = .ok (.iastore, 1) := by decide +kernel
theorem dX2_take_114 : decode cX2_take 114 = .ok (.goto 47, 3) := by decide +kernel
theorem dX2_take_117 : decode cX2_take 117 = .ok (.aload_n 0, 1) := by decide +kernel
theorem dX2_take_118 : decode cX2_take 118 = .ok (.getfield 30, 3) := by decide +kernel
theorem dX2_take_121 : decode cX2_take 121 = .ok (.aload_n 0, 1) := by decide +kernel
theorem dX2_take_122 : decode cX2_take 122 = .ok (.getfield 62, 3) := by decide +kernel
theorem dX2_take_125 : decode cX2_take 125 = .ok (.aload_n 0, 1) := by decide +kernel
theorem dX2_take_126 : decode cX2_take 126 = .ok (.getfield 27, 3) := by decide +kernel
theorem dX2_take_129 : decode cX2_take 129 = .ok (.aload_n 0, 1) := by decide +kernel
theorem dX2_take_130 : decode cX2_take 130 = .ok (.getfield 65, 3) := by decide +kernel
theorem dX2_take_133 : decode cX2_take 133 = .ok (.iaload, 1) := by decide +kernel
theorem dX2_take_134 : decode cX2_take 134 = .ok (.iastore, 1) := by decide +kernel
theorem dX2_take_135 : decode cX2_take 135 = .ok (.goto 26, 3) := by decide +kernel
theorem dX2_take_138 : decode cX2_take 138 = .ok (.aload_n 0, 1) := by decide +kernel
theorem dX2_take_139 : decode cX2_take 139 = .ok (.getfield 30, 3) := by decide +kernel
theorem dX2_take_142 : decode cX2_take 142 = .ok (.aload_n 0, 1) := by decide +kernel
theorem dX2_take_143 : decode cX2_take 143 = .ok (.getfield 62, 3) := by decide +kernel
theorem dX2_take_146 : decode cX2_take 146 = .ok (.iload_n 2, 1) := by decide +kernel
theorem dX2_take_147 : decode cX2_take 147 = .ok (.iastore, 1) := by decide +kernel
theorem dX2_take_148 : decode cX2_take 148 = .ok (.goto 13, 3) := by decide +kernel
theorem dX2_take_151 : decode cX2_take 151 = .ok (.aload_n 0, 1) := by decide +kernel
theorem dX2_take_152 : decode cX2_take 152 = .ok (.getfield 30, 3) := by decide +kernel
theorem dX2_take_155 : decode cX2_take 155 = .ok (.aload_n 0, 1) := by decide +kernel
theorem dX2_take_156 : decode cX2_take 156 = .ok (.getfield 62, 3) := by decide +kernel
theorem dX2_take_159 : decode cX2_take 159 = .ok (.iconst 0, 1) := by decide +kernel
theorem dX2_take_160 : decode cX2_take 160 = .ok (.iastore, 1) := by decide +kernel
theorem dX2_take_161 : decode cX2_take 161 = .ok (.aload_n 0, 1) := by decide +kernel
theorem dX2_take_162 : decode cX2_take 162 = .ok (.dup, 1) := by decide +kernel
theorem dX2_take_163 : decode cX2_take 163 = .ok (.getfield 62, 3) := by decide +kernel
theorem dX2_take_166 : decode cX2_take 166 = .ok (.iconst 1, 1) := by decide +kernel
theorem dX2_take_167 : decode cX2_take 167 = .ok (.iadd, 1) := by decide +kernel
theorem dX2_take_168 : decode cX2_take 168 = .ok (.putfield 62, 3) := by decide +kernel
theorem dX2_take_171 : decode cX2_take 171 = .ok (.iconst 1, 1) := by decide +kernel
theorem dX2_take_172 : decode cX2_take 172 = .ok (.ireturn, 1) := by decide +kernel
theorem dX2_call_0 : decode cX2_call 0 = .ok (.iload_n 1, 1) := by decide +kernel
theorem dX2_call_1 : decode cX2_call 1 = .ok (.ifCond .lt 34, 3) := by decide +kernel
theorem dX2_call_4 : decode cX2_call 4 = .ok (.iload_n 1, 1) := by decide +kernel
theorem dX2_call_5 : decode cX2_call 5 = .ok (.aload_n 0, 1) := by decide +kernel
theorem dX2_call_6 : decode cX2_call 6 = .ok (.getfield 33, 3) := by decide +kernel
theorem dX2_call_9 : decode cX2_call 9 = .ok (.getfield 84, 3) := by decide +kernel
theorem dX2_call_12 : decode cX2_call 12 = .ok (.if_icmp .ge 23, 3) := by decide +kernel
theorem dX2_call_15 : decode cX2_call 15 = .ok (.aload_n 0, 1) := by decide +kernel
theorem dX2_call_16 : decode cX2_call 16 = .ok (.getfield 58, 3) := by decide +kernel
theorem dX2_call_19 : decode cX2_call 19 = .ok (.bipush 60, 2) := by decide +kernel
theorem dX2_call_21 : decode cX2_call 21 = .ok (.if_icmp .ge 14, 3) := by decide +kernel
theorem dX2_call_24 : decode cX2_call 24 = .ok (.aload_n 0, 1) := by decide +kernel
theorem dX2_call_25 : decode cX2_call 25 = .ok (.getfield 65, 3) := by decide +kernel
theorem dX2_call_28 : decode cX2_call 28 = .ok (.iconst 1, 1) := by decide +kernel
theorem dX2_call_29 : decode cX2_call 29 = .ok (.iadd, 1) := by decide +kernel
theorem dX2_call_30 : decode cX2_call 30 = .ok (.bipush 61, 2) := by decide +kernel
theorem dX2_call_32 : decode cX2_call 32 = .ok (.if_icmp .lt 5, 3) := by decide +kernel
theorem dX2_call_35 : decode cX2_call 35 = .ok (.iconst 0, 1) := by decide +kernel
theorem dX2_call_36 : decode cX2_call 36 = .ok (.ireturn, 1) := by decide +kernel
theorem dX2_call_37 : decode cX2_call 37 = .ok (.aload_n 0, 1) := by decide +kernel
theorem dX2_call_38 : decode cX2_call 38 = .ok (.getfield 33, 3) := by decide +kernel
theorem dX2_call_41 : decode cX2_call 41 = .ok (.getfield 89, 3) := by decide +kernel
theorem dX2_call_44 : decode cX2_call 44 = .ok (.iload_n 1, 1) := by decide +kernel
theorem dX2_call_45 : decode cX2_call 45 = .ok (.iaload, 1) := by decide +kernel
theorem dX2_call_46 : decode cX2_call 46 = .ok (.istore_n 2, 1) := by decide +kernel
theorem dX2_call_47 : decode cX2_call 47 = .ok (.aload_n 0, 1) := by decide +kernel
theorem dX2_call_48 : decode cX2_call 48 = .ok (.getfield 33, 3) := by decide +kernel
theorem dX2_call_51 : decode cX2_call 51 = .ok (.getfield 92, 3) := by decide +kernel
theorem dX2_call_54 : decode cX2_call 54 = .ok (.iload_n 1, 1) := by decide +kernel
theorem dX2_call_55 : decode cX2_call 55 = .ok (.iaload, 1) := by decide +kernel
theorem dX2_call_56 : decode cX2_call 56 = .ok (.istore_n 3, 1) := by decide +kernel
theorem dX2_call_57 : decode cX2_call 57 = .ok (.aload_n 0, 1) := by decide +kernel
theorem dX2_call_58 : decode cX2_call 58 = .ok (.getfield 62, 3) := by decide +kernel
theorem dX2_call_61 : decode cX2_call 61 = .ok (.iload_n 3, 1) := by decide +kernel
theorem dX2_call_62 : decode cX2_call 62 = .ok (.if_icmp .ge 5, 3) := by decide +kernel
theorem dX2_call_65 : decode cX2_call 65 = .ok (.iconst 0, 1) := by decide +kernel
theorem dX2_call_66 : decode cX2_call 66 = .ok (.ireturn, 1) := by decide +kernel
theorem dX2_call_67 : decode cX2_call 67 = .ok (.aload_n 0, 1) := by decide +kernel
theorem dX2_call_68 : decode cX2_call 68 = .ok (.dup, 1) := by decide +kernel
theorem dX2_call_69 : decode cX2_call 69 = .ok (.getfield 58, 3) := by decide +kernel
theorem dX2_call_72 : decode cX2_call 72 = .ok (.iconst 1, 1) := by decide +kernel
theorem dX2_call_73 : decode cX2_call 73 = .ok (.iadd, 1) := by decide +kernel
theorem dX2_call_74 : decode cX2_call 74 = .ok (.putfield 58, 3) := by decide +kernel
theorem dX2_call_77 : decode cX2_call 77 = .ok (.aload_n 0, 1) := by decide +kernel
theorem dX2_call_78 : decode cX2_call 78 = .ok (.dup, 1) := by decide +kernel
theorem dX2_call_79 : decode cX2_call 79 = .ok (.getfield 62, 3) := by decide +kernel
theorem dX2_call_82 : decode cX2_call 82 = .ok (.iload_n 3, 1) := by decide +kernel
theorem dX2_call_83 : decode cX2_call 83 = .ok (.isub, 1) := by decide +kernel
theorem dX2_call_84 : decode cX2_call 84 = .ok (.putfield 62, 3) := by decide +kernel
theorem dX2_call_87 : decode cX2_call 87 = .ok (.aload_n 0, 1) := by decide +kernel
theorem dX2_call_88 : decode cX2_call 88 = .ok (.getfield 30, 3) := by decide +kernel
theorem dX2_call_91 : decode cX2_call 91 = .ok (.aload_n 0, 1) := by decide +kernel
theorem dX2_call_92 : decode cX2_call 92 = .ok (.getfield 62, 3) := by decide +kernel
theorem dX2_call_95 : decode cX2_call 95 = .ok (.iload_n 3, 1) := by decide +kernel
theorem dX2_call_96 : decode cX2_call 96 = .ok (.iadd, 1) := by decide +kernel
theorem dX2_call_97 : decode cX2_call 97 = .ok (.iconst 1, 1) := by decide +kernel
theorem dX2_call_98 : decode cX2_call 98 = .ok (.isub, 1) := by decide +kernel
theorem dX2_call_99 : decode cX2_call 99 = .ok (.iaload, 1) := by decide +kernel
theorem dX2_call_100 : decode cX2_call 100 = .ok (.istore 4, 2) := by decide +kernel
theorem dX2_call_102 : decode cX2_call 102 = .ok (.aload_n 0, 1) := by decide +kernel
theorem dX2_call_103 : decode cX2_call 103 = .ok (.getfield 33, 3) := by decide +kernel
theorem dX2_call_106 : decode cX2_call 106 = .ok (.getfield 95, 3) := by decide +kernel
theorem dX2_call_109 : decode cX2_call 109 = .ok (.iload_n 1, 1) := by decide +kernel
theorem dX2_call_110 : decode cX2_call 110 = .ok (.iconst 3, 1) := by decide +kernel
theorem dX2_call_111 : decode cX2_call 111 = .ok (.imul, 1) := by decide +kernel
theorem dX2_call_112 : decode cX2_call 112 = .ok (.iload 4, 2) := by decide +kernel
theorem dX2_call_114 : decode cX2_call 114 = .ok (.iload_n 2, 1) := by decide +kernel
theorem dX2_call_115 : decode cX2_call 115 = .ok (.if_icmp .lt 7, 3) := by decide +kernel
theorem dX2_call_118 : decode cX2_call 118 = .ok (.iconst 2, 1) := by decide +kernel
theorem dX2_call_119 : decode cX2_call 119 = .ok (.goto 9, 3) := by decide +kernel
theorem dX2_call_122 : decode cX2_call 122 = .ok (.iload 4, 2) := by decide +kernel
theorem dX2_call_124 : decode cX2_call 124 = .ok (.iconst 0, 1) := by decide +kernel
theorem dX2_call_125 : decode cX2_call 125 = .ok (.invokestatic 98, 3) := by decide +kernel
theorem dX2_call_128 : decode cX2_call 128 = .ok (.iadd, 1) := by decide +kernel
theorem dX2_call_129 : decode cX2_call 129 = .ok (.aaload, 1) := by decide +kernel
theorem dX2_call_130 : decode cX2_call 130 = .ok (.astore 5, 2) := by decide +kernel
theorem dX2_call_132 : decode cX2_call 132 = .ok (.aload_n 0, 1) := by decide +kernel
theorem dX2_call_133 : decode cX2_call 133 = .ok (.dup, 1) := by decide +kernel
theorem dX2_call_134 : decode cX2_call 134 = .ok (.getfield 65, 3) := by decide +kernel
theorem dX2_call_137 : decode cX2_call 137 = .ok (.iconst 1, 1) := by decide +kernel
theorem dX2_call_138 : decode cX2_call 138 = .ok (.iadd, 1) := by decide +kernel
theorem dX2_call_139 : decode cX2_call 139 = .ok (.putfield 65, 3) := by decide +kernel
theorem dX2_call_142 : decode cX2_call 142 = .ok (.aload_n 0, 1) := by decide +kernel
theorem dX2_call_143 : decode cX2_call 143 = .ok (.getfield 17, 3) := by decide +kernel
theorem dX2_call_146 : decode cX2_call 146 = .ok (.aload_n 0, 1) := by decide +kernel
theorem dX2_call_147 : decode cX2_call 147 = .ok (.getfield 65, 3) := by decide +kernel
theorem dX2_call_150 : decode cX2_call 150 = .ok (.aload 5, 2) := by decide +kernel
theorem dX2_call_152 : decode cX2_call 152 = .ok (.aastore, 1) := by decide +kernel
theorem dX2_call_153 : decode cX2_call 153 = .ok (.aload_n 0, 1) := by decide +kernel
theorem dX2_call_154 : decode cX2_call 154 = .ok (.getfield 21, 3) := by decide +kernel
theorem dX2_call_157 : decode cX2_call 157 = .ok (.aload_n 0, 1) := by decide +kernel
theorem dX2_call_158 : decode cX2_call 158 = .ok (.getfield 65, 3) := by decide +kernel
theorem dX2_call_161 : decode cX2_call 161 = .ok (.aload 5, 2) := by decide +kernel
theorem dX2_call_163 : decode cX2_call 163 = .ok (.getfield 68, 3) := by decide +kernel
theorem dX2_call_166 : decode cX2_call 166 = .ok (.iastore, 1) := by decide +kernel
theorem dX2_call_167 : decode cX2_call 167 = .ok (.aload_n 0, 1) := by decide +kernel
theorem dX2_call_168 : decode cX2_call 168 = .ok (.getfield 24, 3) := by decide +kernel
theorem dX2_call_171 : decode cX2_call 171 = .ok (.aload_n 0, 1) := by decide +kernel
theorem dX2_call_172 : decode cX2_call 172 = .ok (.getfield 65, 3) := by decide +kernel
theorem dX2_call_175 : decode cX2_call 175 = .ok (.iload 4, 2) := by decide +kernel
theorem dX2_call_177 : decode cX2_call 177 = .ok (.iload_n 2, 1) := by decide +kernel
theorem dX2_call_178 : decode cX2_call 178 = .ok (.isub, 1) := by decide +kernel
theorem dX2_call_179 : decode cX2_call 179 = .ok (.iastore, 1) := by decide +kernel
theorem dX2_call_180 : decode cX2_call 180 = .ok (.aload_n 0, 1) := by decide +kernel
theorem dX2_call_181 : decode cX2_call 181 = .ok (.getfield 27, 3) := by decide +kernel
theorem dX2_call_184 : decode cX2_call 184 = .ok (.aload_n 0, 1) := by decide +kernel
theorem dX2_call_185 : decode cX2_call 185 = .ok (.getfield 65, 3) := by decide +kernel
theorem dX2_call_188 : decode cX2_call 188 = .ok (.aload_n 0, 1) := by decide +kernel
theorem dX2_call_189 : decode cX2_call 189 = .ok (.getfield 30, 3) := by decide +kernel
theorem dX2_call_192 : decode cX2_call 192 = .ok (.aload_n 0, 1) := by decide +kernel
theorem dX2_call_193 : decode cX2_call 193 = .ok (.getfield 62, 3) := by decide +kernel
theorem dX2_call_196 : decode cX2_call 196 = .ok (.iaload, 1) := by decide +kernel
theorem dX2_call_197 : decode cX2_call 197 = .ok (.iastore, 1) := by decide +kernel
theorem dX2_call_198 : decode cX2_call 198 = .ok (.iconst 1, 1) := by decide +kernel
theorem dX2_call_199 : decode cX2_call 199 = .ok (.ireturn, 1) := by decide +kernel
theorem dX3_init_0 : decode cX3_init 0 = .ok (.aload_n 0, 1) := by decide +kernel
theorem dX3_init_1 : decode cX3_init 1 = .ok (.invokespecial 3, 3) := by decide +kernel
theorem dX3_init_4 : decode cX3_init 4 = .ok (.aload_n 0, 1) := by decide +kernel
theorem dX3_init_5 : decode cX3_init 5 = .ok (.bipush 6, 2) := by decide +kernel
theorem dX3_init_7 : decode cX3_init 7 = .ok (.newarray .int, 2) := by decide +kernel
theorem dX3_init_9 : decode cX3_init 9 = .ok (.putfield 9, 3) := by decide +kernel
theorem dX3_init_12 : decode cX3_init 12 = .ok (.aload_n 0, 1) := by decide +kernel
theorem dX3_init_13 : decode cX3_init 13 = .ok (.bipush 6, 2) := by decide +kernel
theorem dX3_init_15 : decode cX3_init 15 = .ok (.newarray .int, 2) := by decide +kernel
theorem dX3_init_17 : decode cX3_init 17 = .ok (.putfield 15, 3) := by decide +kernel
theorem dX3_init_20 : decode cX3_init 20 = .ok (.aload_n 0, 1) := by decide +kernel
theorem dX3_init_21 : decode cX3_init 21 = .ok (.bipush 18, 2) := by decide +kernel
theorem dX3_init_23 : decode cX3_init 23 = .ok (.anewarray 18, 3) := by decide +kernel
theorem dX3_init_26 : decode cX3_init 26 = .ok (.putfield 20, 3) := by decide +kernel
theorem dX3_init_29 : decode cX3_init 29 = .ok (.aload_n 0, 1) := by decide +kernel
theorem dX3_init_30 : decode cX3_init 30 = .ok (.sipush 128, 3) := by decide +kernel
theorem dX3_init_33 : decode cX3_init 33 = .ok (.newarray .int, 2) := by decide +kernel
theorem dX3_init_35 : decode cX3_init 35 = .ok (.putfield 24, 3) := by decide +kernel
theorem dX3_init_38 : decode cX3_init 38 = .ok (.iconst 0, 1) := by decide +kernel
theorem dX3_init_39 : decode cX3_init 39 = .ok (.istore_n 1, 1) := by decide +kernel
theorem dX3_init_40 : decode cX3_init 40 = .ok (.iload_n 1, 1) := by decide +kernel
theorem dX3_init_41 : decode cX3_init 41 = .ok (.bipush 18, 2) := by decide +kernel
theorem dX3_init_43 : decode cX3_init 43 = .ok (.if_icmp .ge 22, 3) := by decide +kernel
theorem dX3_init_46 : decode cX3_init 46 = .ok (.aload_n 0, 1) := by decide +kernel
theorem dX3_init_47 : decode cX3_init 47 = .ok (.getfield 20, 3) := by decide +kernel
theorem dX3_init_50 : decode cX3_init 50 = .ok (.iload_n 1, 1) := by decide +kernel
theorem dX3_init_51 : decode cX3_init 51 = .ok (.new 18, 3) := by decide +kernel
theorem dX3_init_54 : decode cX3_init 54 = .ok (.dup, 1) := by decide +kernel
theorem dX3_init_55 : decode cX3_init 55 = .ok (.invokespecial 27, 3) := by decide +kernel
theorem dX3_init_58 : decode cX3_init 58 = .ok (.aastore, 1) := by decide +kernel
theorem dX3_init_59 : decode cX3_init 59 = .ok (.iinc 1 1, 3) := by decide +kernel
theorem dX3_init_62 : decode cX3_init 62 = .ok (.goto (-22), 3) := by decide +kernel
theorem dX3_init_65 : decode cX3_init 65 = .ok (.aload_n 0, 1) := by decide +kernel
theorem dX3_init_66 : decode cX3_init 66 = .ok (.getfield 24, 3) := by decide +kernel
theorem dX3_init_69 : decode cX3_init 69 = .ok (.bipush 83, 2) := by decide +kernel
theorem dX3_init_71 : decode cX3_init 71 = .ok (.iconst 1, 1) := by decide +kernel
theorem dX3_init_72 : decode cX3_init 72 = .ok (.iastore, 1) := by decide +kernel
theorem dX3_init_73 : decode cX3_init 73 = .ok (.return_, 1) := by decide +kernel
theorem dX3_define_0 : decode cX3_define 0 = .ok (.aload_n 0, 1) := by decide +kernel
theorem dX3_define_1 : decode cX3_define 1 = .ok (.getfield 28, 3) := by decide +kernel
theorem dX3_define_4 : decode cX3_define 4 = .ok (.ifCond .lt 23, 3) := by decide +kernel
theorem dX3_define_7 : decode cX3_define 7 = .ok (.aload_n 0, 1) := by decide +kernel
theorem dX3_define_8 : decode cX3_define 8 = .ok (.getfield 28, 3) := by decide +kernel
theorem dX3_define_11 : decode cX3_define 11 = .ok (.bipush 6, 2) := by decide +kernel
theorem dX3_define_13 : decode cX3_define 13 = .ok (.if_icmp .ge 14, 3) := by decide +kernel
theorem dX3_define_16 : decode cX3_define 16 = .ok (.iload_n 2, 1) := by decide +kernel
theorem dX3_define_17 : decode cX3_define 17 = .ok (.iconst 1, 1) := by decide +kernel
theorem dX3_define_18 : decode cX3_define 18 = .ok (.if_icmp .lt 9, 3) := by decide +kernel
theorem dX3_define_21 : decode cX3_define 21 = .ok (.iload_n 2, 1) := by decide +kernel
theorem dX3_define_22 : decode cX3_define 22 = .ok (.aload_n 3, 1) := by decide +kernel
theorem dX3_define_23 : decode cX3_define 23 = .ok (.arraylength, 1) := by decide +kernel
theorem dX3_define_24 : decode cX3_define 24 = .ok (.if_icmp .lt 4, 3) := by decide +kernel
theorem dX3_define_27 : decode cX3_define 27 = .ok (.return_, 1) := by decide +kernel
theorem dX3_define_28 : decode cX3_define 28 = .ok (.aload_n 0, 1) := by decide +kernel
theorem dX3_define_29 : decode cX3_define 29 = .ok (.getfield 9, 3) := by decide +kernel
theorem dX3_define_32 : decode cX3_define 32 = .ok (.aload_n 0, 1) := by decide +kernel
theorem dX3_define_33 : decode cX3_define 33 = .ok (.getfield 28, 3) := by decide +kernel
theorem dX3_define_36 : decode cX3_define 36 = .ok (.iload_n 1, 1) := by decide +kernel
theorem dX3_define_37 : decode cX3_define 37 = .ok (.iastore, 1) := by decide +kernel
theorem dX3_define_38 : decode cX3_define 38 = .ok (.aload_n 0, 1) := by decide +kernel
theorem dX3_define_39 : decode cX3_define 39 = .ok (.getfield 15, 3) := by decide +kernel
theorem dX3_define_42 : decode cX3_define 42 = .ok (.aload_n 0, 1) := by decide +kernel
theorem dX3_define_43 : decode cX3_define 43 = .ok (.getfield 28, 3) := by decide +kernel
theorem dX3_define_46 : decode cX3_define 46 = .ok (.iload_n 2, 1) := by decide +kernel
theorem dX3_define_47 : decode cX3_define 47 = .ok (.iastore, 1) := by decide +kernel
theorem dX3_define_48 : decode cX3_define 48 = .ok (.aload_n 0, 1) := by decide +kernel
theorem dX3_define_49 : decode cX3_define 49 = .ok (.getfield 24, 3) := by decide +kernel
theorem dX3_define_52 : decode cX3_define 52 = .ok (.bipush 97, 2) := by decide +kernel
theorem dX3_define_54 : decode cX3_define 54 = .ok (.aload_n 0, 1) := by decide +kernel
theorem dX3_define_55 : decode cX3_define 55 = .ok (.getfield 28, 3) := by decide +kernel
theorem dX3_define_58 : decode cX3_define 58 = .ok (.iadd, 1) := by decide +kernel
theorem dX3_define_59 : decode cX3_define 59 = .ok (.iload_n 1, 1) := by decide +kernel
theorem dX3_define_60 : decode cX3_define 60 = .ok (.iastore, 1) := by decide +kernel
theorem dX3_define_61 : decode cX3_define 61 = .ok (.iconst 0, 1) := by decide +kernel
theorem dX3_define_62 : decode cX3_define 62 = .ok (.istore 4, 2) := by decide +kernel
theorem dX3_define_64 : decode cX3_define 64 = .ok (.iload 4, 2) := by decide +kernel
theorem dX3_define_66 : decode cX3_define 66 = .ok (.iload_n 2, 1) := by decide +kernel
theorem dX3_define_67 : decode cX3_define 67 = .ok (.if_icmp .gt 44, 3) := by decide +kernel
theorem dX3_define_70 : decode cX3_define 70 = .ok (.iload 4, 2) := by decide +kernel
theorem dX3_define_72 : decode cX3_define 72 = .ok (.iload_n 2, 1) := by decide +kernel
theorem dX3_define_73 : decode cX3_define 73 = .ok (.if_icmp .ne 7, 3) := by decide +kernel
theorem dX3_define_76 : decode cX3_define 76 = .ok (.iconst 2, 1) := by decide +kernel
theorem dX3_define_77 : decode cX3_define 77 = .ok (.goto 5, 3) := by decide +kernel
theorem dX3_define_80 : decode cX3_define 80 = .ok (.iload 4, 2) := by decide +kernel
theorem dX3_define_82 : decode cX3_define 82 = .ok (.istore 5, 2) := by decide +kernel
theorem dX3_define_84 : decode cX3_define 84 = .ok (.aload_n 0, 1) := by decide +kernel
theorem dX3_define_85 : decode cX3_define 85 = .ok (.getfield 20, 3) := by decide +kernel
theorem dX3_define_88 : decode cX3_define 88 = .ok (.aload_n 0, 1) := by decide +kernel
theorem dX3_define_89 : decode cX3_define 89 = .ok (.getfield 28, 3) := by decide +kernel
theorem dX3_define_92 : decode cX3_define 92 = .ok (.iconst 3, 1) := by decide +kernel
theorem dX3_define_93 : decode cX3_define 93 = .ok (.imul, 1) := by decide +kernel
theorem dX3_define_94 : decode cX3_define 94 = .ok (.iload 5, 2) := by decide +kernel
theorem dX3_define_96 : decode cX3_define 96 = .ok (.iadd, 1) := by decide +kernel
theorem dX3_define_97 : decode cX3_define 97 = .ok (.aaload, 1) := by decide +kernel
theorem dX3_define_98 : decode cX3_define 98 = .ok (.aload_n 3, 1) := by decide +kernel
theorem dX3_define_99 : decode cX3_define 99 = .ok (.iload 4, 2) := by decide +kernel
theorem dX3_define_101 : decode cX3_define 101 = .ok (.aaload, 1) := by decide +kernel
theorem dX3_define_102 : decode cX3_define 102 = .ok (.invokevirtual 32, 3) := by decide +kernel
theorem dX3_define_105 : decode cX3_define 105 = .ok (.iinc 4 1, 3) := by decide +kernel
theorem dX3_define_108 : decode cX3_define 108 = .ok (.goto (-44), 3) := by decide +kernel
theorem dX3_define_111 : decode cX3_define 111 = .ok (.aload_n 0, 1) := by decide +kernel
theorem dX3_define_112 : decode cX3_define 112 = .ok (.dup, 1) := by decide +kernel
theorem dX3_define_113 : decode cX3_define 113 = .ok (.getfield 28, 3) := by decide +kernel
theorem dX3_define_116 : decode cX3_define 116 = .ok (.iconst 1, 1) := by decide +kernel
theorem dX3_define_117 : decode cX3_define 117 = .ok (.iadd, 1) := by decide +kernel
theorem dX3_define_118 : decode cX3_define 118 = .ok (.putfield 28, 3) := by decide +kernel
theorem dX3_define_121 : decode cX3_define 121 = .ok (.return_, 1) := by decide +kernel
theorem dX3_forgetAll_0 : decode cX3_forgetAll 0 = .ok (.iconst 0, 1) := by decide +kernel
theorem dX3_forgetAll_1 : decode cX3_forgetAll 1 = .ok (.istore_n 1, 1) := by decide +kernel
theorem dX3_forgetAll_2 : decode cX3_forgetAll 2 = .ok (.iload_n 1, 1) := by decide +kernel
theorem dX3_forgetAll_3 : decode cX3_forgetAll 3 = .ok (.bipush 6, 2) := by decide +kernel
theorem dX3_forgetAll_5 : decode cX3_forgetAll 5 = .ok (.if_icmp .ge 19, 3) := by decide +kernel
theorem dX3_forgetAll_8 : decode cX3_forgetAll 8 = .ok (.aload_n 0, 1) := by decide +kernel
theorem dX3_forgetAll_9 : decode cX3_forgetAll 9 = .ok (.getfield 24, 3) := by decide +kernel
theorem dX3_forgetAll_12 : decode cX3_forgetAll 12 = .ok (.bipush 97, 2) := by decide +kernel
theorem dX3_forgetAll_14 : decode cX3_forgetAll 14 = .ok (.iload_n 1, 1) := by decide +kernel
theorem dX3_forgetAll_15 : decode cX3_forgetAll 15 = .ok (.iadd, 1) := by decide +kernel
theorem dX3_forgetAll_16 : decode cX3_forgetAll 16 = .ok (.iconst 0, 1) := by decide +kernel
theorem dX3_forgetAll_17 : decode cX3_forgetAll 17 = .ok (.iastore, 1) := by decide +kernel
theorem dX3_forgetAll_18 : decode cX3_forgetAll 18 = .ok (.iinc 1 1, 3) := by decide +kernel
theorem dX3_forgetAll_21 : decode cX3_forgetAll 21 = .ok (.goto (-19), 3) := by decide +kernel
theorem dX3_forgetAll_24 : decode cX3_forgetAll 24 = .ok (.aload_n 0, 1) := by decide +kernel
theorem dX3_forgetAll_25 : decode cX3_forgetAll 25 = .ok (.iconst 0, 1) := by decide +kernel
theorem dX3_forgetAll_26 : decode cX3_forgetAll 26 = .ok (.putfield 28, 3) := by decide +kernel
theorem dX3_forgetAll_29 : decode cX3_forgetAll 29 = .ok (.return_, 1) := by decide +kernel
theorem dX3_bodyOf_0 : decode cX3_bodyOf 0 = .ok (.iload_n 1, 1) := by decide +kernel
theorem dX3_bodyOf_1 : decode cX3_bodyOf 1 = .ok (.ifCond .lt 20, 3) := by decide +kernel
theorem dX3_bodyOf_4 : decode cX3_bodyOf 4 = .ok (.iload_n 1, 1) := by decide +kernel
theorem dX3_bodyOf_5 : decode cX3_bodyOf 5 = .ok (.aload_n 0, 1) := by decide +kernel
theorem dX3_bodyOf_6 : decode cX3_bodyOf 6 = .ok (.getfield 28, 3) := by decide +kernel
theorem dX3_bodyOf_9 : decode cX3_bodyOf 9 = .ok (.if_icmp .ge 12, 3) := by decide +kernel
theorem dX3_bodyOf_12 : decode cX3_bodyOf 12 = .ok (.iload_n 2, 1) := by decide +kernel
theorem dX3_bodyOf_13 : decode cX3_bodyOf 13 = .ok (.ifCond .lt 8, 3) := by decide +kernel
theorem dX3_bodyOf_16 : decode cX3_bodyOf 16 = .ok (.iload_n 2, 1) := by decide +kernel
theorem dX3_bodyOf_17 : decode cX3_bodyOf 17 = .ok (.iconst 3, 1) := by decide +kernel
theorem dX3_bodyOf_18 : decode cX3_bodyOf 18 = .ok (.if_icmp .lt 5, 3) := by decide +kernel
theorem dX3_bodyOf_21 : decode cX3_bodyOf 21 = .ok (.aconst_null, 1) := by decide +kernel
theorem dX3_bodyOf_22 : decode cX3_bodyOf 22 = .ok (.areturn, 1) := by decide +kernel
theorem dX3_bodyOf_23 : decode cX3_bodyOf 23 = .ok (.iload_n 2, 1) := by decide +kernel
theorem dX3_bodyOf_24 : decode cX3_bodyOf 24 = .ok (.iconst 1, 1) := by decide +kernel
theorem dX3_bodyOf_25 : decode cX3_bodyOf 25 = .ok (.if_icmp .ne 17, 3) := by decide +kernel
theorem dX3_bodyOf_28 : decode cX3_bodyOf 28 = .ok (.aload_n 0, 1) := by decide +kernel
theorem dX3_bodyOf_29 : decode cX3_bodyOf 29 = .ok (.getfield 15, 3) := by decide +kernel
theorem dX3_bodyOf_32 : decode cX3_bodyOf 32 = .ok (.iload_n 1, 1) := by decide +kernel
theorem dX3_bodyOf_33 : decode cX3_bodyOf 33 = .ok (.iaload, 1) := by decide +kernel
theorem dX3_bodyOf_34 : decode cX3_bodyOf 34 = .ok (.iconst 1, 1) := by decide +kernel
theorem dX3_bodyOf_35 : decode cX3_bodyOf 35 = .ok (.if_icmp .ne 7, 3) := by decide +kernel
theorem dX3_bodyOf_38 : decode cX3_bodyOf 38 = .ok (.aconst_null, 1) := by decide +kernel
theorem dX3_bodyOf_39 : decode cX3_bodyOf 39 = .ok (.goto 13, 3) := by decide +kernel
theorem dX3_bodyOf_42 : decode cX3_bodyOf 42 = .ok (.aload_n 0, 1) := by decide +kernel
theorem dX3_bodyOf_43 : decode cX3_bodyOf 43 = .ok (.getfield 20, 3) := by decide +kernel
theorem dX3_bodyOf_46 : decode cX3_bodyOf 46 = .ok (.iload_n 1, 1) := by decide +kernel
theorem dX3_bodyOf_47 : decode cX3_bodyOf 47 = .ok (.iconst 3, 1) := by decide +kernel
theorem dX3_bodyOf_48 : decode cX3_bodyOf 48 = .ok (.imul, 1) := by decide +kernel
theorem dX3_bodyOf_49 : decode cX3_bodyOf 49 = .ok (.iload_n 2, 1) := by decide +kernel
theorem dX3_bodyOf_50 : decode cX3_bodyOf 50 = .ok (.iadd, 1) := by decide +kernel
theorem dX3_bodyOf_51 : decode cX3_bodyOf 51 = .ok (.aaload, 1) := by decide +kernel
theorem dX3_bodyOf_52 : decode cX3_bodyOf 52 = .ok (.areturn, 1) := by decide +kernel
theorem dX3_depthOf_0 : decode cX3_depthOf 0 = .ok (.iload_n 1, 1) := by decide +kernel
theorem dX3_depthOf_1 : decode cX3_depthOf 1 = .ok (.bipush 97, 2) := by decide +kernel
theorem dX3_depthOf_3 : decode cX3_depthOf 3 = .ok (.isub, 1) := by decide +kernel
theorem dX3_depthOf_4 : decode cX3_depthOf 4 = .ok (.istore_n 2, 1) := by decide +kernel
theorem dX3_depthOf_5 : decode cX3_depthOf 5 = .ok (.iload_n 2, 1) := by decide +kernel
theorem dX3_depthOf_6 : decode cX3_depthOf 6 = .ok (.ifCond .lt 20, 3) := by decide +kernel
theorem dX3_depthOf_9 : decode cX3_depthOf 9 = .ok (.iload_n 2, 1) := by decide +kernel
theorem dX3_depthOf_10 : decode cX3_depthOf 10 = .ok (.aload_n 0, 1) := by decide +kernel
theorem dX3_depthOf_11 : decode cX3_depthOf 11 = .ok (.getfield 28, 3) := by decide +kernel
theorem dX3_depthOf_14 : decode cX3_depthOf 14 = .ok (.if_icmp .ge 12, 3) := by decide +kernel
theorem dX3_depthOf_17 : decode cX3_depthOf 17 = .ok (.aload_n 0, 1) := by decide +kernel
theorem dX3_depthOf_18 : decode cX3_depthOf 18 = .ok (.getfield 15, 3) := by decide +kernel
theorem dX3_depthOf_21 : decode cX3_depthOf 21 = .ok (.iload_n 2, 1) := by decide +kernel
theorem dX3_depthOf_22 : decode cX3_depthOf 22 = .ok (.iaload, 1) := by decide +kernel
theorem dX3_depthOf_23 : decode cX3_depthOf 23 = .ok (.goto 4, 3) := by decide +kernel
theorem dX3_depthOf_26 : decode cX3_depthOf 26 = .ok (.iconst 0, 1) := by decide +kernel
theorem dX3_depthOf_27 : decode cX3_depthOf 27 = .ok (.ireturn, 1) := by decide +kernel
theorem dX4_init_0 : decode cX4_init 0 = .ok (.aload_n 0, 1) := by decide +kernel
theorem dX4_init_1 : decode cX4_init 1 = .ok (.invokespecial 3, 3) := by decide +kernel
theorem dX4_init_4 : decode cX4_init 4 = .ok (.aload_n 0, 1) := by decide +kernel
theorem dX4_init_5 : decode cX4_init 5 = .ok (.bipush 8, 2) := by decide +kernel
theorem dX4_init_7 : decode cX4_init 7 = .ok (.anewarray 9, 3) := by decide +kernel
theorem dX4_init_10 : decode cX4_init 10 = .ok (.putfield 11, 3) := by decide +kernel
theorem dX4_init_13 : decode cX4_init 13 = .ok (.aload_n 0, 1) := by decide +kernel
theorem dX4_init_14 : decode cX4_init 14 = .ok (.new 17, 3) := by decide +kernel
theorem dX4_init_17 : decode cX4_init 17 = .ok (.dup, 1) := by decide +kernel
theorem dX4_init_18 : decode cX4_init 18 = .ok (.invokespecial 19, 3) := by decide +kernel
theorem dX4_init_21 : decode cX4_init 21 = .ok (.putfield 20, 3) := by decide +kernel
theorem dX4_init_24 : decode cX4_init 24 = .ok (.aload_n 0, 1) := by decide +kernel
theorem dX4_init_25 : decode cX4_init 25 = .ok (.aload_n 1, 1) := by decide +kernel
theorem dX4_init_26 : decode cX4_init 26 = .ok (.putfield 24, 3) := by decide +kernel
theorem dX4_init_29 : decode cX4_init 29 = .ok (.aload_n 0, 1) := by decide +kernel
theorem dX4_init_30 : decode cX4_init 30 = .ok (.aload_n 2, 1) := by decide +kernel
theorem dX4_init_31 : decode cX4_init 31 = .ok (.putfield 28, 3) := by decide +kernel
theorem dX4_init_34 : decode cX4_init 34 = .ok (.iconst 0, 1) := by decide +kernel
theorem dX4_init_35 : decode cX4_init 35 = .ok (.istore_n 3, 1) := by decide +kernel
theorem dX4_init_36 : decode cX4_init 36 = .ok (.iload_n 3, 1) := by decide +kernel
theorem dX4_init_37 : decode cX4_init 37 = .ok (.bipush 8, 2) := by decide +kernel
theorem dX4_init_39 : decode cX4_init 39 = .ok (.if_icmp .ge 22, 3) := by decide +kernel
theorem dX4_init_42 : decode cX4_init 42 = .ok (.aload_n 0, 1) := by decide +kernel
theorem dX4_init_43 : decode cX4_init 43 = .ok (.getfield 11, 3) := by decide +kernel
theorem dX4_init_46 : decode cX4_init 46 = .ok (.iload_n 3, 1) := by decide +kernel
theorem dX4_init_47 : decode cX4_init 47 = .ok (.new 9, 3) := by decide +kernel
theorem dX4_init_50 : decode cX4_init 50 = .ok (.dup, 1) := by decide +kernel
theorem dX4_init_51 : decode cX4_init 51 = .ok (.invokespecial 32, 3) := by decide +kernel
theorem dX4_init_54 : decode cX4_init 54 = .ok (.aastore, 1) := by decide +kernel
theorem dX4_init_55 : decode cX4_init 55 = .ok (.iinc 3 1, 3) := by decide +kernel
theorem dX4_init_58 : decode cX4_init 58 = .ok (.goto (-22), 3) := by decide +kernel
theorem dX4_init_61 : decode cX4_init 61 = .ok (.return_, 1) := by decide +kernel
theorem dX4_keep_0 : decode cX4_keep 0 = .ok (.aload_n 1, 1) := by decide +kernel
theorem dX4_keep_1 : decode cX4_keep 1 = .ok (.invokevirtual 33, 3) := by decide +kernel
theorem dX4_keep_4 : decode cX4_keep 4 = .ok (.ifCond .ne 19, 3) := by decide +kernel
theorem dX4_keep_7 : decode cX4_keep 7 = .ok (.aload_n 0, 1) := by decide +kernel
theorem dX4_keep_8 : decode cX4_keep 8 = .ok (.getfield 37, 3) := by decide +kernel
theorem dX4_keep_11 : decode cX4_keep 11 = .ok (.ifCond .lt 12, 3) := by decide +kernel
theorem dX4_keep_14 : decode cX4_keep 14 = .ok (.aload_n 0, 1) := by decide +kernel
theorem dX4_keep_15 : decode cX4_keep 15 = .ok (.getfield 37, 3) := by decide +kernel
theorem dX4_keep_18 : decode cX4_keep 18 = .ok (.bipush 8, 2) := by decide +kernel
theorem dX4_keep_20 : decode cX4_keep 20 = .ok (.if_icmp .lt 4, 3) := by decide +kernel
theorem dX4_keep_23 : decode cX4_keep 23 = .ok (.return_, 1) := by decide +kernel
theorem dX4_keep_24 : decode cX4_keep 24 = .ok (.iconst 0, 1) := by decide +kernel
theorem dX4_keep_25 : decode cX4_keep 25 = .ok (.istore_n 2, 1) := by decide +kernel
theorem dX4_keep_26 : decode cX4_keep 26 = .ok (.iload_n 2, 1) := by decide +kernel
theorem dX4_keep_27 : decode cX4_keep 27 = .ok (.aload_n 0, 1) := by decide +kernel
theorem dX4_keep_28 : decode cX4_keep 28 = .ok (.getfield 37, 3) := by decide +kernel
theorem dX4_keep_31 : decode cX4_keep 31 = .ok (.if_icmp .ge 23, 3) := by decide +kernel
theorem dX4_keep_34 : decode cX4_keep 34 = .ok (.aload_n 0, 1) := by decide +kernel
theorem dX4_keep_35 : decode cX4_keep 35 = .ok (.getfield 11, 3) := by decide +kernel
theorem dX4_keep_38 : decode cX4_keep 38 = .ok (.iload_n 2, 1) := by decide +kernel
theorem dX4_keep_39 : decode cX4_keep 39 = .ok (.aaload, 1) := by decide +kernel
theorem dX4_keep_40 : decode cX4_keep 40 = .ok (.aload_n 1, 1) := by decide +kernel
theorem dX4_keep_41 : decode cX4_keep 41 = .ok (.invokevirtual 41, 3) := by decide +kernel
theorem dX4_keep_44 : decode cX4_keep 44 = .ok (.ifCond .eq 4, 3) := by decide +kernel
theorem dX4_keep_47 : decode cX4_keep 47 = .ok (.return_, 1) := by decide +kernel
theorem dX4_keep_48 : decode cX4_keep 48 = .ok (.iinc 2 1, 3) := by decide +kernel
theorem dX4_keep_51 : decode cX4_keep 51 = .ok (.goto (-25), 3) := by decide +kernel
theorem dX4_keep_54 : decode cX4_keep 54 = .ok (.aload_n 0, 1) := by decide +kernel
theorem dX4_keep_55 : decode cX4_keep 55 = .ok (.getfield 11, 3) := by decide +kernel
theorem dX4_keep_58 : decode cX4_keep 58 = .ok (.aload_n 0, 1) := by decide +kernel
theorem dX4_keep_59 : decode cX4_keep 59 = .ok (.getfield 37, 3) := by decide +kernel
theorem dX4_keep_62 : decode cX4_keep 62 = .ok (.aaload, 1) := by decide +kernel
theorem dX4_keep_63 : decode cX4_keep 63 = .ok (.aload_n 1, 1) := by decide +kernel
theorem dX4_keep_64 : decode cX4_keep 64 = .ok (.invokevirtual 45, 3) := by decide +kernel
theorem dX4_keep_67 : decode cX4_keep 67 = .ok (.aload_n 0, 1) := by decide +kernel
theorem dX4_keep_68 : decode cX4_keep 68 = .ok (.dup, 1) := by decide +kernel
theorem dX4_keep_69 : decode cX4_keep 69 = .ok (.getfield 37, 3) := by decide +kernel
theorem dX4_keep_72 : decode cX4_keep 72 = .ok (.iconst 1, 1) := by decide +kernel
theorem dX4_keep_73 : decode cX4_keep 73 = .ok (.iadd, 1) := by decide +kernel
theorem dX4_keep_74 : decode cX4_keep 74 = .ok (.putfield 37, 3) := by decide +kernel
theorem dX4_keep_77 : decode cX4_keep 77 = .ok (.return_, 1) := by decide +kernel
theorem dX4_ripple_0 : decode cX4_ripple 0 = .ok (.aload_n 0, 1) := by decide +kernel
theorem dX4_ripple_1 : decode cX4_ripple 1 = .ok (.getfield 24, 3) := by decide +kernel
theorem dX4_ripple_4 : decode cX4_ripple 4 = .ok (.aload_n 1, 1) := by decide +kernel
theorem dX4_ripple_5 : decode cX4_ripple 5 = .ok (.aload_n 2, 1) := by decide +kernel
theorem dX4_ripple_6 : decode cX4_ripple 6 = .ok (.invokevirtual 49, 3) := by decide +kernel
theorem dX4_ripple_9 : decode cX4_ripple 9 = .ok (.istore_n 3, 1) := by decide +kernel
theorem dX4_ripple_10 : decode cX4_ripple 10 = .ok (.iconst 0, 1) := by decide +kernel
theorem dX4_ripple_11 : decode cX4_ripple 11 = .ok (.istore 4, 2) := by decide +kernel
theorem dX4_ripple_13 : decode cX4_ripple 13 = .ok (.iload 4, 2) := by decide +kernel
theorem dX4_ripple_15 : decode cX4_ripple 15 = .ok (.aload_n 1, 1) := by decide +kernel
theorem dX4_ripple_16 : decode cX4_ripple 16 = .ok (.getfield 55, 3) := by decide +kernel
theorem dX4_ripple_19 : decode cX4_ripple 19 = .ok (.if_icmp .ge 119, 3) := by decide +kernel
theorem dX4_ripple_22 : decode cX4_ripple 22 = .ok (.iload_n 3, 1) := by decide +kernel
theorem dX4_ripple_23 : decode cX4_ripple 23 = .ok (.ifCond .le 115, 3) := by decide +kernel
theorem dX4_ripple_26 : decode cX4_ripple 26 = .ok (.iconst 0, 1) := by decide +kernel
theorem dX4_ripple_27 : decode cX4_ripple 27 = .ok (.istore 5, 2) := by decide +kernel
theorem dX4_ripple_29 : decode cX4_ripple 29 = .ok (.iload 5, 2) := by decide +kernel
theorem dX4_ripple_31 : decode cX4_ripple 31 = .ok (.aload_n 0, 1) := by decide +kernel
theorem dX4_ripple_32 : decode cX4_ripple 32 = .ok (.getfield 37, 3) := by decide +kernel
theorem dX4_ripple_35 : decode cX4_ripple 35 = .ok (.if_icmp .ge 97, 3) := by decide +kernel
theorem dX4_ripple_38 : decode cX4_ripple 38 = .ok (.iload 5, 2) := by decide +kernel
theorem dX4_ripple_40 : decode cX4_ripple 40 = .ok (.bipush 8, 2) := by decide +kernel
theorem dX4_ripple_42 : decode cX4_ripple 42 = .ok (.if_icmp .ge 90, 3) := by decide +kernel
theorem dX4_ripple_45 : decode cX4_ripple 45 = .ok (.iconst 0, 1) := by decide +kernel
theorem dX4_ripple_46 : decode cX4_ripple 46 = .ok (.istore 6, 2) := by decide +kernel
theorem dX4_ripple_48 : decode cX4_ripple 48 = .ok (.iload 6, 2) := by decide +kernel
theorem dX4_ripple_50 : decode cX4_ripple 50 = .ok (.iconst 1, 1) := by decide +kernel
theorem dX4_ripple_51 : decode cX4_ripple 51 = .ok (.if_icmp .gt 75, 3) := by decide +kernel
theorem dX4_ripple_54 : decode cX4_ripple 54 = .ok (.aload_n 0, 1) := by decide +kernel
theorem dX4_ripple_55 : decode cX4_ripple 55 = .ok (.aload_n 1, 1) := by decide +kernel
theorem dX4_ripple_56 : decode cX4_ripple 56 = .ok (.iload 4, 2) := by decide +kernel
theorem dX4_ripple_58 : decode cX4_ripple 58 = .ok (.aload_n 0, 1) := by decide +kernel
theorem dX4_ripple_59 : decode cX4_ripple 59 = .ok (.getfield 11, 3) := by decide +kernel
theorem dX4_ripple_62 : decode cX4_ripple 62 = .ok (.iload 5, 2) := by decide +kernel
theorem dX4_ripple_64 : decode cX4_ripple 64 = .ok (.aaload, 1) := by decide +kernel
theorem dX4_ripple_65 : decode cX4_ripple 65 = .ok (.iload 6, 2) := by decide +kernel
theorem dX4_ripple_67 : decode cX4_ripple 67 = .ok (.invokevirtual 58, 3) := by decide +kernel
theorem dX4_ripple_70 : decode cX4_ripple 70 = .ok (.ifCond .ne 6, 3) := by decide +kernel
theorem dX4_ripple_73 : decode cX4_ripple 73 = .ok (.goto 47, 3) := by decide +kernel
theorem dX4_ripple_76 : decode cX4_ripple 76 = .ok (.aload_n 0, 1) := by decide +kernel
theorem dX4_ripple_77 : decode cX4_ripple 77 = .ok (.getfield 24, 3) := by decide +kernel
theorem dX4_ripple_80 : decode cX4_ripple 80 = .ok (.aload_n 0, 1) := by decide +kernel
theorem dX4_ripple_81 : decode cX4_ripple 81 = .ok (.getfield 20, 3) := by decide +kernel
theorem dX4_ripple_84 : decode cX4_ripple 84 = .ok (.aload_n 2, 1) := by decide +kernel
theorem dX4_ripple_85 : decode cX4_ripple 85 = .ok (.invokevirtual 49, 3) := by decide +kernel
theorem dX4_ripple_88 : decode cX4_ripple 88 = .ok (.istore 7, 2) := by decide +kernel
theorem dX4_ripple_90 : decode cX4_ripple 90 = .ok (.iload 7, 2) := by decide +kernel
theorem dX4_ripple_92 : decode cX4_ripple 92 = .ok (.bipush (-9), 2) := by decide +kernel
theorem dX4_ripple_94 : decode cX4_ripple 94 = .ok (.if_icmp .eq 26, 3) := by decide +kernel
theorem dX4_ripple_97 : decode cX4_ripple 97 = .ok (.iload 7, 2) := by decide +kernel
theorem dX4_ripple_99 : decode cX4_ripple 99 = .ok (.iload_n 3, 1) := by decide +kernel
theorem dX4_ripple_100 : decode cX4_ripple 100 = .ok (.if_icmp .ge 20, 3) := by decide +kernel
theorem dX4_ripple_103 : decode cX4_ripple 103 = .ok (.aload_n 1, 1) := by decide +kernel
theorem dX4_ripple_104 : decode cX4_ripple 104 = .ok (.aload_n 0, 1) := by decide +kernel
theorem dX4_ripple_105 : decode cX4_ripple 105 = .ok (.getfield 20, 3) := by decide +kernel
theorem dX4_ripple_108 : decode cX4_ripple 108 = .ok (.invokevirtual 62, 3) := by decide +kernel
theorem dX4_ripple_111 : decode cX4_ripple 111 = .ok (.bipush 100, 2) := by decide +kernel
theorem dX4_ripple_113 : decode cX4_ripple 113 = .ok (.iload 5, 2) := by decide +kernel
theorem dX4_ripple_115 : decode cX4_ripple 115 = .ok (.imul, 1) := by decide +kernel
theorem dX4_ripple_116 : decode cX4_ripple 116 = .ok (.iload 6, 2) := by decide +kernel
theorem dX4_ripple_118 : decode cX4_ripple 118 = .ok (.iadd, 1) := by decide +kernel
theorem dX4_ripple_119 : decode cX4_ripple 119 = .ok (.ireturn, 1) := by decide +kernel
theorem dX4_ripple_120 : decode cX4_ripple 120 = .ok (.iinc 6 1, 3) := by decide +kernel
theorem dX4_ripple_123 : decode cX4_ripple 123 = .ok (.goto (-75), 3) := by decide +kernel
theorem dX4_ripple_126 : decode cX4_ripple 126 = .ok (.iinc 5 1, 3) := by decide +kernel
theorem dX4_ripple_129 : decode cX4_ripple 129 = .ok (.goto (-100), 3) := by decide +kernel
theorem dX4_ripple_132 : decode cX4_ripple 132 = .ok (.iinc 4 1, 3) := by decide +kernel
theorem dX4_ripple_135 : decode cX4_ripple 135 = .ok (.goto (-122), 3) := by decide +kernel
theorem dX4_ripple_138 : decode cX4_ripple 138 = .ok (.bipush (-9), 2) := by decide +kernel
theorem dX4_ripple_140 : decode cX4_ripple 140 = .ok (.ireturn, 1) := by decide +kernel
theorem dX4_rewrites_0 : decode cX4_rewrites 0 = .ok (.aload_n 3, 1) := by decide +kernel
theorem dX4_rewrites_1 : decode cX4_rewrites 1 = .ok (.iload 4, 2) := by decide +kernel
theorem dX4_rewrites_3 : decode cX4_rewrites 3 = .ok (.invokevirtual 65, 3) := by decide +kernel
theorem dX4_rewrites_6 : decode cX4_rewrites 6 = .ok (.astore 5, 2) := by decide +kernel
theorem dX4_rewrites_8 : decode cX4_rewrites 8 = .ok (.aload_n 3, 1) := by decide +kernel
theorem dX4_rewrites_9 : decode cX4_rewrites 9 = .ok (.iconst 1, 1) := by decide +kernel
theorem dX4_rewrites_10 : decode cX4_rewrites 10 = .ok (.iload 4, 2) := by decide +kernel
theorem dX4_rewrites_12 : decode cX4_rewrites 12 = .ok (.isub, 1) := by decide +kernel
theorem dX4_rewrites_13 : decode cX4_rewrites 13 = .ok (.invokevirtual 65, 3) := by decide +kernel
theorem dX4_rewrites_16 : decode cX4_rewrites 16 = .ok (.astore 6, 2) := by decide +kernel
theorem dX4_rewrites_18 : decode cX4_rewrites 18 = .ok (.aload_n 0, 1) := by decide +kernel
theorem dX4_rewrites_19 : decode cX4_rewrites 19 = .ok (.getfield 28, 3) := by decide +kernel
theorem dX4_rewrites_22 : decode cX4_rewrites 22 = .ok (.aload 5, 2) := by decide +kernel
theorem dX4_rewrites_24 : decode cX4_rewrites 24 = .ok (.aload_n 1, 1) := by decide +kernel
theorem dX4_rewrites_25 : decode cX4_rewrites 25 = .ok (.iload_n 2, 1) := by decide +kernel
theorem dX4_rewrites_26 : decode cX4_rewrites 26 = .ok (.bipush (-9), 2) := by decide +kernel
theorem dX4_rewrites_28 : decode cX4_rewrites 28 = .ok (.invokevirtual 69, 3) := by decide +kernel
theorem dX4_rewrites_31 : decode cX4_rewrites 31 = .ok (.ifCond .eq 35, 3) := by decide +kernel
theorem dX4_rewrites_34 : decode cX4_rewrites 34 = .ok (.aload 5, 2) := by decide +kernel
theorem dX4_rewrites_36 : decode cX4_rewrites 36 = .ok (.aload 6, 2) := by decide +kernel
theorem dX4_rewrites_38 : decode cX4_rewrites 38 = .ok (.invokestatic 75, 3) := by decide +kernel
theorem dX4_rewrites_41 : decode cX4_rewrites 41 = .ok (.ifCond .eq 25, 3) := by decide +kernel
theorem dX4_rewrites_44 : decode cX4_rewrites 44 = .ok (.aload_n 0, 1) := by decide +kernel
theorem dX4_rewrites_45 : decode cX4_rewrites 45 = .ok (.getfield 28, 3) := by decide +kernel
theorem dX4_rewrites_48 : decode cX4_rewrites 48 = .ok (.aload 6, 2) := by decide +kernel
theorem dX4_rewrites_50 : decode cX4_rewrites 50 = .ok (.aload_n 1, 1) := by decide +kernel
theorem dX4_rewrites_51 : decode cX4_rewrites 51 = .ok (.iload_n 2, 1) := by decide +kernel
theorem dX4_rewrites_52 : decode cX4_rewrites 52 = .ok (.aload_n 0, 1) := by decide +kernel
theorem dX4_rewrites_53 : decode cX4_rewrites 53 = .ok (.getfield 20, 3) := by decide +kernel
theorem dX4_rewrites_56 : decode cX4_rewrites 56 = .ok (.invokevirtual 79, 3) := by decide +kernel
theorem dX4_rewrites_59 : decode cX4_rewrites 59 = .ok (.ifCond .eq 7, 3) := by decide +kernel
theorem dX4_rewrites_62 : decode cX4_rewrites 62 = .ok (.iconst 1, 1) := by decide +kernel
theorem dX4_rewrites_63 : decode cX4_rewrites 63 = .ok (.goto 4, 3) := by decide +kernel
theorem dX4_rewrites_66 : decode cX4_rewrites 66 = .ok (.iconst 0, 1) := by decide +kernel
theorem dX4_rewrites_67 : decode cX4_rewrites 67 = .ok (.ireturn, 1) := by decide +kernel
theorem dX4_isUsable_0 : decode cX4_isUsable 0 = .ok (.aload_n 0, 1) := by decide +kernel
theorem dX4_isUsable_1 : decode cX4_isUsable 1 = .ok (.getfield 55, 3) := by decide +kernel
theorem dX4_isUsable_4 : decode cX4_isUsable 4 = .ok (.iconst 1, 1) := by decide +kernel
theorem dX4_isUsable_5 : decode cX4_isUsable 5 = .ok (.if_icmp .ne 16, 3) := by decide +kernel
theorem dX4_isUsable_8 : decode cX4_isUsable 8 = .ok (.aload_n 0, 1) := by decide +kernel
theorem dX4_isUsable_9 : decode cX4_isUsable 9 = .ok (.getfield 83, 3) := by decide +kernel
theorem dX4_isUsable_12 : decode cX4_isUsable 12 = .ok (.iconst 0, 1) := by decide +kernel
theorem dX4_isUsable_13 : decode cX4_isUsable 13 = .ok (.iaload, 1) := by decide +kernel
theorem dX4_isUsable_14 : decode cX4_isUsable 14 = .ok (.bipush 120, 2) := by decide +kernel
theorem dX4_isUsable_16 : decode cX4_isUsable 16 = .ok (.if_icmp .lt 5, 3) := by decide +kernel
theorem dX4_isUsable_19 : decode cX4_isUsable 19 = .ok (.iconst 0, 1) := by decide +kernel
theorem dX4_isUsable_20 : decode cX4_isUsable 20 = .ok (.ireturn, 1) := by decide +kernel
theorem dX4_isUsable_21 : decode cX4_isUsable 21 = .ok (.iconst 0, 1) := by decide +kernel
theorem dX4_isUsable_22 : decode cX4_isUsable 22 = .ok (.istore_n 2, 1) := by decide +kernel
theorem dX4_isUsable_23 : decode cX4_isUsable 23 = .ok (.iload_n 2, 1) := by decide +kernel
theorem dX4_isUsable_24 : decode cX4_isUsable 24 = .ok (.iconst 3, 1) := by decide +kernel
theorem dX4_isUsable_25 : decode cX4_isUsable 25 = .ok (.if_icmp .ge 33, 3) := by decide +kernel
theorem dX4_isUsable_28 : decode cX4_isUsable 28 = .ok (.aload_n 1, 1) := by decide +kernel
theorem dX4_isUsable_29 : decode cX4_isUsable 29 = .ok (.bipush 120, 2) := by decide +kernel
theorem dX4_isUsable_31 : decode cX4_isUsable 31 = .ok (.iload_n 2, 1) := by decide +kernel
theorem dX4_isUsable_32 : decode cX4_isUsable 32 = .ok (.iadd, 1) := by decide +kernel
theorem dX4_isUsable_33 : decode cX4_isUsable 33 = .ok (.invokevirtual 87, 3) := by decide +kernel
theorem dX4_isUsable_36 : decode cX4_isUsable 36 = .ok (.ifCond .eq 16, 3) := by decide +kernel
theorem dX4_isUsable_39 : decode cX4_isUsable 39 = .ok (.aload_n 0, 1) := by decide +kernel
theorem dX4_isUsable_40 : decode cX4_isUsable 40 = .ok (.bipush 120, 2) := by decide +kernel
theorem dX4_isUsable_42 : decode cX4_isUsable 42 = .ok (.iload_n 2, 1) := by decide +kernel
theorem dX4_isUsable_43 : decode cX4_isUsable 43 = .ok (.iadd, 1) := by decide +kernel
theorem dX4_isUsable_44 : decode cX4_isUsable 44 = .ok (.invokevirtual 87, 3) := by decide +kernel
theorem dX4_isUsable_47 : decode cX4_isUsable 47 = .ok (.ifCond .ne 5, 3) := by decide +kernel
theorem dX4_isUsable_50 : decode cX4_isUsable 50 = .ok (.iconst 0, 1) := by decide +kernel
theorem dX4_isUsable_51 : decode cX4_isUsable 51 = .ok (.ireturn, 1) := by decide +kernel
theorem dX4_isUsable_52 : decode cX4_isUsable 52 = .ok (.iinc 2 1, 3) := by decide +kernel
theorem dX4_isUsable_55 : decode cX4_isUsable 55 = .ok (.goto (-32), 3) := by decide +kernel
theorem dX4_isUsable_58 : decode cX4_isUsable 58 = .ok (.iconst 1, 1) := by decide +kernel
theorem dX4_isUsable_59 : decode cX4_isUsable 59 = .ok (.ireturn, 1) := by decide +kernel
theorem dX5_init_0 : decode cX5_init 0 = .ok (.aload_n 0, 1) := by decide +kernel
theorem dX5_init_1 : decode cX5_init 1 = .ok (.invokespecial 3, 3) := by decide +kernel
theorem dX5_init_4 : decode cX5_init 4 = .ok (.aload_n 0, 1) := by decide +kernel
theorem dX5_init_5 : decode cX5_init 5 = .ok (.iconst 3, 1) := by decide +kernel
theorem dX5_init_6 : decode cX5_init 6 = .ok (.newarray .int, 2) := by decide +kernel
theorem dX5_init_8 : decode cX5_init 8 = .ok (.putfield 9, 3) := by decide +kernel
theorem dX5_init_11 : decode cX5_init 11 = .ok (.aload_n 0, 1) := by decide +kernel
theorem dX5_init_12 : decode cX5_init 12 = .ok (.aload_n 1, 1) := by decide +kernel
theorem dX5_init_13 : decode cX5_init 13 = .ok (.putfield 15, 3) := by decide +kernel
theorem dX5_init_16 : decode cX5_init 16 = .ok (.return_, 1) := by decide +kernel
theorem dX5_matches_0 : decode cX5_matches 0 = .ok (.aload_n 0, 1) := by decide +kernel
theorem dX5_matches_1 : decode cX5_matches 1 = .ok (.getfield 9, 3) := by decide +kernel
theorem dX5_matches_4 : decode cX5_matches 4 = .ok (.iconst 0, 1) := by decide +kernel
theorem dX5_matches_5 : decode cX5_matches 5 = .ok (.bipush (-9), 2) := by decide +kernel
theorem dX5_matches_7 : decode cX5_matches 7 = .ok (.iastore, 1) := by decide +kernel
theorem dX5_matches_8 : decode cX5_matches 8 = .ok (.aload_n 0, 1) := by decide +kernel
theorem dX5_matches_9 : decode cX5_matches 9 = .ok (.getfield 9, 3) := by decide +kernel
theorem dX5_matches_12 : decode cX5_matches 12 = .ok (.iconst 1, 1) := by decide +kernel
theorem dX5_matches_13 : decode cX5_matches 13 = .ok (.bipush (-9), 2) := by decide +kernel
theorem dX5_matches_15 : decode cX5_matches 15 = .ok (.iastore, 1) := by decide +kernel
theorem dX5_matches_16 : decode cX5_matches 16 = .ok (.aload_n 0, 1) := by decide +kernel
theorem dX5_matches_17 : decode cX5_matches 17 = .ok (.getfield 9, 3) := by decide +kernel
theorem dX5_matches_20 : decode cX5_matches 20 = .ok (.iconst 2, 1) := by decide +kernel
theorem dX5_matches_21 : decode cX5_matches 21 = .ok (.bipush (-9), 2) := by decide +kernel
theorem dX5_matches_23 : decode cX5_matches 23 = .ok (.iastore, 1) := by decide +kernel
theorem dX5_matches_24 : decode cX5_matches 24 = .ok (.iload_n 3, 1) := by decide +kernel
theorem dX5_matches_25 : decode cX5_matches 25 = .ok (.istore 5, 2) := by decide +kernel
theorem dX5_matches_27 : decode cX5_matches 27 = .ok (.iconst 0, 1) := by decide +kernel
theorem dX5_matches_28 : decode cX5_matches 28 = .ok (.istore 6, 2) := by decide +kernel
theorem dX5_matches_30 : decode cX5_matches 30 = .ok (.iload 6, 2) := by decide +kernel
theorem dX5_matches_32 : decode cX5_matches 32 = .ok (.aload_n 1, 1) := by decide +kernel
theorem dX5_matches_33 : decode cX5_matches 33 = .ok (.getfield 19, 3) := by decide +kernel
theorem dX5_matches_36 : decode cX5_matches 36 = .ok (.if_icmp .ge 131, 3) := by decide +kernel
theorem dX5_matches_39 : decode cX5_matches 39 = .ok (.iload 5, 2) := by decide +kernel
theorem dX5_matches_41 : decode cX5_matches 41 = .ok (.ifCond .lt 12, 3) := by decide +kernel
theorem dX5_matches_44 : decode cX5_matches 44 = .ok (.iload 5, 2) := by decide +kernel
theorem dX5_matches_46 : decode cX5_matches 46 = .ok (.aload_n 2, 1) := by decide +kernel
theorem dX5_matches_47 : decode cX5_matches 47 = .ok (.getfield 19, 3) := by decide +kernel
theorem dX5_matches_50 : decode cX5_matches 50 = .ok (.if_icmp .lt 5, 3) := by decide +kernel
theorem dX5_matches_53 : decode cX5_matches 53 = .ok (.iconst 0, 1) := by decide +kernel
theorem dX5_matches_54 : decode cX5_matches 54 = .ok (.ireturn, 1) := by decide +kernel
theorem dX5_matches_55 : decode cX5_matches 55 = .ok (.aload_n 1, 1) := by decide +kernel
theorem dX5_matches_56 : decode cX5_matches 56 = .ok (.getfield 25, 3) := by decide +kernel
theorem dX5_matches_59 : decode cX5_matches 59 = .ok (.iload 6, 2) := by decide +kernel
theorem dX5_matches_61 : decode cX5_matches 61 = .ok (.iaload, 1) := by decide +kernel
theorem dX5_matches_62 : decode cX5_matches 62 = .ok (.istore 7, 2) := by decide +kernel
theorem dX5_matches_64 : decode cX5_matches 64 = .ok (.iload 7, 2) := by decide +kernel
theorem dX5_matches_66 : decode cX5_matches 66 = .ok (.bipush 120, 2) := by decide +kernel
theorem dX5_matches_68 : decode cX5_matches 68 = .ok (.isub, 1) := by decide +kernel
theorem dX5_matches_69 : decode cX5_matches 69 = .ok (.istore 8, 2) := by decide +kernel
theorem dX5_matches_71 : decode cX5_matches 71 = .ok (.iload 8, 2) := by decide +kernel
theorem dX5_matches_73 : decode cX5_matches 73 = .ok (.ifCond .lt 16, 3) := by decide +kernel
theorem dX5_matches_76 : decode cX5_matches 76 = .ok (.iload 8, 2) := by decide +kernel
theorem dX5_matches_78 : decode cX5_matches 78 = .ok (.iconst 3, 1) := by decide +kernel
theorem dX5_matches_79 : decode cX5_matches 79 = .ok (.if_icmp .ge 10, 3) := by decide +kernel
theorem dX5_matches_82 : decode cX5_matches 82 = .ok (.iload 8, 2) := by decide +kernel
theorem dX5_matches_84 : decode cX5_matches 84 = .ok (.iload 4, 2) := by decide +kernel
theorem dX5_matches_86 : decode cX5_matches 86 = .ok (.if_icmp .ne 23, 3) := by decide +kernel
theorem dX5_matches_89 : decode cX5_matches 89 = .ok (.iload 7, 2) := by decide +kernel
theorem dX5_matches_91 : decode cX5_matches 91 = .ok (.aload_n 2, 1) := by decide +kernel
theorem dX5_matches_92 : decode cX5_matches 92 = .ok (.getfield 25, 3) := by decide +kernel
theorem dX5_matches_95 : decode cX5_matches 95 = .ok (.iload 5, 2) := by decide +kernel
theorem dX5_matches_97 : decode cX5_matches 97 = .ok (.iaload, 1) := by decide +kernel
theorem dX5_matches_98 : decode cX5_matches 98 = .ok (.if_icmp .eq 5, 3) := by decide +kernel
theorem dX5_matches_101 : decode cX5_matches 101 = .ok (.iconst 0, 1) := by decide +kernel
theorem dX5_matches_102 : decode cX5_matches 102 = .ok (.ireturn, 1) := by decide +kernel
theorem dX5_matches_103 : decode cX5_matches 103 = .ok (.iinc 5 1, 3) := by decide +kernel
theorem dX5_matches_106 : decode cX5_matches 106 = .ok (.goto 55, 3) := by decide +kernel
theorem dX5_matches_109 : decode cX5_matches 109 = .ok (.aload_n 0, 1) := by decide +kernel
theorem dX5_matches_110 : decode cX5_matches 110 = .ok (.getfield 9, 3) := by decide +kernel
theorem dX5_matches_113 : decode cX5_matches 113 = .ok (.iload 8, 2) := by decide +kernel
theorem dX5_matches_115 : decode cX5_matches 115 = .ok (.iaload, 1) := by decide +kernel
theorem dX5_matches_116 : decode cX5_matches 116 = .ok (.bipush (-9), 2) := by decide +kernel
theorem dX5_matches_118 : decode cX5_matches 118 = .ok (.if_icmp .ne 15, 3) := by decide +kernel
theorem dX5_matches_121 : decode cX5_matches 121 = .ok (.aload_n 0, 1) := by decide +kernel
theorem dX5_matches_122 : decode cX5_matches 122 = .ok (.getfield 9, 3) := by decide +kernel
theorem dX5_matches_125 : decode cX5_matches 125 = .ok (.iload 8, 2) := by decide +kernel
theorem dX5_matches_127 : decode cX5_matches 127 = .ok (.iload 5, 2) := by decide +kernel
theorem dX5_matches_129 : decode cX5_matches 129 = .ok (.iastore, 1) := by decide +kernel
theorem dX5_matches_130 : decode cX5_matches 130 = .ok (.goto 22, 3) := by decide +kernel
theorem dX5_matches_133 : decode cX5_matches 133 = .ok (.aload_n 2, 1) := by decide +kernel
theorem dX5_matches_134 : decode cX5_matches 134 = .ok (.aload_n 0, 1) := by decide +kernel
theorem dX5_matches_135 : decode cX5_matches 135 = .ok (.getfield 9, 3) := by decide +kernel
theorem dX5_matches_138 : decode cX5_matches 138 = .ok (.iload 8, 2) := by decide +kernel
theorem dX5_matches_140 : decode cX5_matches 140 = .ok (.iaload, 1) := by decide +kernel
theorem dX5_matches_141 : decode cX5_matches 141 = .ok (.aload_n 2, 1) := by decide +kernel
theorem dX5_matches_142 : decode cX5_matches 142 = .ok (.iload 5, 2) := by decide +kernel
theorem dX5_matches_144 : decode cX5_matches 144 = .ok (.invokevirtual 28, 3) := by decide +kernel
theorem dX5_matches_147 : decode cX5_matches 147 = .ok (.ifCond .ne 5, 3) := by decide +kernel
theorem dX5_matches_150 : decode cX5_matches 150 = .ok (.iconst 0, 1) := by decide +kernel
theorem dX5_matches_151 : decode cX5_matches 151 = .ok (.ireturn, 1) := by decide +kernel
theorem dX5_matches_152 : decode cX5_matches 152 = .ok (.aload_n 2, 1) := by decide +kernel
theorem dX5_matches_153 : decode cX5_matches 153 = .ok (.getfield 32, 3) := by decide +kernel
theorem dX5_matches_156 : decode cX5_matches 156 = .ok (.iload 5, 2) := by decide +kernel
theorem dX5_matches_158 : decode cX5_matches 158 = .ok (.iaload, 1) := by decide +kernel
theorem dX5_matches_159 : decode cX5_matches 159 = .ok (.istore 5, 2) := by decide +kernel
theorem dX5_matches_161 : decode cX5_matches 161 = .ok (.iinc 6 1, 3) := by decide +kernel
theorem dX5_matches_164 : decode cX5_matches 164 = .ok (.goto (-134), 3) := by decide +kernel
theorem dX5_matches_167 : decode cX5_matches 167 = .ok (.iconst 1, 1) := by decide +kernel
theorem dX5_matches_168 : decode cX5_matches 168 = .ok (.ireturn, 1) := by decide +kernel
theorem dX5_firstMatch_0 : decode cX5_firstMatch 0 = .ok (.iconst 0, 1) := by decide +kernel
theorem dX5_firstMatch_1 : decode cX5_firstMatch 1 = .ok (.istore 4, 2) := by decide +kernel
theorem dX5_firstMatch_3 : decode cX5_firstMatch 3 = .ok (.iload 4, 2) := by decide +kernel
theorem dX5_firstMatch_5 : decode cX5_firstMatch 5 = .ok (.aload_n 2, 1) := by decide +kernel
theorem dX5_firstMatch_6 : decode cX5_firstMatch 6 = .ok (.getfield 19, 3) := by decide +kernel
theorem dX5_firstMatch_9 : decode cX5_firstMatch 9 = .ok (.if_icmp .ge 24, 3) := by decide +kernel
theorem dX5_firstMatch_12 : decode cX5_firstMatch 12 = .ok (.aload_n 0, 1) := by decide +kernel
theorem dX5_firstMatch_13 : decode cX5_firstMatch 13 = .ok (.aload_n 1, 1) := by decide +kernel
theorem dX5_firstMatch_14 : decode cX5_firstMatch 14 = .ok (.aload_n 2, 1) := by decide +kernel
theorem dX5_firstMatch_15 : decode cX5_firstMatch 15 = .ok (.iload 4, 2) := by decide +kernel
theorem dX5_firstMatch_17 : decode cX5_firstMatch 17 = .ok (.iload_n 3, 1) := by decide +kernel
theorem dX5_firstMatch_18 : decode cX5_firstMatch 18 = .ok (.invokevirtual 35, 3) := by decide +kernel
theorem dX5_firstMatch_21 : decode cX5_firstMatch 21 = .ok (.ifCond .eq 6, 3) := by decide +kernel
theorem dX5_firstMatch_24 : decode cX5_firstMatch 24 = .ok (.iload 4, 2) := by decide +kernel
theorem dX5_firstMatch_26 : decode cX5_firstMatch 26 = .ok (.ireturn, 1) := by decide +kernel
theorem dX5_firstMatch_27 : decode cX5_firstMatch 27 = .ok (.iinc 4 1, 3) := by decide +kernel
theorem dX5_firstMatch_30 : decode cX5_firstMatch 30 = .ok (.goto (-27), 3) := by decide +kernel
theorem dX5_firstMatch_33 : decode cX5_firstMatch 33 = .ok (.bipush (-9), 2) := by decide +kernel
theorem dX5_firstMatch_35 : decode cX5_firstMatch 35 = .ok (.ireturn, 1) := by decide +kernel
theorem dX5_replace_0 : decode cX5_replace 0 = .ok (.iload_n 3, 1) := by decide +kernel
theorem dX5_replace_1 : decode cX5_replace 1 = .ok (.ifCond .lt 11, 3) := by decide +kernel
theorem dX5_replace_4 : decode cX5_replace 4 = .ok (.iload_n 3, 1) := by decide +kernel
theorem dX5_replace_5 : decode cX5_replace 5 = .ok (.aload_n 2, 1) := by decide +kernel
theorem dX5_replace_6 : decode cX5_replace 6 = .ok (.getfield 19, 3) := by decide +kernel
theorem dX5_replace_9 : decode cX5_replace 9 = .ok (.if_icmp .lt 5, 3) := by decide +kernel
theorem dX5_replace_12 : decode cX5_replace 12 = .ok (.iconst 0, 1) := by decide +kernel
theorem dX5_replace_13 : decode cX5_replace 13 = .ok (.ireturn, 1) := by decide +kernel
theorem dX5_replace_14 : decode cX5_replace 14 = .ok (.aload 4, 2) := by decide +kernel
theorem dX5_replace_16 : decode cX5_replace 16 = .ok (.invokevirtual 39, 3) := by decide +kernel
theorem dX5_replace_19 : decode cX5_replace 19 = .ok (.aload 4, 2) := by decide +kernel
theorem dX5_replace_21 : decode cX5_replace 21 = .ok (.aload_n 2, 1) := by decide +kernel
theorem dX5_replace_22 : decode cX5_replace 22 = .ok (.iconst 0, 1) := by decide +kernel
theorem dX5_replace_23 : decode cX5_replace 23 = .ok (.iload_n 3, 1) := by decide +kernel
theorem dX5_replace_24 : decode cX5_replace 24 = .ok (.invokevirtual 42, 3) := by decide +kernel
theorem dX5_replace_27 : decode cX5_replace 27 = .ok (.istore 5, 2) := by decide +kernel
theorem dX5_replace_29 : decode cX5_replace 29 = .ok (.iconst 0, 1) := by decide +kernel
theorem dX5_replace_30 : decode cX5_replace 30 = .ok (.istore 6, 2) := by decide +kernel
theorem dX5_replace_32 : decode cX5_replace 32 = .ok (.iload 6, 2) := by decide +kernel
theorem dX5_replace_34 : decode cX5_replace 34 = .ok (.aload_n 1, 1) := by decide +kernel
theorem dX5_replace_35 : decode cX5_replace 35 = .ok (.getfield 19, 3) := by decide +kernel
theorem dX5_replace_38 : decode cX5_replace 38 = .ok (.if_icmp .ge 96, 3) := by decide +kernel
theorem dX5_replace_41 : decode cX5_replace 41 = .ok (.iload 5, 2) := by decide +kernel
theorem dX5_replace_43 : decode cX5_replace 43 = .ok (.ifCond .eq 91, 3) := by decide +kernel
theorem dX5_replace_46 : decode cX5_replace 46 = .ok (.aload_n 1, 1) := by decide +kernel
theorem dX5_replace_47 : decode cX5_replace 47 = .ok (.getfield 25, 3) := by decide +kernel
theorem dX5_replace_50 : decode cX5_replace 50 = .ok (.iload 6, 2) := by decide +kernel
theorem dX5_replace_52 : decode cX5_replace 52 = .ok (.iaload, 1) := by decide +kernel
theorem dX5_replace_53 : decode cX5_replace 53 = .ok (.istore 7, 2) := by decide +kernel
theorem dX5_replace_55 : decode cX5_replace 55 = .ok (.iload 7, 2) := by decide +kernel
theorem dX5_replace_57 : decode cX5_replace 57 = .ok (.bipush 120, 2) := by decide +kernel
theorem dX5_replace_59 : decode cX5_replace 59 = .ok (.isub, 1) := by decide +kernel
theorem dX5_replace_60 : decode cX5_replace 60 = .ok (.istore 8, 2) := by decide +kernel
theorem dX5_replace_62 : decode cX5_replace 62 = .ok (.iload 8, 2) := by decide +kernel
theorem dX5_replace_64 : decode cX5_replace 64 = .ok (.ifCond .lt 19, 3) := by decide +kernel
theorem dX5_replace_67 : decode cX5_replace 67 = .ok (.iload 8, 2) := by decide +kernel
theorem dX5_replace_69 : decode cX5_replace 69 = .ok (.iconst 3, 1) := by decide +kernel
theorem dX5_replace_70 : decode cX5_replace 70 = .ok (.if_icmp .ge 13, 3) := by decide +kernel
theorem dX5_replace_73 : decode cX5_replace 73 = .ok (.aload_n 0, 1) := by decide +kernel
theorem dX5_replace_74 : decode cX5_replace 74 = .ok (.getfield 9, 3) := by decide +kernel
theorem dX5_replace_77 : decode cX5_replace 77 = .ok (.iload 8, 2) := by decide +kernel
theorem dX5_replace_79 : decode cX5_replace 79 = .ok (.iaload, 1) := by decide +kernel
theorem dX5_replace_80 : decode cX5_replace 80 = .ok (.goto 5, 3) := by decide +kernel
theorem dX5_replace_83 : decode cX5_replace 83 = .ok (.bipush (-9), 2) := by decide +kernel
theorem dX5_replace_85 : decode cX5_replace 85 = .ok (.istore 9, 2) := by decide +kernel
theorem dX5_replace_87 : decode cX5_replace 87 = .ok (.iload 9, 2) := by decide +kernel
theorem dX5_replace_89 : decode cX5_replace 89 = .ok (.ifCond .lt 30, 3) := by decide +kernel
theorem dX5_replace_92 : decode cX5_replace 92 = .ok (.iload 9, 2) := by decide +kernel
theorem dX5_replace_94 : decode cX5_replace 94 = .ok (.aload_n 2, 1) := by decide +kernel
theorem dX5_replace_95 : decode cX5_replace 95 = .ok (.getfield 19, 3) := by decide +kernel
theorem dX5_replace_98 : decode cX5_replace 98 = .ok (.if_icmp .ge 21, 3) := by decide +kernel
theorem dX5_replace_101 : decode cX5_replace 101 = .ok (.aload 4, 2) := by decide +kernel
theorem dX5_replace_103 : decode cX5_replace 103 = .ok (.aload_n 2, 1) := by decide +kernel
theorem dX5_replace_104 : decode cX5_replace 104 = .ok (.iload 9, 2) := by decide +kernel
theorem dX5_replace_106 : decode cX5_replace 106 = .ok (.aload_n 2, 1) := by decide +kernel
theorem dX5_replace_107 : decode cX5_replace 107 = .ok (.getfield 32, 3) := by decide +kernel
theorem dX5_replace_110 : decode cX5_replace 110 = .ok (.iload 9, 2) := by decide +kernel
