theorem dX12_counterexample_40 : decode cX12_counterexample 40 = .ok (.if_icmp .gt 36, 3) := by decide +kernel
theorem dX12_counterexample_43 : decode cX12_counterexample 43 = .ok (.aload_n 0, 1) := by decide +kernel
theorem dX12_counterexample_44 : decode cX12_counterexample 44 = .ok (.iload_n 1, 1) := by decide +kernel
theorem dX12_counterexample_45 : decode cX12_counterexample 45 = .ok (.iload_n 2, 1) := by decide +kernel
theorem dX12_counterexample_46 : decode cX12_counterexample 46 = .ok (.iload_n 3, 1) := by decide +kernel
theorem dX12_counterexample_47 : decode cX12_counterexample 47 = .ok (.iload 4, 2) := by decide +kernel
theorem dX12_counterexample_49 : decode cX12_counterexample 49 = .ok (.iload 5, 2) := by decide +kernel
theorem dX12_counterexample_51 : decode cX12_counterexample 51 = .ok (.invokevirtual 207, 3) := by decide +kernel
theorem dX12_counterexample_54 : decode cX12_counterexample 54 = .ok (.ifCond .ne 16, 3) := by decide +kernel
theorem dX12_counterexample_57 : decode cX12_counterexample 57 = .ok (.bipush 9, 2) := by decide +kernel
theorem dX12_counterexample_59 : decode cX12_counterexample 59 = .ok (.iload_n 3, 1) := by decide +kernel
theorem dX12_counterexample_60 : decode cX12_counterexample 60 = .ok (.imul, 1) := by decide +kernel
theorem dX12_counterexample_61 : decode cX12_counterexample 61 = .ok (.iconst 3, 1) := by decide +kernel
theorem dX12_counterexample_62 : decode cX12_counterexample 62 = .ok (.iload 4, 2) := by decide +kernel
theorem dX12_counterexample_64 : decode cX12_counterexample 64 = .ok (.imul, 1) := by decide +kernel
theorem dX12_counterexample_65 : decode cX12_counterexample 65 = .ok (.iadd, 1) := by decide +kernel
theorem dX12_counterexample_66 : decode cX12_counterexample 66 = .ok (.iload 5, 2) := by decide +kernel
theorem dX12_counterexample_68 : decode cX12_counterexample 68 = .ok (.iadd, 1) := by decide +kernel
theorem dX12_counterexample_69 : decode cX12_counterexample 69 = .ok (.ireturn, 1) := by decide +kernel
theorem dX12_counterexample_70 : decode cX12_counterexample 70 = .ok (.iinc 5 1, 3) := by decide +kernel
theorem dX12_counterexample_73 : decode cX12_counterexample 73 = .ok (.goto (-42), 3) := by decide +kernel
theorem dX12_counterexample_76 : decode cX12_counterexample 76 = .ok (.iinc 4 1, 3) := by decide +kernel
theorem dX12_counterexample_79 : decode cX12_counterexample 79 = .ok (.goto (-63), 3) := by decide +kernel
theorem dX12_counterexample_82 : decode cX12_counterexample 82 = .ok (.iinc 3 1, 3) := by decide +kernel
theorem dX12_counterexample_85 : decode cX12_counterexample 85 = .ok (.goto (-83), 3) := by decide +kernel
theorem dX12_counterexample_88 : decode cX12_counterexample 88 = .ok (.bipush (-9), 2) := by decide +kernel
theorem dX12_counterexample_90 : decode cX12_counterexample 90 = .ok (.ireturn, 1) := by decide +kernel
theorem dX12_counter_0 : decode cX12_counter 0 = .ok (.iload_n 1, 1) := by decide +kernel
theorem dX12_counter_1 : decode cX12_counter 1 = .ok (.iconst 0, 1) := by decide +kernel
theorem dX12_counter_2 : decode cX12_counter 2 = .ok (.iconst 2, 1) := by decide +kernel
theorem dX12_counter_3 : decode cX12_counter 3 = .ok (.invokestatic 96, 3) := by decide +kernel
theorem dX12_counter_6 : decode cX12_counter 6 = .ok (.ifCond .ne 6, 3) := by decide +kernel
theorem dX12_counter_9 : decode cX12_counter 9 = .ok (.bipush (-2), 2) := by decide +kernel
theorem dX12_counter_11 : decode cX12_counter 11 = .ok (.ireturn, 1) := by decide +kernel
theorem dX12_counter_12 : decode cX12_counter 12 = .ok (.aload_n 0, 1) := by decide +kernel
theorem dX12_counter_13 : decode cX12_counter 13 = .ok (.getfield 164, 3) := by decide +kernel
theorem dX12_counter_16 : decode cX12_counter 16 = .ok (.ifCond .ne 6, 3) := by decide +kernel
theorem dX12_counter_19 : decode cX12_counter 19 = .ok (.bipush (-3), 2) := by decide +kernel
theorem dX12_counter_21 : decode cX12_counter 21 = .ok (.ireturn, 1) := by decide +kernel
theorem dX12_counter_22 : decode cX12_counter 22 = .ok (.aload_n 0, 1) := by decide +kernel
theorem dX12_counter_23 : decode cX12_counter 23 = .ok (.iconst 0, 1) := by decide +kernel
theorem dX12_counter_24 : decode cX12_counter 24 = .ok (.iconst 1, 1) := by decide +kernel
theorem dX12_counter_25 : decode cX12_counter 25 = .ok (.invokevirtual 218, 3) := by decide +kernel
theorem dX12_counter_28 : decode cX12_counter 28 = .ok (.istore_n 2, 1) := by decide +kernel
theorem dX12_counter_29 : decode cX12_counter 29 = .ok (.iload_n 2, 1) := by decide +kernel
theorem dX12_counter_30 : decode cX12_counter 30 = .ok (.bipush (-9), 2) := by decide +kernel
theorem dX12_counter_32 : decode cX12_counter 32 = .ok (.if_icmp .ne 8, 3) := by decide +kernel
theorem dX12_counter_35 : decode cX12_counter 35 = .ok (.bipush (-9), 2) := by decide +kernel
theorem dX12_counter_37 : decode cX12_counter 37 = .ok (.goto 30, 3) := by decide +kernel
theorem dX12_counter_40 : decode cX12_counter 40 = .ok (.iload_n 1, 1) := by decide +kernel
theorem dX12_counter_41 : decode cX12_counter 41 = .ok (.ifCond .ne 10, 3) := by decide +kernel
theorem dX12_counter_44 : decode cX12_counter 44 = .ok (.iload_n 2, 1) := by decide +kernel
theorem dX12_counter_45 : decode cX12_counter 45 = .ok (.bipush 9, 2) := by decide +kernel
theorem dX12_counter_47 : decode cX12_counter 47 = .ok (.idiv, 1) := by decide +kernel
theorem dX12_counter_48 : decode cX12_counter 48 = .ok (.goto 19, 3) := by decide +kernel
theorem dX12_counter_51 : decode cX12_counter 51 = .ok (.iload_n 1, 1) := by decide +kernel
theorem dX12_counter_52 : decode cX12_counter 52 = .ok (.iconst 1, 1) := by decide +kernel
theorem dX12_counter_53 : decode cX12_counter 53 = .ok (.if_icmp .ne 11, 3) := by decide +kernel
theorem dX12_counter_56 : decode cX12_counter 56 = .ok (.iload_n 2, 1) := by decide +kernel
theorem dX12_counter_57 : decode cX12_counter 57 = .ok (.iconst 3, 1) := by decide +kernel
theorem dX12_counter_58 : decode cX12_counter 58 = .ok (.idiv, 1) := by decide +kernel
theorem dX12_counter_59 : decode cX12_counter 59 = .ok (.iconst 3, 1) := by decide +kernel
theorem dX12_counter_60 : decode cX12_counter 60 = .ok (.irem, 1) := by decide +kernel
theorem dX12_counter_61 : decode cX12_counter 61 = .ok (.goto 6, 3) := by decide +kernel
theorem dX12_counter_64 : decode cX12_counter 64 = .ok (.iload_n 2, 1) := by decide +kernel
theorem dX12_counter_65 : decode cX12_counter 65 = .ok (.iconst 3, 1) := by decide +kernel
theorem dX12_counter_66 : decode cX12_counter 66 = .ok (.irem, 1) := by decide +kernel
theorem dX12_counter_67 : decode cX12_counter 67 = .ok (.ireturn, 1) := by decide +kernel
theorem dX12_longOf_0 : decode cX12_longOf 0 = .ok (.aload_n 0, 1) := by decide +kernel
theorem dX12_longOf_1 : decode cX12_longOf 1 = .ok (.getfield 55, 3) := by decide +kernel
theorem dX12_longOf_4 : decode cX12_longOf 4 = .ok (.iload_n 1, 1) := by decide +kernel
theorem dX12_longOf_5 : decode cX12_longOf 5 = .ok (.iconst 1, 1) := by decide +kernel
theorem dX12_longOf_6 : decode cX12_longOf 6 = .ok (.iadd, 1) := by decide +kernel
theorem dX12_longOf_7 : decode cX12_longOf 7 = .ok (.iaload, 1) := by decide +kernel
theorem dX12_longOf_8 : decode cX12_longOf 8 = .ok (.aload_n 0, 1) := by decide +kernel
theorem dX12_longOf_9 : decode cX12_longOf 9 = .ok (.getfield 55, 3) := by decide +kernel
theorem dX12_longOf_12 : decode cX12_longOf 12 = .ok (.iload_n 1, 1) := by decide +kernel
theorem dX12_longOf_13 : decode cX12_longOf 13 = .ok (.iaload, 1) := by decide +kernel
theorem dX12_longOf_14 : decode cX12_longOf 14 = .ok (.isub, 1) := by decide +kernel
theorem dX12_longOf_15 : decode cX12_longOf 15 = .ok (.ireturn, 1) := by decide +kernel
theorem dX12_pushes_0 : decode cX12_pushes 0 = .ok (.aload_n 0, 1) := by decide +kernel
theorem dX12_pushes_1 : decode cX12_pushes 1 = .ok (.iload_n 1, 1) := by decide +kernel
theorem dX12_pushes_2 : decode cX12_pushes 2 = .ok (.invokevirtual 221, 3) := by decide +kernel
theorem dX12_pushes_5 : decode cX12_pushes 5 = .ok (.iload_n 2, 1) := by decide +kernel
theorem dX12_pushes_6 : decode cX12_pushes 6 = .ok (.isub, 1) := by decide +kernel
theorem dX12_pushes_7 : decode cX12_pushes 7 = .ok (.istore_n 3, 1) := by decide +kernel
theorem dX12_pushes_8 : decode cX12_pushes 8 = .ok (.iconst 0, 1) := by decide +kernel
theorem dX12_pushes_9 : decode cX12_pushes 9 = .ok (.istore 4, 2) := by decide +kernel
theorem dX12_pushes_11 : decode cX12_pushes 11 = .ok (.iload 4, 2) := by decide +kernel
theorem dX12_pushes_13 : decode cX12_pushes 13 = .ok (.iload_n 3, 1) := by decide +kernel
theorem dX12_pushes_14 : decode cX12_pushes 14 = .ok (.if_icmp .ge 42, 3) := by decide +kernel
theorem dX12_pushes_17 : decode cX12_pushes 17 = .ok (.aload_n 0, 1) := by decide +kernel
theorem dX12_pushes_18 : decode cX12_pushes 18 = .ok (.getfield 52, 3) := by decide +kernel
theorem dX12_pushes_21 : decode cX12_pushes 21 = .ok (.aload_n 0, 1) := by decide +kernel
theorem dX12_pushes_22 : decode cX12_pushes 22 = .ok (.getfield 55, 3) := by decide +kernel
theorem dX12_pushes_25 : decode cX12_pushes 25 = .ok (.aload_n 0, 1) := by decide +kernel
theorem dX12_pushes_26 : decode cX12_pushes 26 = .ok (.getfield 224, 3) := by decide +kernel
theorem dX12_pushes_29 : decode cX12_pushes 29 = .ok (.iaload, 1) := by decide +kernel
theorem dX12_pushes_30 : decode cX12_pushes 30 = .ok (.iload 4, 2) := by decide +kernel
theorem dX12_pushes_32 : decode cX12_pushes 32 = .ok (.iadd, 1) := by decide +kernel
theorem dX12_pushes_33 : decode cX12_pushes 33 = .ok (.aload_n 0, 1) := by decide +kernel
theorem dX12_pushes_34 : decode cX12_pushes 34 = .ok (.getfield 52, 3) := by decide +kernel
theorem dX12_pushes_37 : decode cX12_pushes 37 = .ok (.aload_n 0, 1) := by decide +kernel
theorem dX12_pushes_38 : decode cX12_pushes 38 = .ok (.getfield 55, 3) := by decide +kernel
theorem dX12_pushes_41 : decode cX12_pushes 41 = .ok (.iload_n 1, 1) := by decide +kernel
theorem dX12_pushes_42 : decode cX12_pushes 42 = .ok (.iaload, 1) := by decide +kernel
theorem dX12_pushes_43 : decode cX12_pushes 43 = .ok (.iload_n 2, 1) := by decide +kernel
theorem dX12_pushes_44 : decode cX12_pushes 44 = .ok (.iadd, 1) := by decide +kernel
theorem dX12_pushes_45 : decode cX12_pushes 45 = .ok (.iload 4, 2) := by decide +kernel
theorem dX12_pushes_47 : decode cX12_pushes 47 = .ok (.iadd, 1) := by decide +kernel
theorem dX12_pushes_48 : decode cX12_pushes 48 = .ok (.iaload, 1) := by decide +kernel
theorem dX12_pushes_49 : decode cX12_pushes 49 = .ok (.iastore, 1) := by decide +kernel
theorem dX12_pushes_50 : decode cX12_pushes 50 = .ok (.iinc 4 1, 3) := by decide +kernel
theorem dX12_pushes_53 : decode cX12_pushes 53 = .ok (.goto (-42), 3) := by decide +kernel
theorem dX12_pushes_56 : decode cX12_pushes 56 = .ok (.aload_n 0, 1) := by decide +kernel
theorem dX12_pushes_57 : decode cX12_pushes 57 = .ok (.getfield 55, 3) := by decide +kernel
theorem dX12_pushes_60 : decode cX12_pushes 60 = .ok (.aload_n 0, 1) := by decide +kernel
theorem dX12_pushes_61 : decode cX12_pushes 61 = .ok (.getfield 224, 3) := by decide +kernel
theorem dX12_pushes_64 : decode cX12_pushes 64 = .ok (.iconst 1, 1) := by decide +kernel
theorem dX12_pushes_65 : decode cX12_pushes 65 = .ok (.iadd, 1) := by decide +kernel
theorem dX12_pushes_66 : decode cX12_pushes 66 = .ok (.aload_n 0, 1) := by decide +kernel
theorem dX12_pushes_67 : decode cX12_pushes 67 = .ok (.getfield 55, 3) := by decide +kernel
theorem dX12_pushes_70 : decode cX12_pushes 70 = .ok (.aload_n 0, 1) := by decide +kernel
theorem dX12_pushes_71 : decode cX12_pushes 71 = .ok (.getfield 224, 3) := by decide +kernel
theorem dX12_pushes_74 : decode cX12_pushes 74 = .ok (.iaload, 1) := by decide +kernel
theorem dX12_pushes_75 : decode cX12_pushes 75 = .ok (.iload_n 3, 1) := by decide +kernel
theorem dX12_pushes_76 : decode cX12_pushes 76 = .ok (.iadd, 1) := by decide +kernel
theorem dX12_pushes_77 : decode cX12_pushes 77 = .ok (.iastore, 1) := by decide +kernel
theorem dX12_pushes_78 : decode cX12_pushes 78 = .ok (.aload_n 0, 1) := by decide +kernel
theorem dX12_pushes_79 : decode cX12_pushes 79 = .ok (.dup, 1) := by decide +kernel
theorem dX12_pushes_80 : decode cX12_pushes 80 = .ok (.getfield 224, 3) := by decide +kernel
theorem dX12_pushes_83 : decode cX12_pushes 83 = .ok (.iconst 1, 1) := by decide +kernel
theorem dX12_pushes_84 : decode cX12_pushes 84 = .ok (.iadd, 1) := by decide +kernel
theorem dX12_pushes_85 : decode cX12_pushes 85 = .ok (.putfield 224, 3) := by decide +kernel
theorem dX12_pushes_88 : decode cX12_pushes 88 = .ok (.return_, 1) := by decide +kernel
theorem dX12_pushesSign_0 : decode cX12_pushesSign 0 = .ok (.aload_n 0, 1) := by decide +kernel
theorem dX12_pushesSign_1 : decode cX12_pushesSign 1 = .ok (.getfield 52, 3) := by decide +kernel
theorem dX12_pushesSign_4 : decode cX12_pushesSign 4 = .ok (.aload_n 0, 1) := by decide +kernel
theorem dX12_pushesSign_5 : decode cX12_pushesSign 5 = .ok (.getfield 55, 3) := by decide +kernel
theorem dX12_pushesSign_8 : decode cX12_pushesSign 8 = .ok (.aload_n 0, 1) := by decide +kernel
theorem dX12_pushesSign_9 : decode cX12_pushesSign 9 = .ok (.getfield 224, 3) := by decide +kernel
theorem dX12_pushesSign_12 : decode cX12_pushesSign 12 = .ok (.iaload, 1) := by decide +kernel
theorem dX12_pushesSign_13 : decode cX12_pushesSign 13 = .ok (.iload_n 1, 1) := by decide +kernel
theorem dX12_pushesSign_14 : decode cX12_pushesSign 14 = .ok (.iastore, 1) := by decide +kernel
theorem dX12_pushesSign_15 : decode cX12_pushesSign 15 = .ok (.aload_n 0, 1) := by decide +kernel
theorem dX12_pushesSign_16 : decode cX12_pushesSign 16 = .ok (.getfield 55, 3) := by decide +kernel
theorem dX12_pushesSign_19 : decode cX12_pushesSign 19 = .ok (.aload_n 0, 1) := by decide +kernel
theorem dX12_pushesSign_20 : decode cX12_pushesSign 20 = .ok (.getfield 224, 3) := by decide +kernel
theorem dX12_pushesSign_23 : decode cX12_pushesSign 23 = .ok (.iconst 1, 1) := by decide +kernel
theorem dX12_pushesSign_24 : decode cX12_pushesSign 24 = .ok (.iadd, 1) := by decide +kernel
theorem dX12_pushesSign_25 : decode cX12_pushesSign 25 = .ok (.aload_n 0, 1) := by decide +kernel
theorem dX12_pushesSign_26 : decode cX12_pushesSign 26 = .ok (.getfield 55, 3) := by decide +kernel
theorem dX12_pushesSign_29 : decode cX12_pushesSign 29 = .ok (.aload_n 0, 1) := by decide +kernel
theorem dX12_pushesSign_30 : decode cX12_pushesSign 30 = .ok (.getfield 224, 3) := by decide +kernel
theorem dX12_pushesSign_33 : decode cX12_pushesSign 33 = .ok (.iaload, 1) := by decide +kernel
theorem dX12_pushesSign_34 : decode cX12_pushesSign 34 = .ok (.iconst 1, 1) := by decide +kernel
theorem dX12_pushesSign_35 : decode cX12_pushesSign 35 = .ok (.iadd, 1) := by decide +kernel
theorem dX12_pushesSign_36 : decode cX12_pushesSign 36 = .ok (.iastore, 1) := by decide +kernel
theorem dX12_pushesSign_37 : decode cX12_pushesSign 37 = .ok (.aload_n 0, 1) := by decide +kernel
theorem dX12_pushesSign_38 : decode cX12_pushesSign 38 = .ok (.dup, 1) := by decide +kernel
theorem dX12_pushesSign_39 : decode cX12_pushesSign 39 = .ok (.getfield 224, 3) := by decide +kernel
theorem dX12_pushesSign_42 : decode cX12_pushesSign 42 = .ok (.iconst 1, 1) := by decide +kernel
theorem dX12_pushesSign_43 : decode cX12_pushesSign 43 = .ok (.iadd, 1) := by decide +kernel
theorem dX12_pushesSign_44 : decode cX12_pushesSign 44 = .ok (.putfield 224, 3) := by decide +kernel
theorem dX12_pushesSign_47 : decode cX12_pushesSign 47 = .ok (.return_, 1) := by decide +kernel
theorem dX12_falls_0 : decode cX12_falls 0 = .ok (.aload_n 0, 1) := by decide +kernel
theorem dX12_falls_1 : decode cX12_falls 1 = .ok (.aload_n 0, 1) := by decide +kernel
theorem dX12_falls_2 : decode cX12_falls 2 = .ok (.getfield 224, 3) := by decide +kernel
theorem dX12_falls_5 : decode cX12_falls 5 = .ok (.iconst 1, 1) := by decide +kernel
theorem dX12_falls_6 : decode cX12_falls 6 = .ok (.isub, 1) := by decide +kernel
theorem dX12_falls_7 : decode cX12_falls 7 = .ok (.invokevirtual 221, 3) := by decide +kernel
theorem dX12_falls_10 : decode cX12_falls 10 = .ok (.istore_n 2, 1) := by decide +kernel
theorem dX12_falls_11 : decode cX12_falls 11 = .ok (.iconst 0, 1) := by decide +kernel
theorem dX12_falls_12 : decode cX12_falls 12 = .ok (.istore_n 3, 1) := by decide +kernel
theorem dX12_falls_13 : decode cX12_falls 13 = .ok (.iload_n 3, 1) := by decide +kernel
theorem dX12_falls_14 : decode cX12_falls 14 = .ok (.iload_n 2, 1) := by decide +kernel
theorem dX12_falls_15 : decode cX12_falls 15 = .ok (.if_icmp .ge 40, 3) := by decide +kernel
theorem dX12_falls_18 : decode cX12_falls 18 = .ok (.aload_n 0, 1) := by decide +kernel
theorem dX12_falls_19 : decode cX12_falls 19 = .ok (.getfield 52, 3) := by decide +kernel
theorem dX12_falls_22 : decode cX12_falls 22 = .ok (.aload_n 0, 1) := by decide +kernel
theorem dX12_falls_23 : decode cX12_falls 23 = .ok (.getfield 55, 3) := by decide +kernel
theorem dX12_falls_26 : decode cX12_falls 26 = .ok (.iload_n 1, 1) := by decide +kernel
theorem dX12_falls_27 : decode cX12_falls 27 = .ok (.iaload, 1) := by decide +kernel
theorem dX12_falls_28 : decode cX12_falls 28 = .ok (.iload_n 3, 1) := by decide +kernel
theorem dX12_falls_29 : decode cX12_falls 29 = .ok (.iadd, 1) := by decide +kernel
theorem dX12_falls_30 : decode cX12_falls 30 = .ok (.aload_n 0, 1) := by decide +kernel
theorem dX12_falls_31 : decode cX12_falls 31 = .ok (.getfield 52, 3) := by decide +kernel
theorem dX12_falls_34 : decode cX12_falls 34 = .ok (.aload_n 0, 1) := by decide +kernel
theorem dX12_falls_35 : decode cX12_falls 35 = .ok (.getfield 55, 3) := by decide +kernel
theorem dX12_falls_38 : decode cX12_falls 38 = .ok (.aload_n 0, 1) := by decide +kernel
theorem dX12_falls_39 : decode cX12_falls 39 = .ok (.getfield 224, 3) := by decide +kernel
theorem dX12_falls_42 : decode cX12_falls 42 = .ok (.iconst 1, 1) := by decide +kernel
theorem dX12_falls_43 : decode cX12_falls 43 = .ok (.isub, 1) := by decide +kernel
theorem dX12_falls_44 : decode cX12_falls 44 = .ok (.iaload, 1) := by decide +kernel
theorem dX12_falls_45 : decode cX12_falls 45 = .ok (.iload_n 3, 1) := by decide +kernel
theorem dX12_falls_46 : decode cX12_falls 46 = .ok (.iadd, 1) := by decide +kernel
theorem dX12_falls_47 : decode cX12_falls 47 = .ok (.iaload, 1) := by decide +kernel
theorem dX12_falls_48 : decode cX12_falls 48 = .ok (.iastore, 1) := by decide +kernel
theorem dX12_falls_49 : decode cX12_falls 49 = .ok (.iinc 3 1, 3) := by decide +kernel
theorem dX12_falls_52 : decode cX12_falls 52 = .ok (.goto (-39), 3) := by decide +kernel
theorem dX12_falls_55 : decode cX12_falls 55 = .ok (.aload_n 0, 1) := by decide +kernel
theorem dX12_falls_56 : decode cX12_falls 56 = .ok (.getfield 55, 3) := by decide +kernel
theorem dX12_falls_59 : decode cX12_falls 59 = .ok (.iload_n 1, 1) := by decide +kernel
theorem dX12_falls_60 : decode cX12_falls 60 = .ok (.iconst 1, 1) := by decide +kernel
theorem dX12_falls_61 : decode cX12_falls 61 = .ok (.iadd, 1) := by decide +kernel
theorem dX12_falls_62 : decode cX12_falls 62 = .ok (.aload_n 0, 1) := by decide +kernel
theorem dX12_falls_63 : decode cX12_falls 63 = .ok (.getfield 55, 3) := by decide +kernel
theorem dX12_falls_66 : decode cX12_falls 66 = .ok (.iload_n 1, 1) := by decide +kernel
theorem dX12_falls_67 : decode cX12_falls 67 = .ok (.iaload, 1) := by decide +kernel
theorem dX12_falls_68 : decode cX12_falls 68 = .ok (.iload_n 2, 1) := by decide +kernel
theorem dX12_falls_69 : decode cX12_falls 69 = .ok (.iadd, 1) := by decide +kernel
theorem dX12_falls_70 : decode cX12_falls 70 = .ok (.iastore, 1) := by decide +kernel
theorem dX12_falls_71 : decode cX12_falls 71 = .ok (.aload_n 0, 1) := by decide +kernel
theorem dX12_falls_72 : decode cX12_falls 72 = .ok (.iload_n 1, 1) := by decide +kernel
theorem dX12_falls_73 : decode cX12_falls 73 = .ok (.iconst 1, 1) := by decide +kernel
theorem dX12_falls_74 : decode cX12_falls 74 = .ok (.iadd, 1) := by decide +kernel
theorem dX12_falls_75 : decode cX12_falls 75 = .ok (.putfield 224, 3) := by decide +kernel
theorem dX12_falls_78 : decode cX12_falls 78 = .ok (.return_, 1) := by decide +kernel
theorem dX12_joins_0 : decode cX12_joins 0 = .ok (.aload_n 0, 1) := by decide +kernel
theorem dX12_joins_1 : decode cX12_joins 1 = .ok (.getfield 224, 3) := by decide +kernel
theorem dX12_joins_4 : decode cX12_joins 4 = .ok (.iload_n 2, 1) := by decide +kernel
theorem dX12_joins_5 : decode cX12_joins 5 = .ok (.isub, 1) := by decide +kernel
theorem dX12_joins_6 : decode cX12_joins 6 = .ok (.istore_n 3, 1) := by decide +kernel
theorem dX12_joins_7 : decode cX12_joins 7 = .ok (.aload_n 0, 1) := by decide +kernel
theorem dX12_joins_8 : decode cX12_joins 8 = .ok (.iload_n 1, 1) := by decide +kernel
theorem dX12_joins_9 : decode cX12_joins 9 = .ok (.invokevirtual 227, 3) := by decide +kernel
theorem dX12_joins_12 : decode cX12_joins 12 = .ok (.aload_n 0, 1) := by decide +kernel
theorem dX12_joins_13 : decode cX12_joins 13 = .ok (.getfield 224, 3) := by decide +kernel
theorem dX12_joins_16 : decode cX12_joins 16 = .ok (.iconst 1, 1) := by decide +kernel
theorem dX12_joins_17 : decode cX12_joins 17 = .ok (.isub, 1) := by decide +kernel
theorem dX12_joins_18 : decode cX12_joins 18 = .ok (.istore 4, 2) := by decide +kernel
theorem dX12_joins_20 : decode cX12_joins 20 = .ok (.iload_n 2, 1) := by decide +kernel
theorem dX12_joins_21 : decode cX12_joins 21 = .ok (.istore 5, 2) := by decide +kernel
theorem dX12_joins_23 : decode cX12_joins 23 = .ok (.iload 5, 2) := by decide +kernel
theorem dX12_joins_25 : decode cX12_joins 25 = .ok (.ifCond .le 87, 3) := by decide +kernel
theorem dX12_joins_28 : decode cX12_joins 28 = .ok (.iload_n 3, 1) := by decide +kernel
theorem dX12_joins_29 : decode cX12_joins 29 = .ok (.iload 5, 2) := by decide +kernel
theorem dX12_joins_31 : decode cX12_joins 31 = .ok (.iadd, 1) := by decide +kernel
theorem dX12_joins_32 : decode cX12_joins 32 = .ok (.iconst 1, 1) := by decide +kernel
theorem dX12_joins_33 : decode cX12_joins 33 = .ok (.isub, 1) := by decide +kernel
theorem dX12_joins_34 : decode cX12_joins 34 = .ok (.istore 6, 2) := by decide +kernel
theorem dX12_joins_36 : decode cX12_joins 36 = .ok (.aload_n 0, 1) := by decide +kernel
theorem dX12_joins_37 : decode cX12_joins 37 = .ok (.iload 6, 2) := by decide +kernel
theorem dX12_joins_39 : decode cX12_joins 39 = .ok (.invokevirtual 221, 3) := by decide +kernel
theorem dX12_joins_42 : decode cX12_joins 42 = .ok (.istore 7, 2) := by decide +kernel
theorem dX12_joins_44 : decode cX12_joins 44 = .ok (.iconst 0, 1) := by decide +kernel
theorem dX12_joins_45 : decode cX12_joins 45 = .ok (.istore 8, 2) := by decide +kernel
theorem dX12_joins_47 : decode cX12_joins 47 = .ok (.iload 8, 2) := by decide +kernel
theorem dX12_joins_49 : decode cX12_joins 49 = .ok (.iload 7, 2) := by decide +kernel
theorem dX12_joins_51 : decode cX12_joins 51 = .ok (.if_icmp .ge 41, 3) := by decide +kernel
theorem dX12_joins_54 : decode cX12_joins 54 = .ok (.aload_n 0, 1) := by decide +kernel
theorem dX12_joins_55 : decode cX12_joins 55 = .ok (.getfield 52, 3) := by decide +kernel
theorem dX12_joins_58 : decode cX12_joins 58 = .ok (.aload_n 0, 1) := by decide +kernel
theorem dX12_joins_59 : decode cX12_joins 59 = .ok (.getfield 55, 3) := by decide +kernel
theorem dX12_joins_62 : decode cX12_joins 62 = .ok (.aload_n 0, 1) := by decide +kernel
theorem dX12_joins_63 : decode cX12_joins 63 = .ok (.getfield 224, 3) := by decide +kernel
theorem dX12_joins_66 : decode cX12_joins 66 = .ok (.iaload, 1) := by decide +kernel
theorem dX12_joins_67 : decode cX12_joins 67 = .ok (.iload 8, 2) := by decide +kernel
theorem dX12_joins_69 : decode cX12_joins 69 = .ok (.iadd, 1) := by decide +kernel
theorem dX12_joins_70 : decode cX12_joins 70 = .ok (.aload_n 0, 1) := by decide +kernel
theorem dX12_joins_71 : decode cX12_joins 71 = .ok (.getfield 52, 3) := by decide +kernel
theorem dX12_joins_74 : decode cX12_joins 74 = .ok (.aload_n 0, 1) := by decide +kernel
theorem dX12_joins_75 : decode cX12_joins 75 = .ok (.getfield 55, 3) := by decide +kernel
theorem dX12_joins_78 : decode cX12_joins 78 = .ok (.iload 6, 2) := by decide +kernel
theorem dX12_joins_80 : decode cX12_joins 80 = .ok (.iaload, 1) := by decide +kernel
theorem dX12_joins_81 : decode cX12_joins 81 = .ok (.iload 8, 2) := by decide +kernel
theorem dX12_joins_83 : decode cX12_joins 83 = .ok (.iadd, 1) := by decide +kernel
theorem dX12_joins_84 : decode cX12_joins 84 = .ok (.iaload, 1) := by decide +kernel
theorem dX12_joins_85 : decode cX12_joins 85 = .ok (.iastore, 1) := by decide +kernel
theorem dX12_joins_86 : decode cX12_joins 86 = .ok (.iinc 8 1, 3) := by decide +kernel
theorem dX12_joins_89 : decode cX12_joins 89 = .ok (.goto (-42), 3) := by decide +kernel
theorem dX12_joins_92 : decode cX12_joins 92 = .ok (.aload_n 0, 1) := by decide +kernel
theorem dX12_joins_93 : decode cX12_joins 93 = .ok (.getfield 55, 3) := by decide +kernel
theorem dX12_joins_96 : decode cX12_joins 96 = .ok (.aload_n 0, 1) := by decide +kernel
theorem dX12_joins_97 : decode cX12_joins 97 = .ok (.getfield 224, 3) := by decide +kernel
theorem dX12_joins_100 : decode cX12_joins 100 = .ok (.dup2, 1) := by decide +kernel
theorem dX12_joins_101 : decode cX12_joins 101 = .ok (.iaload, 1) := by decide +kernel
theorem dX12_joins_102 : decode cX12_joins 102 = .ok (.iload 7, 2) := by decide +kernel
theorem dX12_joins_104 : decode cX12_joins 104 = .ok (.iadd, 1) := by decide +kernel
theorem dX12_joins_105 : decode cX12_joins 105 = .ok (.iastore, 1) := by decide +kernel
theorem dX12_joins_106 : decode cX12_joins 106 = .ok (.iinc 5 (-1), 3) := by decide +kernel
theorem dX12_joins_109 : decode cX12_joins 109 = .ok (.goto (-86), 3) := by decide +kernel
theorem dX12_joins_112 : decode cX12_joins 112 = .ok (.aload_n 0, 1) := by decide +kernel
theorem dX12_joins_113 : decode cX12_joins 113 = .ok (.iload 4, 2) := by decide +kernel
theorem dX12_joins_115 : decode cX12_joins 115 = .ok (.iconst 1, 1) := by decide +kernel
theorem dX12_joins_116 : decode cX12_joins 116 = .ok (.iadd, 1) := by decide +kernel
theorem dX12_joins_117 : decode cX12_joins 117 = .ok (.putfield 224, 3) := by decide +kernel
theorem dX12_joins_120 : decode cX12_joins 120 = .ok (.aload_n 0, 1) := by decide +kernel
theorem dX12_joins_121 : decode cX12_joins 121 = .ok (.iload 4, 2) := by decide +kernel
theorem dX12_joins_123 : decode cX12_joins 123 = .ok (.invokevirtual 221, 3) := by decide +kernel
theorem dX12_joins_126 : decode cX12_joins 126 = .ok (.bipush 40, 2) := by decide +kernel
theorem dX12_joins_128 : decode cX12_joins 128 = .ok (.if_icmp .le 5, 3) := by decide +kernel
theorem dX12_joins_131 : decode cX12_joins 131 = .ok (.iconst 0, 1) := by decide +kernel
theorem dX12_joins_132 : decode cX12_joins 132 = .ok (.ireturn, 1) := by decide +kernel
theorem dX12_joins_133 : decode cX12_joins 133 = .ok (.aload_n 0, 1) := by decide +kernel
theorem dX12_joins_134 : decode cX12_joins 134 = .ok (.iload_n 3, 1) := by decide +kernel
theorem dX12_joins_135 : decode cX12_joins 135 = .ok (.invokevirtual 230, 3) := by decide +kernel
theorem dX12_joins_138 : decode cX12_joins 138 = .ok (.iconst 1, 1) := by decide +kernel
theorem dX12_joins_139 : decode cX12_joins 139 = .ok (.ireturn, 1) := by decide +kernel
theorem dX12_bodyFor_0 : decode cX12_bodyFor 0 = .ok (.aload_n 0, 1) := by decide +kernel
theorem dX12_bodyFor_1 : decode cX12_bodyFor 1 = .ok (.getfield 52, 3) := by decide +kernel
theorem dX12_bodyFor_4 : decode cX12_bodyFor 4 = .ok (.aload_n 0, 1) := by decide +kernel
theorem dX12_bodyFor_5 : decode cX12_bodyFor 5 = .ok (.getfield 55, 3) := by decide +kernel
theorem dX12_bodyFor_8 : decode cX12_bodyFor 8 = .ok (.aload_n 0, 1) := by decide +kernel
theorem dX12_bodyFor_9 : decode cX12_bodyFor 9 = .ok (.getfield 224, 3) := by decide +kernel
theorem dX12_bodyFor_12 : decode cX12_bodyFor 12 = .ok (.iconst 1, 1) := by decide +kernel
theorem dX12_bodyFor_13 : decode cX12_bodyFor 13 = .ok (.isub, 1) := by decide +kernel
theorem dX12_bodyFor_14 : decode cX12_bodyFor 14 = .ok (.iaload, 1) := by decide +kernel
theorem dX12_bodyFor_15 : decode cX12_bodyFor 15 = .ok (.iaload, 1) := by decide +kernel
theorem dX12_bodyFor_16 : decode cX12_bodyFor 16 = .ok (.istore_n 2, 1) := by decide +kernel
theorem dX12_bodyFor_17 : decode cX12_bodyFor 17 = .ok (.iload_n 2, 1) := by decide +kernel
theorem dX12_bodyFor_18 : decode cX12_bodyFor 18 = .ok (.bipush 90, 2) := by decide +kernel
theorem dX12_bodyFor_20 : decode cX12_bodyFor 20 = .ok (.if_icmp .ne 5, 3) := by decide +kernel
theorem dX12_bodyFor_23 : decode cX12_bodyFor 23 = .ok (.iconst 0, 1) := by decide +kernel
theorem dX12_bodyFor_24 : decode cX12_bodyFor 24 = .ok (.ireturn, 1) := by decide +kernel
theorem dX12_bodyFor_25 : decode cX12_bodyFor 25 = .ok (.iload_n 2, 1) := by decide +kernel
theorem dX12_bodyFor_26 : decode cX12_bodyFor 26 = .ok (.bipush 83, 2) := by decide +kernel
theorem dX12_bodyFor_28 : decode cX12_bodyFor 28 = .ok (.if_icmp .eq 6, 3) := by decide +kernel
theorem dX12_bodyFor_31 : decode cX12_bodyFor 31 = .ok (.bipush (-9), 2) := by decide +kernel
theorem dX12_bodyFor_33 : decode cX12_bodyFor 33 = .ok (.ireturn, 1) := by decide +kernel
theorem dX12_bodyFor_34 : decode cX12_bodyFor 34 = .ok (.aload_n 0, 1) := by decide +kernel
theorem dX12_bodyFor_35 : decode cX12_bodyFor 35 = .ok (.getfield 52, 3) := by decide +kernel
theorem dX12_bodyFor_38 : decode cX12_bodyFor 38 = .ok (.aload_n 0, 1) := by decide +kernel
theorem dX12_bodyFor_39 : decode cX12_bodyFor 39 = .ok (.getfield 55, 3) := by decide +kernel
theorem dX12_bodyFor_42 : decode cX12_bodyFor 42 = .ok (.aload_n 0, 1) := by decide +kernel
theorem dX12_bodyFor_43 : decode cX12_bodyFor 43 = .ok (.getfield 224, 3) := by decide +kernel
theorem dX12_bodyFor_46 : decode cX12_bodyFor 46 = .ok (.iconst 1, 1) := by decide +kernel
theorem dX12_bodyFor_47 : decode cX12_bodyFor 47 = .ok (.isub, 1) := by decide +kernel
theorem dX12_bodyFor_48 : decode cX12_bodyFor 48 = .ok (.iaload, 1) := by decide +kernel
theorem dX12_bodyFor_49 : decode cX12_bodyFor 49 = .ok (.iconst 1, 1) := by decide +kernel
theorem dX12_bodyFor_50 : decode cX12_bodyFor 50 = .ok (.iadd, 1) := by decide +kernel
theorem dX12_bodyFor_51 : decode cX12_bodyFor 51 = .ok (.iaload, 1) := by decide +kernel
theorem dX12_bodyFor_52 : decode cX12_bodyFor 52 = .ok (.istore_n 3, 1) := by decide +kernel
theorem dX12_bodyFor_53 : decode cX12_bodyFor 53 = .ok (.aload_n 0, 1) := by decide +kernel
theorem dX12_bodyFor_54 : decode cX12_bodyFor 54 = .ok (.getfield 22, 3) := by decide +kernel
theorem dX12_bodyFor_57 : decode cX12_bodyFor 57 = .ok (.iload_n 1, 1) := by decide +kernel
theorem dX12_bodyFor_58 : decode cX12_bodyFor 58 = .ok (.iaload, 1) := by decide +kernel
theorem dX12_bodyFor_59 : decode cX12_bodyFor 59 = .ok (.iconst 1, 1) := by decide +kernel
theorem dX12_bodyFor_60 : decode cX12_bodyFor 60 = .ok (.if_icmp .ne 7, 3) := by decide +kernel
theorem dX12_bodyFor_63 : decode cX12_bodyFor 63 = .ok (.iconst 2, 1) := by decide +kernel
theorem dX12_bodyFor_64 : decode cX12_bodyFor 64 = .ok (.goto 25, 3) := by decide +kernel
theorem dX12_bodyFor_67 : decode cX12_bodyFor 67 = .ok (.iload_n 3, 1) := by decide +kernel
theorem dX12_bodyFor_68 : decode cX12_bodyFor 68 = .ok (.bipush 90, 2) := by decide +kernel
theorem dX12_bodyFor_70 : decode cX12_bodyFor 70 = .ok (.if_icmp .ne 7, 3) := by decide +kernel
theorem dX12_bodyFor_73 : decode cX12_bodyFor 73 = .ok (.iconst 1, 1) := by decide +kernel
theorem dX12_bodyFor_74 : decode cX12_bodyFor 74 = .ok (.goto 15, 3) := by decide +kernel
theorem dX12_bodyFor_77 : decode cX12_bodyFor 77 = .ok (.iload_n 3, 1) := by decide +kernel
theorem dX12_bodyFor_78 : decode cX12_bodyFor 78 = .ok (.bipush 83, 2) := by decide +kernel
theorem dX12_bodyFor_80 : decode cX12_bodyFor 80 = .ok (.if_icmp .ne 7, 3) := by decide +kernel
theorem dX12_bodyFor_83 : decode cX12_bodyFor 83 = .ok (.iconst 2, 1) := by decide +kernel
theorem dX12_bodyFor_84 : decode cX12_bodyFor 84 = .ok (.goto 5, 3) := by decide +kernel
theorem dX12_bodyFor_87 : decode cX12_bodyFor 87 = .ok (.bipush (-9), 2) := by decide +kernel
theorem dX12_bodyFor_89 : decode cX12_bodyFor 89 = .ok (.ireturn, 1) := by decide +kernel
theorem dX12_normalizes_0 : decode cX12_normalizes 0 = .ok (.iload_n 2, 1) := by decide +kernel
theorem dX12_normalizes_1 : decode cX12_normalizes 1 = .ok (.invokestatic 111, 3) := by decide +kernel
theorem dX12_normalizes_4 : decode cX12_normalizes 4 = .ok (.ifCond .eq 50, 3) := by decide +kernel
theorem dX12_normalizes_7 : decode cX12_normalizes 7 = .ok (.iload_n 1, 1) := by decide +kernel
theorem dX12_normalizes_8 : decode cX12_normalizes 8 = .ok (.ifCond .le 46, 3) := by decide +kernel
theorem dX12_normalizes_11 : decode cX12_normalizes 11 = .ok (.aload_n 0, 1) := by decide +kernel
theorem dX12_normalizes_12 : decode cX12_normalizes 12 = .ok (.iload_n 2, 1) := by decide +kernel
theorem dX12_normalizes_13 : decode cX12_normalizes 13 = .ok (.bipush 120, 2) := by decide +kernel
theorem dX12_normalizes_15 : decode cX12_normalizes 15 = .ok (.if_icmp .ne 12, 3) := by decide +kernel
theorem dX12_normalizes_18 : decode cX12_normalizes 18 = .ok (.aload_n 0, 1) := by decide +kernel
theorem dX12_normalizes_19 : decode cX12_normalizes 19 = .ok (.getfield 43, 3) := by decide +kernel
theorem dX12_normalizes_22 : decode cX12_normalizes 22 = .ok (.iload_n 1, 1) := by decide +kernel
theorem dX12_normalizes_23 : decode cX12_normalizes 23 = .ok (.iaload, 1) := by decide +kernel
theorem dX12_normalizes_24 : decode cX12_normalizes 24 = .ok (.goto 9, 3) := by decide +kernel
theorem dX12_normalizes_27 : decode cX12_normalizes 27 = .ok (.aload_n 0, 1) := by decide +kernel
theorem dX12_normalizes_28 : decode cX12_normalizes 28 = .ok (.getfield 46, 3) := by decide +kernel
theorem dX12_normalizes_31 : decode cX12_normalizes 31 = .ok (.iload_n 1, 1) := by decide +kernel
theorem dX12_normalizes_32 : decode cX12_normalizes 32 = .ok (.iaload, 1) := by decide +kernel
theorem dX12_normalizes_33 : decode cX12_normalizes 33 = .ok (.iload_n 2, 1) := by decide +kernel
theorem dX12_normalizes_34 : decode cX12_normalizes 34 = .ok (.bipush 120, 2) := by decide +kernel
theorem dX12_normalizes_36 : decode cX12_normalizes 36 = .ok (.if_icmp .ne 12, 3) := by decide +kernel
theorem dX12_normalizes_39 : decode cX12_normalizes 39 = .ok (.aload_n 0, 1) := by decide +kernel
theorem dX12_normalizes_40 : decode cX12_normalizes 40 = .ok (.getfield 49, 3) := by decide +kernel
theorem dX12_normalizes_43 : decode cX12_normalizes 43 = .ok (.iload_n 1, 1) := by decide +kernel
theorem dX12_normalizes_44 : decode cX12_normalizes 44 = .ok (.iaload, 1) := by decide +kernel
theorem dX12_normalizes_45 : decode cX12_normalizes 45 = .ok (.goto 4, 3) := by decide +kernel
theorem dX12_normalizes_48 : decode cX12_normalizes 48 = .ok (.iconst 0, 1) := by decide +kernel
theorem dX12_normalizes_49 : decode cX12_normalizes 49 = .ok (.invokevirtual 233, 3) := by decide +kernel
theorem dX12_normalizes_52 : decode cX12_normalizes 52 = .ok (.iconst 1, 1) := by decide +kernel
theorem dX12_normalizes_53 : decode cX12_normalizes 53 = .ok (.ireturn, 1) := by decide +kernel
theorem dX12_normalizes_54 : decode cX12_normalizes 54 = .ok (.iload_n 2, 1) := by decide +kernel
theorem dX12_normalizes_55 : decode cX12_normalizes 55 = .ok (.bipush 90, 2) := by decide +kernel
theorem dX12_normalizes_57 : decode cX12_normalizes 57 = .ok (.if_icmp .eq 10, 3) := by decide +kernel
theorem dX12_normalizes_60 : decode cX12_normalizes 60 = .ok (.iload_n 2, 1) := by decide +kernel
theorem dX12_normalizes_61 : decode cX12_normalizes 61 = .ok (.invokestatic 111, 3) := by decide +kernel
theorem dX12_normalizes_64 : decode cX12_normalizes 64 = .ok (.ifCond .eq 10, 3) := by decide +kernel
theorem dX12_normalizes_67 : decode cX12_normalizes 67 = .ok (.aload_n 0, 1) := by decide +kernel
theorem dX12_normalizes_68 : decode cX12_normalizes 68 = .ok (.iload_n 2, 1) := by decide +kernel
theorem dX12_normalizes_69 : decode cX12_normalizes 69 = .ok (.invokevirtual 227, 3) := by decide +kernel
theorem dX12_normalizes_72 : decode cX12_normalizes 72 = .ok (.iconst 1, 1) := by decide +kernel
theorem dX12_normalizes_73 : decode cX12_normalizes 73 = .ok (.ireturn, 1) := by decide +kernel
theorem dX12_normalizes_74 : decode cX12_normalizes 74 = .ok (.iload_n 2, 1) := by decide +kernel
theorem dX12_normalizes_75 : decode cX12_normalizes 75 = .ok (.bipush 83, 2) := by decide +kernel
theorem dX12_normalizes_77 : decode cX12_normalizes 77 = .ok (.if_icmp .ne 10, 3) := by decide +kernel
theorem dX12_normalizes_80 : decode cX12_normalizes 80 = .ok (.aload_n 0, 1) := by decide +kernel
theorem dX12_normalizes_81 : decode cX12_normalizes 81 = .ok (.iload_n 2, 1) := by decide +kernel
theorem dX12_normalizes_82 : decode cX12_normalizes 82 = .ok (.iconst 1, 1) := by decide +kernel
theorem dX12_normalizes_83 : decode cX12_normalizes 83 = .ok (.invokevirtual 236, 3) := by decide +kernel
theorem dX12_normalizes_86 : decode cX12_normalizes 86 = .ok (.ireturn, 1) := by decide +kernel
theorem dX12_normalizes_87 : decode cX12_normalizes 87 = .ok (.iload_n 2, 1) := by decide +kernel
theorem dX12_normalizes_88 : decode cX12_normalizes 88 = .ok (.bipush 97, 2) := by decide +kernel
theorem dX12_normalizes_90 : decode cX12_normalizes 90 = .ok (.isub, 1) := by decide +kernel
theorem dX12_normalizes_91 : decode cX12_normalizes 91 = .ok (.istore_n 3, 1) := by decide +kernel
theorem dX12_normalizes_92 : decode cX12_normalizes 92 = .ok (.aload_n 0, 1) := by decide +kernel
theorem dX12_normalizes_93 : decode cX12_normalizes 93 = .ok (.iload_n 3, 1) := by decide +kernel
theorem dX12_normalizes_94 : decode cX12_normalizes 94 = .ok (.invokevirtual 239, 3) := by decide +kernel
theorem dX12_normalizes_97 : decode cX12_normalizes 97 = .ok (.istore 4, 2) := by decide +kernel
theorem dX12_normalizes_99 : decode cX12_normalizes 99 = .ok (.iload 4, 2) := by decide +kernel
theorem dX12_normalizes_101 : decode cX12_normalizes 101 = .ok (.bipush (-9), 2) := by decide +kernel
theorem dX12_normalizes_103 : decode cX12_normalizes 103 = .ok (.if_icmp .ne 15, 3) := by decide +kernel
theorem dX12_normalizes_106 : decode cX12_normalizes 106 = .ok (.aload_n 0, 1) := by decide +kernel
theorem dX12_normalizes_107 : decode cX12_normalizes 107 = .ok (.iload_n 2, 1) := by decide +kernel
theorem dX12_normalizes_108 : decode cX12_normalizes 108 = .ok (.aload_n 0, 1) := by decide +kernel
theorem dX12_normalizes_109 : decode cX12_normalizes 109 = .ok (.getfield 19, 3) := by decide +kernel
theorem dX12_normalizes_112 : decode cX12_normalizes 112 = .ok (.iload_n 3, 1) := by decide +kernel
theorem dX12_normalizes_113 : decode cX12_normalizes 113 = .ok (.iaload, 1) := by decide +kernel
theorem dX12_normalizes_114 : decode cX12_normalizes 114 = .ok (.invokevirtual 236, 3) := by decide +kernel
theorem dX12_normalizes_117 : decode cX12_normalizes 117 = .ok (.ireturn, 1) := by decide +kernel
theorem dX12_normalizes_118 : decode cX12_normalizes 118 = .ok (.aload_n 0, 1) := by decide +kernel
theorem dX12_normalizes_119 : decode cX12_normalizes 119 = .ok (.dup, 1) := by decide +kernel
theorem dX12_normalizes_120 : decode cX12_normalizes 120 = .ok (.getfield 242, 3) := by decide +kernel
theorem dX12_normalizes_123 : decode cX12_normalizes 123 = .ok (.iconst 1, 1) := by decide +kernel
theorem dX12_normalizes_124 : decode cX12_normalizes 124 = .ok (.iadd, 1) := by decide +kernel
theorem dX12_normalizes_125 : decode cX12_normalizes 125 = .ok (.putfield 242, 3) := by decide +kernel
theorem dX12_normalizes_128 : decode cX12_normalizes 128 = .ok (.aload_n 0, 1) := by decide +kernel
theorem dX12_normalizes_129 : decode cX12_normalizes 129 = .ok (.getfield 242, 3) := by decide +kernel
theorem dX12_normalizes_132 : decode cX12_normalizes 132 = .ok (.bipush 50, 2) := by decide +kernel
theorem dX12_normalizes_134 : decode cX12_normalizes 134 = .ok (.if_icmp .le 5, 3) := by decide +kernel
theorem dX12_normalizes_137 : decode cX12_normalizes 137 = .ok (.iconst 0, 1) := by decide +kernel
theorem dX12_normalizes_138 : decode cX12_normalizes 138 = .ok (.ireturn, 1) := by decide +kernel
theorem dX12_normalizes_139 : decode cX12_normalizes 139 = .ok (.aload_n 0, 1) := by decide +kernel
theorem dX12_normalizes_140 : decode cX12_normalizes 140 = .ok (.bipush 100, 2) := by decide +kernel
theorem dX12_normalizes_142 : decode cX12_normalizes 142 = .ok (.iconst 3, 1) := by decide +kernel
theorem dX12_normalizes_143 : decode cX12_normalizes 143 = .ok (.iload_n 3, 1) := by decide +kernel
theorem dX12_normalizes_144 : decode cX12_normalizes 144 = .ok (.imul, 1) := by decide +kernel
theorem dX12_normalizes_145 : decode cX12_normalizes 145 = .ok (.iadd, 1) := by decide +kernel
theorem dX12_normalizes_146 : decode cX12_normalizes 146 = .ok (.iload 4, 2) := by decide +kernel
theorem dX12_normalizes_148 : decode cX12_normalizes 148 = .ok (.iadd, 1) := by decide +kernel
theorem dX12_normalizes_149 : decode cX12_normalizes 149 = .ok (.aload_n 0, 1) := by decide +kernel
theorem dX12_normalizes_150 : decode cX12_normalizes 150 = .ok (.getfield 28, 3) := by decide +kernel
theorem dX12_normalizes_153 : decode cX12_normalizes 153 = .ok (.iconst 3, 1) := by decide +kernel
theorem dX12_normalizes_154 : decode cX12_normalizes 154 = .ok (.iload_n 3, 1) := by decide +kernel
theorem dX12_normalizes_155 : decode cX12_normalizes 155 = .ok (.imul, 1) := by decide +kernel
theorem dX12_normalizes_156 : decode cX12_normalizes 156 = .ok (.iload 4, 2) := by decide +kernel
theorem dX12_normalizes_158 : decode cX12_normalizes 158 = .ok (.iadd, 1) := by decide +kernel
theorem dX12_normalizes_159 : decode cX12_normalizes 159 = .ok (.iaload, 1) := by decide +kernel
theorem dX12_normalizes_160 : decode cX12_normalizes 160 = .ok (.aload_n 0, 1) := by decide +kernel
theorem dX12_normalizes_161 : decode cX12_normalizes 161 = .ok (.getfield 224, 3) := by decide +kernel
theorem dX12_normalizes_164 : decode cX12_normalizes 164 = .ok (.iconst 1, 1) := by decide +kernel
theorem dX12_normalizes_165 : decode cX12_normalizes 165 = .ok (.isub, 1) := by decide +kernel
theorem dX12_normalizes_166 : decode cX12_normalizes 166 = .ok (.aload_n 0, 1) := by decide +kernel
theorem dX12_normalizes_167 : decode cX12_normalizes 167 = .ok (.getfield 224, 3) := by decide +kernel
theorem dX12_normalizes_170 : decode cX12_normalizes 170 = .ok (.iconst 2, 1) := by decide +kernel
theorem dX12_normalizes_171 : decode cX12_normalizes 171 = .ok (.isub, 1) := by decide +kernel
theorem dX12_normalizes_172 : decode cX12_normalizes 172 = .ok (.aload_n 0, 1) := by decide +kernel
theorem dX12_normalizes_173 : decode cX12_normalizes 173 = .ok (.getfield 22, 3) := by decide +kernel
theorem dX12_normalizes_176 : decode cX12_normalizes 176 = .ok (.iload_n 3, 1) := by decide +kernel
theorem dX12_normalizes_177 : decode cX12_normalizes 177 = .ok (.iaload, 1) := by decide +kernel
theorem dX12_normalizes_178 : decode cX12_normalizes 178 = .ok (.invokevirtual 183, 3) := by decide +kernel
theorem dX12_normalizes_181 : decode cX12_normalizes 181 = .ok (.aload_n 0, 1) := by decide +kernel
theorem dX12_normalizes_182 : decode cX12_normalizes 182 = .ok (.getfield 58, 3) := by decide +kernel
theorem dX12_normalizes_185 : decode cX12_normalizes 185 = .ok (.aload_n 0, 1) := by decide +kernel
theorem dX12_normalizes_186 : decode cX12_normalizes 186 = .ok (.getfield 177, 3) := by decide +kernel
theorem dX12_normalizes_189 : decode cX12_normalizes 189 = .ok (.iconst 1, 1) := by decide +kernel
theorem dX12_normalizes_190 : decode cX12_normalizes 190 = .ok (.isub, 1) := by decide +kernel
theorem dX12_normalizes_191 : decode cX12_normalizes 191 = .ok (.aload_n 0, 1) := by decide +kernel
theorem dX12_normalizes_192 : decode cX12_normalizes 192 = .ok (.getfield 224, 3) := by decide +kernel
theorem dX12_normalizes_195 : decode cX12_normalizes 195 = .ok (.aload_n 0, 1) := by decide +kernel
theorem dX12_normalizes_196 : decode cX12_normalizes 196 = .ok (.getfield 19, 3) := by decide +kernel
theorem dX12_normalizes_199 : decode cX12_normalizes 199 = .ok (.iload_n 3, 1) := by decide +kernel
theorem dX12_normalizes_200 : decode cX12_normalizes 200 = .ok (.iaload, 1) := by decide +kernel
theorem dX12_normalizes_201 : decode cX12_normalizes 201 = .ok (.isub, 1) := by decide +kernel
theorem dX12_normalizes_202 : decode cX12_normalizes 202 = .ok (.iastore, 1) := by decide +kernel
theorem dX12_normalizes_203 : decode cX12_normalizes 203 = .ok (.iconst 1, 1) := by decide +kernel
theorem dX12_normalizes_204 : decode cX12_normalizes 204 = .ok (.ireturn, 1) := by decide +kernel
theorem dX12_makesNormal_0 : decode cX12_makesNormal 0 = .ok (.aload_n 0, 1) := by decide +kernel
theorem dX12_makesNormal_1 : decode cX12_makesNormal 1 = .ok (.iconst 0, 1) := by decide +kernel
theorem dX12_makesNormal_2 : decode cX12_makesNormal 2 = .ok (.putfield 224, 3) := by decide +kernel
theorem dX12_makesNormal_5 : decode cX12_makesNormal 5 = .ok (.aload_n 0, 1) := by decide +kernel
theorem dX12_makesNormal_6 : decode cX12_makesNormal 6 = .ok (.getfield 55, 3) := by decide +kernel
theorem dX12_makesNormal_9 : decode cX12_makesNormal 9 = .ok (.iconst 0, 1) := by decide +kernel
theorem dX12_makesNormal_10 : decode cX12_makesNormal 10 = .ok (.iconst 0, 1) := by decide +kernel
theorem dX12_makesNormal_11 : decode cX12_makesNormal 11 = .ok (.iastore, 1) := by decide +kernel
theorem dX12_makesNormal_12 : decode cX12_makesNormal 12 = .ok (.aload_n 0, 1) := by decide +kernel
theorem dX12_makesNormal_13 : decode cX12_makesNormal 13 = .ok (.iconst 0, 1) := by decide +kernel
theorem dX12_makesNormal_14 : decode cX12_makesNormal 14 = .ok (.putfield 242, 3) := by decide +kernel
theorem dX12_makesNormal_17 : decode cX12_makesNormal 17 = .ok (.aload_n 0, 1) := by decide +kernel
theorem dX12_makesNormal_18 : decode cX12_makesNormal 18 = .ok (.iconst 0, 1) := by decide +kernel
theorem dX12_makesNormal_19 : decode cX12_makesNormal 19 = .ok (.putfield 177, 3) := by decide +kernel
theorem dX12_makesNormal_22 : decode cX12_makesNormal 22 = .ok (.aload_n 0, 1) := by decide +kernel
theorem dX12_makesNormal_23 : decode cX12_makesNormal 23 = .ok (.iload_n 1, 1) := by decide +kernel
theorem dX12_makesNormal_24 : decode cX12_makesNormal 24 = .ok (.aload_n 0, 1) := by decide +kernel
theorem dX12_makesNormal_25 : decode cX12_makesNormal 25 = .ok (.getfield 13, 3) := by decide +kernel
theorem dX12_makesNormal_28 : decode cX12_makesNormal 28 = .ok (.iload_n 1, 1) := by decide +kernel
theorem dX12_makesNormal_29 : decode cX12_makesNormal 29 = .ok (.iaload, 1) := by decide +kernel
theorem dX12_makesNormal_30 : decode cX12_makesNormal 30 = .ok (.iconst 0, 1) := by decide +kernel
theorem dX12_makesNormal_31 : decode cX12_makesNormal 31 = .ok (.iconst 0, 1) := by decide +kernel
theorem dX12_makesNormal_32 : decode cX12_makesNormal 32 = .ok (.iconst 0, 1) := by decide +kernel
theorem dX12_makesNormal_33 : decode cX12_makesNormal 33 = .ok (.invokevirtual 183, 3) := by decide +kernel
theorem dX12_makesNormal_36 : decode cX12_makesNormal 36 = .ok (.aload_n 0, 1) := by decide +kernel
theorem dX12_makesNormal_37 : decode cX12_makesNormal 37 = .ok (.getfield 177, 3) := by decide +kernel
theorem dX12_makesNormal_40 : decode cX12_makesNormal 40 = .ok (.ifCond .le 87, 3) := by decide +kernel
theorem dX12_makesNormal_43 : decode cX12_makesNormal 43 = .ok (.aload_n 0, 1) := by decide +kernel
theorem dX12_makesNormal_44 : decode cX12_makesNormal 44 = .ok (.getfield 177, 3) := by decide +kernel
theorem dX12_makesNormal_47 : decode cX12_makesNormal 47 = .ok (.iconst 1, 1) := by decide +kernel
theorem dX12_makesNormal_48 : decode cX12_makesNormal 48 = .ok (.isub, 1) := by decide +kernel
theorem dX12_makesNormal_49 : decode cX12_makesNormal 49 = .ok (.istore_n 3, 1) := by decide +kernel
theorem dX12_makesNormal_50 : decode cX12_makesNormal 50 = .ok (.aload_n 0, 1) := by decide +kernel
theorem dX12_makesNormal_51 : decode cX12_makesNormal 51 = .ok (.getfield 40, 3) := by decide +kernel
theorem dX12_makesNormal_54 : decode cX12_makesNormal 54 = .ok (.iload_n 3, 1) := by decide +kernel
theorem dX12_makesNormal_55 : decode cX12_makesNormal 55 = .ok (.iaload, 1) := by decide +kernel
theorem dX12_makesNormal_56 : decode cX12_makesNormal 56 = .ok (.ifCond .ge 33, 3) := by decide +kernel
theorem dX12_makesNormal_59 : decode cX12_makesNormal 59 = .ok (.aload_n 0, 1) := by decide +kernel
theorem dX12_makesNormal_60 : decode cX12_makesNormal 60 = .ok (.dup, 1) := by decide +kernel
theorem dX12_makesNormal_61 : decode cX12_makesNormal 61 = .ok (.getfield 177, 3) := by decide +kernel
theorem dX12_makesNormal_64 : decode cX12_makesNormal 64 = .ok (.iconst 1, 1) := by decide +kernel
theorem dX12_makesNormal_65 : decode cX12_makesNormal 65 = .ok (.isub, 1) := by decide +kernel
theorem dX12_makesNormal_66 : decode cX12_makesNormal 66 = .ok (.putfield 177, 3) := by decide +kernel
theorem dX12_makesNormal_69 : decode cX12_makesNormal 69 = .ok (.aload_n 0, 1) := by decide +kernel
theorem dX12_makesNormal_70 : decode cX12_makesNormal 70 = .ok (.getfield 177, 3) := by decide +kernel
theorem dX12_makesNormal_73 : decode cX12_makesNormal 73 = .ok (.ifCond .le 51, 3) := by decide +kernel
theorem dX12_makesNormal_76 : decode cX12_makesNormal 76 = .ok (.aload_n 0, 1) := by decide +kernel
theorem dX12_makesNormal_77 : decode cX12_makesNormal 77 = .ok (.aload_n 0, 1) := by decide +kernel
theorem dX12_makesNormal_78 : decode cX12_makesNormal 78 = .ok (.getfield 58, 3) := by decide +kernel
theorem dX12_makesNormal_81 : decode cX12_makesNormal 81 = .ok (.iload_n 3, 1) := by decide +kernel
theorem dX12_makesNormal_82 : decode cX12_makesNormal 82 = .ok (.iaload, 1) := by decide +kernel
theorem dX12_makesNormal_83 : decode cX12_makesNormal 83 = .ok (.invokevirtual 230, 3) := by decide +kernel
theorem dX12_makesNormal_86 : decode cX12_makesNormal 86 = .ok (.goto 38, 3) := by decide +kernel
theorem dX12_makesNormal_89 : decode cX12_makesNormal 89 = .ok (.aload_n 0, 1) := by decide +kernel
theorem dX12_makesNormal_90 : decode cX12_makesNormal 90 = .ok (.iload_n 3, 1) := by decide +kernel
theorem dX12_makesNormal_91 : decode cX12_makesNormal 91 = .ok (.aload_n 0, 1) := by decide +kernel
theorem dX12_makesNormal_92 : decode cX12_makesNormal 92 = .ok (.getfield 40, 3) := by decide +kernel
theorem dX12_makesNormal_95 : decode cX12_makesNormal 95 = .ok (.iload_n 3, 1) := by decide +kernel
theorem dX12_makesNormal_96 : decode cX12_makesNormal 96 = .ok (.iaload, 1) := by decide +kernel
theorem dX12_makesNormal_97 : decode cX12_makesNormal 97 = .ok (.invokevirtual 193, 3) := by decide +kernel
theorem dX12_makesNormal_100 : decode cX12_makesNormal 100 = .ok (.istore 4, 2) := by decide +kernel
theorem dX12_makesNormal_102 : decode cX12_makesNormal 102 = .ok (.aload_n 0, 1) := by decide +kernel
theorem dX12_makesNormal_103 : decode cX12_makesNormal 103 = .ok (.getfield 40, 3) := by decide +kernel
theorem dX12_makesNormal_106 : decode cX12_makesNormal 106 = .ok (.iload_n 3, 1) := by decide +kernel
theorem dX12_makesNormal_107 : decode cX12_makesNormal 107 = .ok (.dup2, 1) := by decide +kernel
theorem dX12_makesNormal_108 : decode cX12_makesNormal 108 = .ok (.iaload, 1) := by decide +kernel
theorem dX12_makesNormal_109 : decode cX12_makesNormal 109 = .ok (.iconst 1, 1) := by decide +kernel
theorem dX12_makesNormal_110 : decode cX12_makesNormal 110 = .ok (.isub, 1) := by decide +kernel
theorem dX12_makesNormal_111 : decode cX12_makesNormal 111 = .ok (.iastore, 1) := by decide +kernel
theorem dX12_makesNormal_112 : decode cX12_makesNormal 112 = .ok (.aload_n 0, 1) := by decide +kernel
theorem dX12_makesNormal_113 : decode cX12_makesNormal 113 = .ok (.iload_n 3, 1) := by decide +kernel
theorem dX12_makesNormal_114 : decode cX12_makesNormal 114 = .ok (.iload 4, 2) := by decide +kernel
theorem dX12_makesNormal_116 : decode cX12_makesNormal 116 = .ok (.invokevirtual 245, 3) := by decide +kernel
theorem dX12_makesNormal_119 : decode cX12_makesNormal 119 = .ok (.ifCond .ne 5, 3) := by decide +kernel
theorem dX12_makesNormal_122 : decode cX12_makesNormal 122 = .ok (.iconst 0, 1) := by decide +kernel
theorem dX12_makesNormal_123 : decode cX12_makesNormal 123 = .ok (.ireturn, 1) := by decide +kernel
theorem dX12_makesNormal_124 : decode cX12_makesNormal 124 = .ok (.goto (-88), 3) := by decide +kernel
theorem dX12_makesNormal_127 : decode cX12_makesNormal 127 = .ok (.aload_n 0, 1) := by decide +kernel
theorem dX12_makesNormal_128 : decode cX12_makesNormal 128 = .ok (.getfield 13, 3) := by decide +kernel
theorem dX12_makesNormal_131 : decode cX12_makesNormal 131 = .ok (.iload_n 2, 1) := by decide +kernel
theorem dX12_makesNormal_132 : decode cX12_makesNormal 132 = .ok (.iconst 0, 1) := by decide +kernel
theorem dX12_makesNormal_133 : decode cX12_makesNormal 133 = .ok (.iastore, 1) := by decide +kernel
theorem dX12_makesNormal_134 : decode cX12_makesNormal 134 = .ok (.iconst 0, 1) := by decide +kernel
theorem dX12_makesNormal_135 : decode cX12_makesNormal 135 = .ok (.istore_n 3, 1) := by decide +kernel
theorem dX12_makesNormal_136 : decode cX12_makesNormal 136 = .ok (.iload_n 3, 1) := by decide +kernel
theorem dX12_makesNormal_137 : decode cX12_makesNormal 137 = .ok (.aload_n 0, 1) := by decide +kernel
theorem dX12_makesNormal_138 : decode cX12_makesNormal 138 = .ok (.getfield 55, 3) := by decide +kernel
theorem dX12_makesNormal_141 : decode cX12_makesNormal 141 = .ok (.iconst 1, 1) := by decide +kernel
theorem dX12_makesNormal_142 : decode cX12_makesNormal 142 = .ok (.iaload, 1) := by decide +kernel
theorem dX12_makesNormal_143 : decode cX12_makesNormal 143 = .ok (.if_icmp .ge 20, 3) := by decide +kernel
theorem dX12_makesNormal_146 : decode cX12_makesNormal 146 = .ok (.aload_n 0, 1) := by decide +kernel
theorem dX12_makesNormal_147 : decode cX12_makesNormal 147 = .ok (.iload_n 2, 1) := by decide +kernel
theorem dX12_makesNormal_148 : decode cX12_makesNormal 148 = .ok (.aload_n 0, 1) := by decide +kernel
theorem dX12_makesNormal_149 : decode cX12_makesNormal 149 = .ok (.getfield 52, 3) := by decide +kernel
theorem dX12_makesNormal_152 : decode cX12_makesNormal 152 = .ok (.iload_n 3, 1) := by decide +kernel
theorem dX12_makesNormal_153 : decode cX12_makesNormal 153 = .ok (.iaload, 1) := by decide +kernel
theorem dX12_makesNormal_154 : decode cX12_makesNormal 154 = .ok (.invokevirtual 150, 3) := by decide +kernel
theorem dX12_makesNormal_157 : decode cX12_makesNormal 157 = .ok (.iinc 3 1, 3) := by decide +kernel
theorem dX12_makesNormal_160 : decode cX12_makesNormal 160 = .ok (.goto (-24), 3) := by decide +kernel
theorem dX12_makesNormal_163 : decode cX12_makesNormal 163 = .ok (.iconst 1, 1) := by decide +kernel
theorem dX12_makesNormal_164 : decode cX12_makesNormal 164 = .ok (.ireturn, 1) := by decide +kernel
theorem dX12_normal_0 : decode cX12_normal 0 = .ok (.iload_n 1, 1) := by decide +kernel
theorem dX12_normal_1 : decode cX12_normal 1 = .ok (.iconst 0, 1) := by decide +kernel
theorem dX12_normal_2 : decode cX12_normal 2 = .ok (.iconst 1, 1) := by decide +kernel
theorem dX12_normal_3 : decode cX12_normal 3 = .ok (.invokestatic 96, 3) := by decide +kernel
theorem dX12_normal_6 : decode cX12_normal 6 = .ok (.ifCond .eq 19, 3) := by decide +kernel
theorem dX12_normal_9 : decode cX12_normal 9 = .ok (.iload_n 2, 1) := by decide +kernel
theorem dX12_normal_10 : decode cX12_normal 10 = .ok (.bipush (-9), 2) := by decide +kernel
theorem dX12_normal_12 : decode cX12_normal 12 = .ok (.if_icmp .eq 16, 3) := by decide +kernel
theorem dX12_normal_15 : decode cX12_normal 15 = .ok (.iload_n 2, 1) := by decide +kernel
theorem dX12_normal_16 : decode cX12_normal 16 = .ok (.iconst 0, 1) := by decide +kernel
theorem dX12_normal_17 : decode cX12_normal 17 = .ok (.bipush 39, 2) := by decide +kernel
theorem dX12_normal_19 : decode cX12_normal 19 = .ok (.invokestatic 96, 3) := by decide +kernel
theorem dX12_normal_22 : decode cX12_normal 22 = .ok (.ifCond .ne 6, 3) := by decide +kernel
theorem dX12_normal_25 : decode cX12_normal 25 = .ok (.bipush (-2), 2) := by decide +kernel
theorem dX12_normal_27 : decode cX12_normal 27 = .ok (.ireturn, 1) := by decide +kernel
theorem dX12_normal_28 : decode cX12_normal 28 = .ok (.aload_n 0, 1) := by decide +kernel
theorem dX12_normal_29 : decode cX12_normal 29 = .ok (.getfield 164, 3) := by decide +kernel
theorem dX12_normal_32 : decode cX12_normal 32 = .ok (.ifCond .eq 25, 3) := by decide +kernel
theorem dX12_normal_35 : decode cX12_normal 35 = .ok (.aload_n 0, 1) := by decide +kernel
theorem dX12_normal_36 : decode cX12_normal 36 = .ok (.iconst 0, 1) := by decide +kernel
theorem dX12_normal_37 : decode cX12_normal 37 = .ok (.iload_n 1, 1) := by decide +kernel
theorem dX12_normal_38 : decode cX12_normal 38 = .ok (.iadd, 1) := by decide +kernel
theorem dX12_normal_39 : decode cX12_normal 39 = .ok (.bipush 24, 2) := by decide +kernel
theorem dX12_normal_41 : decode cX12_normal 41 = .ok (.invokevirtual 248, 3) := by decide +kernel
theorem dX12_normal_44 : decode cX12_normal 44 = .ok (.ifCond .eq 13, 3) := by decide +kernel
theorem dX12_normal_47 : decode cX12_normal 47 = .ok (.aload_n 0, 1) := by decide +kernel
theorem dX12_normal_48 : decode cX12_normal 48 = .ok (.bipush 24, 2) := by decide +kernel
theorem dX12_normal_50 : decode cX12_normal 50 = .ok (.iload_n 2, 1) := by decide +kernel
theorem dX12_normal_51 : decode cX12_normal 51 = .ok (.invokevirtual 168, 3) := by decide +kernel
theorem dX12_normal_54 : decode cX12_normal 54 = .ok (.goto 5, 3) := by decide +kernel
theorem dX12_normal_57 : decode cX12_normal 57 = .ok (.bipush (-3), 2) := by decide +kernel
theorem dX12_normal_59 : decode cX12_normal 59 = .ok (.ireturn, 1) := by decide +kernel
theorem dX12_callsIn_0 : decode cX12_callsIn 0 = .ok (.iconst 0, 1) := by decide +kernel
theorem dX12_callsIn_1 : decode cX12_callsIn 1 = .ok (.istore 4, 2) := by decide +kernel
theorem dX12_callsIn_3 : decode cX12_callsIn 3 = .ok (.iconst 0, 1) := by decide +kernel
theorem dX12_callsIn_4 : decode cX12_callsIn 4 = .ok (.istore 5, 2) := by decide +kernel
theorem dX12_callsIn_6 : decode cX12_callsIn 6 = .ok (.iload 5, 2) := by decide +kernel
theorem dX12_callsIn_8 : decode cX12_callsIn 8 = .ok (.iconst 1, 1) := by decide +kernel
theorem dX12_callsIn_9 : decode cX12_callsIn 9 = .ok (.iadd, 1) := by decide +kernel
theorem dX12_callsIn_10 : decode cX12_callsIn 10 = .ok (.aload_n 0, 1) := by decide +kernel
theorem dX12_callsIn_11 : decode cX12_callsIn 11 = .ok (.getfield 13, 3) := by decide +kernel
theorem dX12_callsIn_14 : decode cX12_callsIn 14 = .ok (.iload_n 1, 1) := by decide +kernel
theorem dX12_callsIn_15 : decode cX12_callsIn 15 = .ok (.iaload, 1) := by decide +kernel
theorem dX12_callsIn_16 : decode cX12_callsIn 16 = .ok (.if_icmp .ge 83, 3) := by decide +kernel
theorem dX12_callsIn_19 : decode cX12_callsIn 19 = .ok (.aload_n 0, 1) := by decide +kernel
theorem dX12_callsIn_20 : decode cX12_callsIn 20 = .ok (.iload_n 1, 1) := by decide +kernel
theorem dX12_callsIn_21 : decode cX12_callsIn 21 = .ok (.iload 5, 2) := by decide +kernel
theorem dX12_callsIn_23 : decode cX12_callsIn 23 = .ok (.invokevirtual 92, 3) := by decide +kernel
theorem dX12_callsIn_26 : decode cX12_callsIn 26 = .ok (.invokestatic 100, 3) := by decide +kernel
theorem dX12_callsIn_29 : decode cX12_callsIn 29 = .ok (.ifCond .eq 23, 3) := by decide +kernel
theorem dX12_callsIn_32 : decode cX12_callsIn 32 = .ok (.aload_n 0, 1) := by decide +kernel
theorem dX12_callsIn_33 : decode cX12_callsIn 33 = .ok (.iload_n 1, 1) := by decide +kernel
theorem dX12_callsIn_34 : decode cX12_callsIn 34 = .ok (.iload 5, 2) := by decide +kernel
theorem dX12_callsIn_36 : decode cX12_callsIn 36 = .ok (.iconst 1, 1) := by decide +kernel
theorem dX12_callsIn_37 : decode cX12_callsIn 37 = .ok (.iadd, 1) := by decide +kernel
theorem dX12_callsIn_38 : decode cX12_callsIn 38 = .ok (.invokevirtual 92, 3) := by decide +kernel
theorem dX12_callsIn_41 : decode cX12_callsIn 41 = .ok (.bipush 120, 2) := by decide +kernel
theorem dX12_callsIn_43 : decode cX12_callsIn 43 = .ok (.iload_n 2, 1) := by decide +kernel
theorem dX12_callsIn_44 : decode cX12_callsIn 44 = .ok (.iadd, 1) := by decide +kernel
theorem dX12_callsIn_45 : decode cX12_callsIn 45 = .ok (.if_icmp .ne 7, 3) := by decide +kernel
theorem dX12_callsIn_48 : decode cX12_callsIn 48 = .ok (.iconst 1, 1) := by decide +kernel
theorem dX12_callsIn_49 : decode cX12_callsIn 49 = .ok (.goto 4, 3) := by decide +kernel
theorem dX12_callsIn_52 : decode cX12_callsIn 52 = .ok (.iconst 0, 1) := by decide +kernel
theorem dX12_callsIn_53 : decode cX12_callsIn 53 = .ok (.istore 6, 2) := by decide +kernel
theorem dX12_callsIn_55 : decode cX12_callsIn 55 = .ok (.iload 4, 2) := by decide +kernel
theorem dX12_callsIn_57 : decode cX12_callsIn 57 = .ok (.iload 6, 2) := by decide +kernel
theorem dX12_callsIn_59 : decode cX12_callsIn 59 = .ok (.ifCond .eq 30, 3) := by decide +kernel
theorem dX12_callsIn_62 : decode cX12_callsIn 62 = .ok (.iload_n 3, 1) := by decide +kernel
theorem dX12_callsIn_63 : decode cX12_callsIn 63 = .ok (.ifCond .eq 22, 3) := by decide +kernel
theorem dX12_callsIn_66 : decode cX12_callsIn 66 = .ok (.aload_n 0, 1) := by decide +kernel
theorem dX12_callsIn_67 : decode cX12_callsIn 67 = .ok (.getfield 22, 3) := by decide +kernel
theorem dX12_callsIn_70 : decode cX12_callsIn 70 = .ok (.aload_n 0, 1) := by decide +kernel
theorem dX12_callsIn_71 : decode cX12_callsIn 71 = .ok (.iload_n 1, 1) := by decide +kernel
theorem dX12_callsIn_72 : decode cX12_callsIn 72 = .ok (.iload 5, 2) := by decide +kernel
theorem dX12_callsIn_74 : decode cX12_callsIn 74 = .ok (.invokevirtual 92, 3) := by decide +kernel
theorem dX12_callsIn_77 : decode cX12_callsIn 77 = .ok (.bipush 97, 2) := by decide +kernel
theorem dX12_callsIn_79 : decode cX12_callsIn 79 = .ok (.isub, 1) := by decide +kernel
theorem dX12_callsIn_80 : decode cX12_callsIn 80 = .ok (.iaload, 1) := by decide +kernel
theorem dX12_callsIn_81 : decode cX12_callsIn 81 = .ok (.iload_n 3, 1) := by decide +kernel
theorem dX12_callsIn_82 : decode cX12_callsIn 82 = .ok (.if_icmp .ne 7, 3) := by decide +kernel
theorem dX12_callsIn_85 : decode cX12_callsIn 85 = .ok (.iconst 1, 1) := by decide +kernel
theorem dX12_callsIn_86 : decode cX12_callsIn 86 = .ok (.goto 4, 3) := by decide +kernel
theorem dX12_callsIn_89 : decode cX12_callsIn 89 = .ok (.iconst 0, 1) := by decide +kernel
theorem dX12_callsIn_90 : decode cX12_callsIn 90 = .ok (.iadd, 1) := by decide +kernel
theorem dX12_callsIn_91 : decode cX12_callsIn 91 = .ok (.istore 4, 2) := by decide +kernel
theorem dX12_callsIn_93 : decode cX12_callsIn 93 = .ok (.iinc 5 1, 3) := by decide +kernel
theorem dX12_callsIn_96 : decode cX12_callsIn 96 = .ok (.goto (-90), 3) := by decide +kernel
theorem dX12_callsIn_99 : decode cX12_callsIn 99 = .ok (.iload 4, 2) := by decide +kernel
theorem dX12_callsIn_101 : decode cX12_callsIn 101 = .ok (.ireturn, 1) := by decide +kernel
theorem dX12_findScheme_0 : decode cX12_findScheme 0 = .ok (.aload_n 0, 1) := by decide +kernel
theorem dX12_findScheme_1 : decode cX12_findScheme 1 = .ok (.iconst 0, 1) := by decide +kernel
theorem dX12_findScheme_2 : decode cX12_findScheme 2 = .ok (.putfield 251, 3) := by decide +kernel
theorem dX12_findScheme_5 : decode cX12_findScheme 5 = .ok (.iconst 0, 1) := by decide +kernel
theorem dX12_findScheme_6 : decode cX12_findScheme 6 = .ok (.istore_n 3, 1) := by decide +kernel
theorem dX12_findScheme_7 : decode cX12_findScheme 7 = .ok (.iload_n 3, 1) := by decide +kernel
theorem dX12_findScheme_8 : decode cX12_findScheme 8 = .ok (.iconst 3, 1) := by decide +kernel
theorem dX12_findScheme_9 : decode cX12_findScheme 9 = .ok (.if_icmp .ge 100, 3) := by decide +kernel
theorem dX12_findScheme_12 : decode cX12_findScheme 12 = .ok (.aload_n 0, 1) := by decide +kernel
theorem dX12_findScheme_13 : decode cX12_findScheme 13 = .ok (.iload_n 1, 1) := by decide +kernel
theorem dX12_findScheme_14 : decode cX12_findScheme 14 = .ok (.iload_n 3, 1) := by decide +kernel
theorem dX12_findScheme_15 : decode cX12_findScheme 15 = .ok (.iconst 0, 1) := by decide +kernel
theorem dX12_findScheme_16 : decode cX12_findScheme 16 = .ok (.invokevirtual 254, 3) := by decide +kernel
theorem dX12_findScheme_19 : decode cX12_findScheme 19 = .ok (.aload_n 0, 1) := by decide +kernel
theorem dX12_findScheme_20 : decode cX12_findScheme 20 = .ok (.iload_n 2, 1) := by decide +kernel
theorem dX12_findScheme_21 : decode cX12_findScheme 21 = .ok (.iload_n 3, 1) := by decide +kernel
theorem dX12_findScheme_22 : decode cX12_findScheme 22 = .ok (.iconst 0, 1) := by decide +kernel
theorem dX12_findScheme_23 : decode cX12_findScheme 23 = .ok (.invokevirtual 254, 3) := by decide +kernel
theorem dX12_findScheme_26 : decode cX12_findScheme 26 = .ok (.iadd, 1) := by decide +kernel
theorem dX12_findScheme_27 : decode cX12_findScheme 27 = .ok (.istore 4, 2) := by decide +kernel
theorem dX12_findScheme_29 : decode cX12_findScheme 29 = .ok (.aload_n 0, 1) := by decide +kernel
theorem dX12_findScheme_30 : decode cX12_findScheme 30 = .ok (.iload_n 1, 1) := by decide +kernel
theorem dX12_findScheme_31 : decode cX12_findScheme 31 = .ok (.iload_n 3, 1) := by decide +kernel
theorem dX12_findScheme_32 : decode cX12_findScheme 32 = .ok (.iconst 2, 1) := by decide +kernel
theorem dX12_findScheme_33 : decode cX12_findScheme 33 = .ok (.invokevirtual 254, 3) := by decide +kernel
theorem dX12_findScheme_36 : decode cX12_findScheme 36 = .ok (.aload_n 0, 1) := by decide +kernel
theorem dX12_findScheme_37 : decode cX12_findScheme 37 = .ok (.iload_n 2, 1) := by decide +kernel
theorem dX12_findScheme_38 : decode cX12_findScheme 38 = .ok (.iload_n 3, 1) := by decide +kernel
theorem dX12_findScheme_39 : decode cX12_findScheme 39 = .ok (.iconst 2, 1) := by decide +kernel
theorem dX12_findScheme_40 : decode cX12_findScheme 40 = .ok (.invokevirtual 254, 3) := by decide +kernel
theorem dX12_findScheme_43 : decode cX12_findScheme 43 = .ok (.iadd, 1) := by decide +kernel
theorem dX12_findScheme_44 : decode cX12_findScheme 44 = .ok (.ifCond .le 7, 3) := by decide +kernel
theorem dX12_findScheme_47 : decode cX12_findScheme 47 = .ok (.iconst 2, 1) := by decide +kernel
theorem dX12_findScheme_48 : decode cX12_findScheme 48 = .ok (.goto 4, 3) := by decide +kernel
theorem dX12_findScheme_51 : decode cX12_findScheme 51 = .ok (.iconst 1, 1) := by decide +kernel
theorem dX12_findScheme_52 : decode cX12_findScheme 52 = .ok (.istore 5, 2) := by decide +kernel
theorem dX12_findScheme_54 : decode cX12_findScheme 54 = .ok (.iload 4, 2) := by decide +kernel
theorem dX12_findScheme_56 : decode cX12_findScheme 56 = .ok (.aload_n 0, 1) := by decide +kernel
theorem dX12_findScheme_57 : decode cX12_findScheme 57 = .ok (.getfield 251, 3) := by decide +kernel
theorem dX12_findScheme_60 : decode cX12_findScheme 60 = .ok (.if_icmp .gt 26, 3) := by decide +kernel
theorem dX12_findScheme_63 : decode cX12_findScheme 63 = .ok (.iload 4, 2) := by decide +kernel
theorem dX12_findScheme_65 : decode cX12_findScheme 65 = .ok (.ifCond .le 38, 3) := by decide +kernel
theorem dX12_findScheme_68 : decode cX12_findScheme 68 = .ok (.iload 4, 2) := by decide +kernel
theorem dX12_findScheme_70 : decode cX12_findScheme 70 = .ok (.aload_n 0, 1) := by decide +kernel
theorem dX12_findScheme_71 : decode cX12_findScheme 71 = .ok (.getfield 251, 3) := by decide +kernel
theorem dX12_findScheme_74 : decode cX12_findScheme 74 = .ok (.if_icmp .ne 29, 3) := by decide +kernel
theorem dX12_findScheme_77 : decode cX12_findScheme 77 = .ok (.iload 5, 2) := by decide +kernel
theorem dX12_findScheme_79 : decode cX12_findScheme 79 = .ok (.aload_n 0, 1) := by decide +kernel
theorem dX12_findScheme_80 : decode cX12_findScheme 80 = .ok (.getfield 257, 3) := by decide +kernel
theorem dX12_findScheme_83 : decode cX12_findScheme 83 = .ok (.if_icmp .ge 20, 3) := by decide +kernel
theorem dX12_findScheme_86 : decode cX12_findScheme 86 = .ok (.aload_n 0, 1) := by decide +kernel
theorem dX12_findScheme_87 : decode cX12_findScheme 87 = .ok (.iload 4, 2) := by decide +kernel
theorem dX12_findScheme_89 : decode cX12_findScheme 89 = .ok (.putfield 251, 3) := by decide +kernel
theorem dX12_findScheme_92 : decode cX12_findScheme 92 = .ok (.aload_n 0, 1) := by decide +kernel
theorem dX12_findScheme_93 : decode cX12_findScheme 93 = .ok (.iload 5, 2) := by decide +kernel
theorem dX12_findScheme_95 : decode cX12_findScheme 95 = .ok (.putfield 257, 3) := by decide +kernel
theorem dX12_findScheme_98 : decode cX12_findScheme 98 = .ok (.aload_n 0, 1) := by decide +kernel
theorem dX12_findScheme_99 : decode cX12_findScheme 99 = .ok (.iload_n 3, 1) := by decide +kernel
theorem dX12_findScheme_100 : decode cX12_findScheme 100 = .ok (.putfield 260, 3) := by decide +kernel
theorem dX12_findScheme_103 : decode cX12_findScheme 103 = .ok (.iinc 3 1, 3) := by decide +kernel
theorem dX12_findScheme_106 : decode cX12_findScheme 106 = .ok (.goto (-99), 3) := by decide +kernel
theorem dX12_findScheme_109 : decode cX12_findScheme 109 = .ok (.aload_n 0, 1) := by decide +kernel
theorem dX12_findScheme_110 : decode cX12_findScheme 110 = .ok (.getfield 251, 3) := by decide +kernel
theorem dX12_findScheme_113 : decode cX12_findScheme 113 = .ok (.ifCond .le 7, 3) := by decide +kernel
theorem dX12_findScheme_116 : decode cX12_findScheme 116 = .ok (.iconst 1, 1) := by decide +kernel
theorem dX12_findScheme_117 : decode cX12_findScheme 117 = .ok (.goto 4, 3) := by decide +kernel
theorem dX12_findScheme_120 : decode cX12_findScheme 120 = .ok (.iconst 0, 1) := by decide +kernel
theorem dX12_findScheme_121 : decode cX12_findScheme 121 = .ok (.ireturn, 1) := by decide +kernel
theorem dX12_scheme_0 : decode cX12_scheme 0 = .ok (.iload_n 1, 1) := by decide +kernel
theorem dX12_scheme_1 : decode cX12_scheme 1 = .ok (.iconst 0, 1) := by decide +kernel
theorem dX12_scheme_2 : decode cX12_scheme 2 = .ok (.iconst 2, 1) := by decide +kernel
theorem dX12_scheme_3 : decode cX12_scheme 3 = .ok (.invokestatic 96, 3) := by decide +kernel
theorem dX12_scheme_6 : decode cX12_scheme 6 = .ok (.ifCond .ne 6, 3) := by decide +kernel
theorem dX12_scheme_9 : decode cX12_scheme 9 = .ok (.bipush (-2), 2) := by decide +kernel
theorem dX12_scheme_11 : decode cX12_scheme 11 = .ok (.ireturn, 1) := by decide +kernel
theorem dX12_scheme_12 : decode cX12_scheme 12 = .ok (.aload_n 0, 1) := by decide +kernel
theorem dX12_scheme_13 : decode cX12_scheme 13 = .ok (.getfield 164, 3) := by decide +kernel
theorem dX12_scheme_16 : decode cX12_scheme 16 = .ok (.ifCond .ne 6, 3) := by decide +kernel
theorem dX12_scheme_19 : decode cX12_scheme 19 = .ok (.bipush (-3), 2) := by decide +kernel
theorem dX12_scheme_21 : decode cX12_scheme 21 = .ok (.ireturn, 1) := by decide +kernel
theorem dX12_scheme_22 : decode cX12_scheme 22 = .ok (.aload_n 0, 1) := by decide +kernel
theorem dX12_scheme_23 : decode cX12_scheme 23 = .ok (.iconst 0, 1) := by decide +kernel
theorem dX12_scheme_24 : decode cX12_scheme 24 = .ok (.iconst 1, 1) := by decide +kernel
theorem dX12_scheme_25 : decode cX12_scheme 25 = .ok (.invokevirtual 263, 3) := by decide +kernel
theorem dX12_scheme_28 : decode cX12_scheme 28 = .ok (.ifCond .ne 6, 3) := by decide +kernel
theorem dX12_scheme_31 : decode cX12_scheme 31 = .ok (.bipush (-9), 2) := by decide +kernel
theorem dX12_scheme_33 : decode cX12_scheme 33 = .ok (.ireturn, 1) := by decide +kernel
theorem dX12_scheme_34 : decode cX12_scheme 34 = .ok (.iload_n 1, 1) := by decide +kernel
theorem dX12_scheme_35 : decode cX12_scheme 35 = .ok (.ifCond .ne 10, 3) := by decide +kernel
theorem dX12_scheme_38 : decode cX12_scheme 38 = .ok (.aload_n 0, 1) := by decide +kernel
theorem dX12_scheme_39 : decode cX12_scheme 39 = .ok (.getfield 260, 3) := by decide +kernel
theorem dX12_scheme_42 : decode cX12_scheme 42 = .ok (.goto 19, 3) := by decide +kernel
theorem dX12_scheme_45 : decode cX12_scheme 45 = .ok (.iload_n 1, 1) := by decide +kernel
theorem dX12_scheme_46 : decode cX12_scheme 46 = .ok (.iconst 1, 1) := by decide +kernel
theorem dX12_scheme_47 : decode cX12_scheme 47 = .ok (.if_icmp .ne 10, 3) := by decide +kernel
theorem dX12_scheme_50 : decode cX12_scheme 50 = .ok (.aload_n 0, 1) := by decide +kernel
theorem dX12_scheme_51 : decode cX12_scheme 51 = .ok (.getfield 257, 3) := by decide +kernel
theorem dX12_scheme_54 : decode cX12_scheme 54 = .ok (.goto 7, 3) := by decide +kernel
theorem dX12_scheme_57 : decode cX12_scheme 57 = .ok (.aload_n 0, 1) := by decide +kernel
theorem dX12_scheme_58 : decode cX12_scheme 58 = .ok (.getfield 251, 3) := by decide +kernel
theorem dX12_scheme_61 : decode cX12_scheme 61 = .ok (.ireturn, 1) := by decide +kernel
theorem dX12_findDeep_0 : decode cX12_findDeep 0 = .ok (.iconst 0, 1) := by decide +kernel
theorem dX12_findDeep_1 : decode cX12_findDeep 1 = .ok (.istore_n 2, 1) := by decide +kernel
theorem dX12_findDeep_2 : decode cX12_findDeep 2 = .ok (.iload_n 2, 1) := by decide +kernel
theorem dX12_findDeep_3 : decode cX12_findDeep 3 = .ok (.aload_n 0, 1) := by decide +kernel
theorem dX12_findDeep_4 : decode cX12_findDeep 4 = .ok (.getfield 13, 3) := by decide +kernel
theorem dX12_findDeep_7 : decode cX12_findDeep 7 = .ok (.iload_n 1, 1) := by decide +kernel
theorem dX12_findDeep_8 : decode cX12_findDeep 8 = .ok (.iaload, 1) := by decide +kernel
theorem dX12_findDeep_9 : decode cX12_findDeep 9 = .ok (.if_icmp .ge 16, 3) := by decide +kernel
theorem dX12_findDeep_12 : decode cX12_findDeep 12 = .ok (.aload_n 0, 1) := by decide +kernel
theorem dX12_findDeep_13 : decode cX12_findDeep 13 = .ok (.getfield 64, 3) := by decide +kernel
theorem dX12_findDeep_16 : decode cX12_findDeep 16 = .ok (.iload_n 2, 1) := by decide +kernel
theorem dX12_findDeep_17 : decode cX12_findDeep 17 = .ok (.iconst 0, 1) := by decide +kernel
theorem dX12_findDeep_18 : decode cX12_findDeep 18 = .ok (.iastore, 1) := by decide +kernel
theorem dX12_findDeep_19 : decode cX12_findDeep 19 = .ok (.iinc 2 1, 3) := by decide +kernel
theorem dX12_findDeep_22 : decode cX12_findDeep 22 = .ok (.goto (-20), 3) := by decide +kernel
theorem dX12_findDeep_25 : decode cX12_findDeep 25 = .ok (.iconst 0, 1) := by decide +kernel
theorem dX12_findDeep_26 : decode cX12_findDeep 26 = .ok (.istore_n 2, 1) := by decide +kernel
theorem dX12_findDeep_27 : decode cX12_findDeep 27 = .ok (.iload_n 2, 1) := by decide +kernel
theorem dX12_findDeep_28 : decode cX12_findDeep 28 = .ok (.aload_n 0, 1) := by decide +kernel
theorem dX12_findDeep_29 : decode cX12_findDeep 29 = .ok (.getfield 13, 3) := by decide +kernel
theorem dX12_findDeep_32 : decode cX12_findDeep 32 = .ok (.iload_n 1, 1) := by decide +kernel
theorem dX12_findDeep_33 : decode cX12_findDeep 33 = .ok (.iaload, 1) := by decide +kernel
theorem dX12_findDeep_34 : decode cX12_findDeep 34 = .ok (.if_icmp .ge 39, 3) := by decide +kernel
theorem dX12_findDeep_37 : decode cX12_findDeep 37 = .ok (.iload_n 2, 1) := by decide +kernel
theorem dX12_findDeep_38 : decode cX12_findDeep 38 = .ok (.iconst 1, 1) := by decide +kernel
theorem dX12_findDeep_39 : decode cX12_findDeep 39 = .ok (.iadd, 1) := by decide +kernel
theorem dX12_findDeep_40 : decode cX12_findDeep 40 = .ok (.istore_n 3, 1) := by decide +kernel
theorem dX12_findDeep_41 : decode cX12_findDeep 41 = .ok (.iload_n 3, 1) := by decide +kernel
theorem dX12_findDeep_42 : decode cX12_findDeep 42 = .ok (.aload_n 0, 1) := by decide +kernel
theorem dX12_findDeep_43 : decode cX12_findDeep 43 = .ok (.iload_n 1, 1) := by decide +kernel
theorem dX12_findDeep_44 : decode cX12_findDeep 44 = .ok (.iload_n 2, 1) := by decide +kernel
theorem dX12_findDeep_45 : decode cX12_findDeep 45 = .ok (.invokevirtual 266, 3) := by decide +kernel
theorem dX12_findDeep_48 : decode cX12_findDeep 48 = .ok (.if_icmp .ge 19, 3) := by decide +kernel
theorem dX12_findDeep_51 : decode cX12_findDeep 51 = .ok (.aload_n 0, 1) := by decide +kernel
theorem dX12_findDeep_52 : decode cX12_findDeep 52 = .ok (.getfield 64, 3) := by decide +kernel
theorem dX12_findDeep_55 : decode cX12_findDeep 55 = .ok (.iload_n 3, 1) := by decide +kernel
theorem dX12_findDeep_56 : decode cX12_findDeep 56 = .ok (.dup2, 1) := by decide +kernel
theorem dX12_findDeep_57 : decode cX12_findDeep 57 = .ok (.iaload, 1) := by decide +kernel
theorem dX12_findDeep_58 : decode cX12_findDeep 58 = .ok (.iconst 1, 1) := by decide +kernel
theorem dX12_findDeep_59 : decode cX12_findDeep 59 = .ok (.iadd, 1) := by decide +kernel
theorem dX12_findDeep_60 : decode cX12_findDeep 60 = .ok (.iastore, 1) := by decide +kernel
theorem dX12_findDeep_61 : decode cX12_findDeep 61 = .ok (.iinc 3 1, 3) := by decide +kernel
theorem dX12_findDeep_64 : decode cX12_findDeep 64 = .ok (.goto (-23), 3) := by decide +kernel
theorem dX12_findDeep_67 : decode cX12_findDeep 67 = .ok (.iinc 2 1, 3) := by decide +kernel
theorem dX12_findDeep_70 : decode cX12_findDeep 70 = .ok (.goto (-43), 3) := by decide +kernel
theorem dX12_findDeep_73 : decode cX12_findDeep 73 = .ok (.return_, 1) := by decide +kernel
theorem dX12_atMost_0 : decode cX12_atMost 0 = .ok (.iload_n 1, 1) := by decide +kernel
theorem dX12_atMost_1 : decode cX12_atMost 1 = .ok (.ldc_w 269, 3) := by decide +kernel
theorem dX12_atMost_4 : decode cX12_atMost 4 = .ok (.if_icmp .le 9, 3) := by decide +kernel
theorem dX12_atMost_7 : decode cX12_atMost 7 = .ok (.ldc_w 269, 3) := by decide +kernel
theorem dX12_atMost_10 : decode cX12_atMost 10 = .ok (.goto 4, 3) := by decide +kernel
theorem dX12_atMost_13 : decode cX12_atMost 13 = .ok (.iload_n 1, 1) := by decide +kernel
theorem dX12_atMost_14 : decode cX12_atMost 14 = .ok (.ireturn, 1) := by decide +kernel
theorem dX12_heldAt_0 : decode cX12_heldAt 0 = .ok (.aload_n 0, 1) := by decide +kernel
theorem dX12_heldAt_1 : decode cX12_heldAt 1 = .ok (.aload_n 0, 1) := by decide +kernel
theorem dX12_heldAt_2 : decode cX12_heldAt 2 = .ok (.iload_n 1, 1) := by decide +kernel
theorem dX12_heldAt_3 : decode cX12_heldAt 3 = .ok (.iload_n 2, 1) := by decide +kernel
theorem dX12_heldAt_4 : decode cX12_heldAt 4 = .ok (.invokevirtual 92, 3) := by decide +kernel
theorem dX12_heldAt_7 : decode cX12_heldAt 7 = .ok (.invokevirtual 104, 3) := by decide +kernel
theorem dX12_heldAt_10 : decode cX12_heldAt 10 = .ok (.istore 5, 2) := by decide +kernel
theorem dX12_heldAt_12 : decode cX12_heldAt 12 = .ok (.iload 5, 2) := by decide +kernel
theorem dX12_heldAt_14 : decode cX12_heldAt 14 = .ok (.iconst 2, 1) := by decide +kernel
theorem dX12_heldAt_15 : decode cX12_heldAt 15 = .ok (.if_icmp .ne 14, 3) := by decide +kernel
theorem dX12_heldAt_18 : decode cX12_heldAt 18 = .ok (.aload_n 0, 1) := by decide +kernel
theorem dX12_heldAt_19 : decode cX12_heldAt 19 = .ok (.iload_n 1, 1) := by decide +kernel
theorem dX12_heldAt_20 : decode cX12_heldAt 20 = .ok (.iload_n 2, 1) := by decide +kernel
theorem dX12_heldAt_21 : decode cX12_heldAt 21 = .ok (.iconst 1, 1) := by decide +kernel
theorem dX12_heldAt_22 : decode cX12_heldAt 22 = .ok (.iadd, 1) := by decide +kernel
theorem dX12_heldAt_23 : decode cX12_heldAt 23 = .ok (.invokevirtual 266, 3) := by decide +kernel
theorem dX12_heldAt_26 : decode cX12_heldAt 26 = .ok (.goto 4, 3) := by decide +kernel
theorem dX12_heldAt_29 : decode cX12_heldAt 29 = .ok (.iconst 0, 1) := by decide +kernel
theorem dX12_heldAt_30 : decode cX12_heldAt 30 = .ok (.istore 6, 2) := by decide +kernel
theorem dX12_heldAt_32 : decode cX12_heldAt 32 = .ok (.ldc_w 269, 3) := by decide +kernel
theorem dX12_heldAt_35 : decode cX12_heldAt 35 = .ok (.istore 7, 2) := by decide +kernel
theorem dX12_heldAt_37 : decode cX12_heldAt 37 = .ok (.aload_n 0, 1) := by decide +kernel
theorem dX12_heldAt_38 : decode cX12_heldAt 38 = .ok (.iload_n 1, 1) := by decide +kernel
theorem dX12_heldAt_39 : decode cX12_heldAt 39 = .ok (.iload_n 2, 1) := by decide +kernel
theorem dX12_heldAt_40 : decode cX12_heldAt 40 = .ok (.invokevirtual 92, 3) := by decide +kernel
theorem dX12_heldAt_43 : decode cX12_heldAt 43 = .ok (.aload_n 0, 1) := by decide +kernel
theorem dX12_heldAt_44 : decode cX12_heldAt 44 = .ok (.iload_n 3, 1) := by decide +kernel
theorem dX12_heldAt_45 : decode cX12_heldAt 45 = .ok (.iload 4, 2) := by decide +kernel
theorem dX12_heldAt_47 : decode cX12_heldAt 47 = .ok (.invokevirtual 92, 3) := by decide +kernel
theorem dX12_heldAt_50 : decode cX12_heldAt 50 = .ok (.if_icmp .ne 71, 3) := by decide +kernel
theorem dX12_heldAt_53 : decode cX12_heldAt 53 = .ok (.iconst 0, 1) := by decide +kernel
theorem dX12_heldAt_54 : decode cX12_heldAt 54 = .ok (.istore 7, 2) := by decide +kernel
theorem dX12_heldAt_56 : decode cX12_heldAt 56 = .ok (.iload 7, 2) := by decide +kernel
theorem dX12_heldAt_58 : decode cX12_heldAt 58 = .ok (.iload 5, 2) := by decide +kernel
theorem dX12_heldAt_60 : decode cX12_heldAt 60 = .ok (.ifCond .le 22, 3) := by decide +kernel
theorem dX12_heldAt_63 : decode cX12_heldAt 63 = .ok (.aload_n 0, 1) := by decide +kernel
theorem dX12_heldAt_64 : decode cX12_heldAt 64 = .ok (.getfield 61, 3) := by decide +kernel
theorem dX12_heldAt_67 : decode cX12_heldAt 67 = .ok (.bipush 40, 2) := by decide +kernel
theorem dX12_heldAt_69 : decode cX12_heldAt 69 = .ok (.iload_n 2, 1) := by decide +kernel
theorem dX12_heldAt_70 : decode cX12_heldAt 70 = .ok (.iconst 1, 1) := by decide +kernel
theorem dX12_heldAt_71 : decode cX12_heldAt 71 = .ok (.iadd, 1) := by decide +kernel
theorem dX12_heldAt_72 : decode cX12_heldAt 72 = .ok (.imul, 1) := by decide +kernel
theorem dX12_heldAt_73 : decode cX12_heldAt 73 = .ok (.iload 4, 2) := by decide +kernel
theorem dX12_heldAt_75 : decode cX12_heldAt 75 = .ok (.iadd, 1) := by decide +kernel
theorem dX12_heldAt_76 : decode cX12_heldAt 76 = .ok (.iconst 1, 1) := by decide +kernel
theorem dX12_heldAt_77 : decode cX12_heldAt 77 = .ok (.iadd, 1) := by decide +kernel
theorem dX12_heldAt_78 : decode cX12_heldAt 78 = .ok (.iaload, 1) := by decide +kernel
theorem dX12_heldAt_79 : decode cX12_heldAt 79 = .ok (.goto 4, 3) := by decide +kernel
theorem dX12_heldAt_82 : decode cX12_heldAt 82 = .ok (.iconst 0, 1) := by decide +kernel
theorem dX12_heldAt_83 : decode cX12_heldAt 83 = .ok (.iadd, 1) := by decide +kernel
theorem dX12_heldAt_84 : decode cX12_heldAt 84 = .ok (.istore 7, 2) := by decide +kernel
theorem dX12_heldAt_86 : decode cX12_heldAt 86 = .ok (.iload 7, 2) := by decide +kernel
theorem dX12_heldAt_88 : decode cX12_heldAt 88 = .ok (.iload 5, 2) := by decide +kernel
theorem dX12_heldAt_90 : decode cX12_heldAt 90 = .ok (.iconst 1, 1) := by decide +kernel
theorem dX12_heldAt_91 : decode cX12_heldAt 91 = .ok (.if_icmp .le 26, 3) := by decide +kernel
theorem dX12_heldAt_94 : decode cX12_heldAt 94 = .ok (.aload_n 0, 1) := by decide +kernel
theorem dX12_heldAt_95 : decode cX12_heldAt 95 = .ok (.getfield 61, 3) := by decide +kernel
theorem dX12_heldAt_98 : decode cX12_heldAt 98 = .ok (.bipush 40, 2) := by decide +kernel
theorem dX12_heldAt_100 : decode cX12_heldAt 100 = .ok (.iload 6, 2) := by decide +kernel
theorem dX12_heldAt_102 : decode cX12_heldAt 102 = .ok (.imul, 1) := by decide +kernel
theorem dX12_heldAt_103 : decode cX12_heldAt 103 = .ok (.aload_n 0, 1) := by decide +kernel
theorem dX12_heldAt_104 : decode cX12_heldAt 104 = .ok (.iload_n 3, 1) := by decide +kernel
theorem dX12_heldAt_105 : decode cX12_heldAt 105 = .ok (.iload 4, 2) := by decide +kernel
theorem dX12_heldAt_107 : decode cX12_heldAt 107 = .ok (.iconst 1, 1) := by decide +kernel
theorem dX12_heldAt_108 : decode cX12_heldAt 108 = .ok (.iadd, 1) := by decide +kernel
theorem dX12_heldAt_109 : decode cX12_heldAt 109 = .ok (.invokevirtual 266, 3) := by decide +kernel
theorem dX12_heldAt_112 : decode cX12_heldAt 112 = .ok (.iadd, 1) := by decide +kernel
theorem dX12_heldAt_113 : decode cX12_heldAt 113 = .ok (.iaload, 1) := by decide +kernel
theorem dX12_heldAt_114 : decode cX12_heldAt 114 = .ok (.goto 4, 3) := by decide +kernel
theorem dX12_heldAt_117 : decode cX12_heldAt 117 = .ok (.iconst 0, 1) := by decide +kernel
theorem dX12_heldAt_118 : decode cX12_heldAt 118 = .ok (.iadd, 1) := by decide +kernel
theorem dX12_heldAt_119 : decode cX12_heldAt 119 = .ok (.istore 7, 2) := by decide +kernel
theorem dX12_heldAt_121 : decode cX12_heldAt 121 = .ok (.iload 5, 2) := by decide +kernel
theorem dX12_heldAt_123 : decode cX12_heldAt 123 = .ok (.ifCond .le 27, 3) := by decide +kernel
theorem dX12_heldAt_126 : decode cX12_heldAt 126 = .ok (.aload_n 0, 1) := by decide +kernel
theorem dX12_heldAt_127 : decode cX12_heldAt 127 = .ok (.getfield 61, 3) := by decide +kernel
theorem dX12_heldAt_130 : decode cX12_heldAt 130 = .ok (.bipush 40, 2) := by decide +kernel
theorem dX12_heldAt_132 : decode cX12_heldAt 132 = .ok (.iload_n 2, 1) := by decide +kernel
theorem dX12_heldAt_133 : decode cX12_heldAt 133 = .ok (.iconst 1, 1) := by decide +kernel
theorem dX12_heldAt_134 : decode cX12_heldAt 134 = .ok (.iadd, 1) := by decide +kernel
theorem dX12_heldAt_135 : decode cX12_heldAt 135 = .ok (.imul, 1) := by decide +kernel
theorem dX12_heldAt_136 : decode cX12_heldAt 136 = .ok (.iload 4, 2) := by decide +kernel
theorem dX12_heldAt_138 : decode cX12_heldAt 138 = .ok (.iadd, 1) := by decide +kernel
theorem dX12_heldAt_139 : decode cX12_heldAt 139 = .ok (.iaload, 1) := by decide +kernel
theorem dX12_heldAt_140 : decode cX12_heldAt 140 = .ok (.aload_n 0, 1) := by decide +kernel
theorem dX12_heldAt_141 : decode cX12_heldAt 141 = .ok (.getfield 64, 3) := by decide +kernel
theorem dX12_heldAt_144 : decode cX12_heldAt 144 = .ok (.iload_n 2, 1) := by decide +kernel
theorem dX12_heldAt_145 : decode cX12_heldAt 145 = .ok (.iaload, 1) := by decide +kernel
theorem dX12_heldAt_146 : decode cX12_heldAt 146 = .ok (.iadd, 1) := by decide +kernel
theorem dX12_heldAt_147 : decode cX12_heldAt 147 = .ok (.goto 6, 3) := by decide +kernel
theorem dX12_heldAt_150 : decode cX12_heldAt 150 = .ok (.ldc_w 269, 3) := by decide +kernel
theorem dX12_heldAt_153 : decode cX12_heldAt 153 = .ok (.istore 8, 2) := by decide +kernel
theorem dX12_heldAt_155 : decode cX12_heldAt 155 = .ok (.iload 8, 2) := by decide +kernel
theorem dX12_heldAt_157 : decode cX12_heldAt 157 = .ok (.iload 7, 2) := by decide +kernel
theorem dX12_heldAt_159 : decode cX12_heldAt 159 = .ok (.if_icmp .ge 8, 3) := by decide +kernel
theorem dX12_heldAt_162 : decode cX12_heldAt 162 = .ok (.iload 8, 2) := by decide +kernel
theorem dX12_heldAt_164 : decode cX12_heldAt 164 = .ok (.goto 5, 3) := by decide +kernel
theorem dX12_heldAt_167 : decode cX12_heldAt 167 = .ok (.iload 7, 2) := by decide +kernel
theorem dX12_heldAt_169 : decode cX12_heldAt 169 = .ok (.istore 7, 2) := by decide +kernel
theorem dX12_heldAt_171 : decode cX12_heldAt 171 = .ok (.iload 5, 2) := by decide +kernel
theorem dX12_heldAt_173 : decode cX12_heldAt 173 = .ok (.iconst 1, 1) := by decide +kernel
theorem dX12_heldAt_174 : decode cX12_heldAt 174 = .ok (.if_icmp .le 26, 3) := by decide +kernel
theorem dX12_heldAt_177 : decode cX12_heldAt 177 = .ok (.aload_n 0, 1) := by decide +kernel
theorem dX12_heldAt_178 : decode cX12_heldAt 178 = .ok (.getfield 61, 3) := by decide +kernel
theorem dX12_heldAt_181 : decode cX12_heldAt 181 = .ok (.bipush 40, 2) := by decide +kernel
theorem dX12_heldAt_183 : decode cX12_heldAt 183 = .ok (.iload 6, 2) := by decide +kernel
theorem dX12_heldAt_185 : decode cX12_heldAt 185 = .ok (.imul, 1) := by decide +kernel
theorem dX12_heldAt_186 : decode cX12_heldAt 186 = .ok (.iload 4, 2) := by decide +kernel
theorem dX12_heldAt_188 : decode cX12_heldAt 188 = .ok (.iadd, 1) := by decide +kernel
theorem dX12_heldAt_189 : decode cX12_heldAt 189 = .ok (.iaload, 1) := by decide +kernel
theorem dX12_heldAt_190 : decode cX12_heldAt 190 = .ok (.aload_n 0, 1) := by decide +kernel
theorem dX12_heldAt_191 : decode cX12_heldAt 191 = .ok (.getfield 64, 3) := by decide +kernel
theorem dX12_heldAt_194 : decode cX12_heldAt 194 = .ok (.iload_n 2, 1) := by decide +kernel
theorem dX12_heldAt_195 : decode cX12_heldAt 195 = .ok (.iaload, 1) := by decide +kernel
theorem dX12_heldAt_196 : decode cX12_heldAt 196 = .ok (.iadd, 1) := by decide +kernel
theorem dX12_heldAt_197 : decode cX12_heldAt 197 = .ok (.goto 6, 3) := by decide +kernel
theorem dX12_heldAt_200 : decode cX12_heldAt 200 = .ok (.ldc_w 269, 3) := by decide +kernel
theorem dX12_heldAt_203 : decode cX12_heldAt 203 = .ok (.istore 8, 2) := by decide +kernel
theorem dX12_heldAt_205 : decode cX12_heldAt 205 = .ok (.aload_n 0, 1) := by decide +kernel
theorem dX12_heldAt_206 : decode cX12_heldAt 206 = .ok (.iload 8, 2) := by decide +kernel
theorem dX12_heldAt_208 : decode cX12_heldAt 208 = .ok (.iload 7, 2) := by decide +kernel
theorem dX12_heldAt_210 : decode cX12_heldAt 210 = .ok (.if_icmp .ge 8, 3) := by decide +kernel
theorem dX12_heldAt_213 : decode cX12_heldAt 213 = .ok (.iload 8, 2) := by decide +kernel
theorem dX12_heldAt_215 : decode cX12_heldAt 215 = .ok (.goto 5, 3) := by decide +kernel
theorem dX12_heldAt_218 : decode cX12_heldAt 218 = .ok (.iload 7, 2) := by decide +kernel
theorem dX12_heldAt_220 : decode cX12_heldAt 220 = .ok (.invokevirtual 270, 3) := by decide +kernel
theorem dX12_heldAt_223 : decode cX12_heldAt 223 = .ok (.ireturn, 1) := by decide +kernel
theorem dX12_differenceOf_0 : decode cX12_differenceOf 0 = .ok (.aload_n 0, 1) := by decide +kernel
theorem dX12_differenceOf_1 : decode cX12_differenceOf 1 = .ok (.iload_n 1, 1) := by decide +kernel
theorem dX12_differenceOf_2 : decode cX12_differenceOf 2 = .ok (.invokevirtual 273, 3) := by decide +kernel
theorem dX12_differenceOf_5 : decode cX12_differenceOf 5 = .ok (.aload_n 0, 1) := by decide +kernel
theorem dX12_differenceOf_6 : decode cX12_differenceOf 6 = .ok (.getfield 13, 3) := by decide +kernel
theorem dX12_differenceOf_9 : decode cX12_differenceOf 9 = .ok (.iload_n 1, 1) := by decide +kernel
theorem dX12_differenceOf_10 : decode cX12_differenceOf 10 = .ok (.iaload, 1) := by decide +kernel
theorem dX12_differenceOf_11 : decode cX12_differenceOf 11 = .ok (.iconst 1, 1) := by decide +kernel
theorem dX12_differenceOf_12 : decode cX12_differenceOf 12 = .ok (.isub, 1) := by decide +kernel
theorem dX12_differenceOf_13 : decode cX12_differenceOf 13 = .ok (.istore_n 3, 1) := by decide +kernel
theorem dX12_differenceOf_14 : decode cX12_differenceOf 14 = .ok (.iload_n 3, 1) := by decide +kernel
theorem dX12_differenceOf_15 : decode cX12_differenceOf 15 = .ok (.ifCond .lt 51, 3) := by decide +kernel
theorem dX12_differenceOf_18 : decode cX12_differenceOf 18 = .ok (.aload_n 0, 1) := by decide +kernel
theorem dX12_differenceOf_19 : decode cX12_differenceOf 19 = .ok (.getfield 13, 3) := by decide +kernel
theorem dX12_differenceOf_22 : decode cX12_differenceOf 22 = .ok (.iload_n 2, 1) := by decide +kernel
theorem dX12_differenceOf_23 : decode cX12_differenceOf 23 = .ok (.iaload, 1) := by decide +kernel
theorem dX12_differenceOf_24 : decode cX12_differenceOf 24 = .ok (.iconst 1, 1) := by decide +kernel
theorem dX12_differenceOf_25 : decode cX12_differenceOf 25 = .ok (.isub, 1) := by decide +kernel
theorem dX12_differenceOf_26 : decode cX12_differenceOf 26 = .ok (.istore 4, 2) := by decide +kernel
theorem dX12_differenceOf_28 : decode cX12_differenceOf 28 = .ok (.iload 4, 2) := by decide +kernel
theorem dX12_differenceOf_30 : decode cX12_differenceOf 30 = .ok (.ifCond .lt 30, 3) := by decide +kernel
theorem dX12_differenceOf_33 : decode cX12_differenceOf 33 = .ok (.aload_n 0, 1) := by decide +kernel
theorem dX12_differenceOf_34 : decode cX12_differenceOf 34 = .ok (.getfield 61, 3) := by decide +kernel
theorem dX12_differenceOf_37 : decode cX12_differenceOf 37 = .ok (.bipush 40, 2) := by decide +kernel
theorem dX12_differenceOf_39 : decode cX12_differenceOf 39 = .ok (.iload_n 3, 1) := by decide +kernel
theorem dX12_differenceOf_40 : decode cX12_differenceOf 40 = .ok (.imul, 1) := by decide +kernel
theorem dX12_differenceOf_41 : decode cX12_differenceOf 41 = .ok (.iload 4, 2) := by decide +kernel
theorem dX12_differenceOf_43 : decode cX12_differenceOf 43 = .ok (.iadd, 1) := by decide +kernel
theorem dX12_differenceOf_44 : decode cX12_differenceOf 44 = .ok (.aload_n 0, 1) := by decide +kernel
theorem dX12_differenceOf_45 : decode cX12_differenceOf 45 = .ok (.iload_n 1, 1) := by decide +kernel
theorem dX12_differenceOf_46 : decode cX12_differenceOf 46 = .ok (.iload_n 3, 1) := by decide +kernel
theorem dX12_differenceOf_47 : decode cX12_differenceOf 47 = .ok (.iload_n 2, 1) := by decide +kernel
theorem dX12_differenceOf_48 : decode cX12_differenceOf 48 = .ok (.iload 4, 2) := by decide +kernel
theorem dX12_differenceOf_50 : decode cX12_differenceOf 50 = .ok (.invokevirtual 276, 3) := by decide +kernel
theorem dX12_differenceOf_53 : decode cX12_differenceOf 53 = .ok (.iastore, 1) := by decide +kernel
theorem dX12_differenceOf_54 : decode cX12_differenceOf 54 = .ok (.iinc 4 (-1), 3) := by decide +kernel
theorem dX12_differenceOf_57 : decode cX12_differenceOf 57 = .ok (.goto (-29), 3) := by decide +kernel
theorem dX12_differenceOf_60 : decode cX12_differenceOf 60 = .ok (.iinc 3 (-1), 3) := by decide +kernel
theorem dX12_differenceOf_63 : decode cX12_differenceOf 63 = .ok (.goto (-49), 3) := by decide +kernel
theorem dX12_differenceOf_66 : decode cX12_differenceOf 66 = .ok (.aload_n 0, 1) := by decide +kernel
theorem dX12_differenceOf_67 : decode cX12_differenceOf 67 = .ok (.getfield 61, 3) := by decide +kernel
theorem dX12_differenceOf_70 : decode cX12_differenceOf 70 = .ok (.iconst 0, 1) := by decide +kernel
theorem dX12_differenceOf_71 : decode cX12_differenceOf 71 = .ok (.iaload, 1) := by decide +kernel
theorem dX12_differenceOf_72 : decode cX12_differenceOf 72 = .ok (.ireturn, 1) := by decide +kernel
theorem dX12_difference_0 : decode cX12_difference 0 = .ok (.aload_n 0, 1) := by decide +kernel
theorem dX12_difference_1 : decode cX12_difference 1 = .ok (.getfield 164, 3) := by decide +kernel
theorem dX12_difference_4 : decode cX12_difference 4 = .ok (.ifCond .ne 6, 3) := by decide +kernel
theorem dX12_difference_7 : decode cX12_difference 7 = .ok (.bipush (-3), 2) := by decide +kernel
theorem dX12_difference_9 : decode cX12_difference 9 = .ok (.ireturn, 1) := by decide +kernel
theorem dX12_difference_10 : decode cX12_difference 10 = .ok (.aload_n 0, 1) := by decide +kernel
theorem dX12_difference_11 : decode cX12_difference 11 = .ok (.iconst 0, 1) := by decide +kernel
theorem dX12_difference_12 : decode cX12_difference 12 = .ok (.iconst 1, 1) := by decide +kernel
theorem dX12_difference_13 : decode cX12_difference 13 = .ok (.invokevirtual 279, 3) := by decide +kernel
theorem dX12_difference_16 : decode cX12_difference 16 = .ok (.istore_n 1, 1) := by decide +kernel
theorem dX12_difference_17 : decode cX12_difference 17 = .ok (.iload_n 1, 1) := by decide +kernel
theorem dX12_difference_18 : decode cX12_difference 18 = .ok (.ldc_w 269, 3) := by decide +kernel
theorem dX12_difference_21 : decode cX12_difference 21 = .ok (.if_icmp .lt 8, 3) := by decide +kernel
theorem dX12_difference_24 : decode cX12_difference 24 = .ok (.bipush (-9), 2) := by decide +kernel
theorem dX12_difference_26 : decode cX12_difference 26 = .ok (.goto 4, 3) := by decide +kernel
theorem dX12_difference_29 : decode cX12_difference 29 = .ok (.iload_n 1, 1) := by decide +kernel
theorem dX12_difference_30 : decode cX12_difference 30 = .ok (.ireturn, 1) := by decide +kernel
theorem dX12_binds_0 : decode cX12_binds 0 = .ok (.aload_n 0, 1) := by decide +kernel
theorem dX12_binds_1 : decode cX12_binds 1 = .ok (.iload_n 2, 1) := by decide +kernel
theorem dX12_binds_2 : decode cX12_binds 2 = .ok (.iload_n 3, 1) := by decide +kernel
theorem dX12_binds_3 : decode cX12_binds 3 = .ok (.invokevirtual 266, 3) := by decide +kernel
theorem dX12_binds_6 : decode cX12_binds 6 = .ok (.iload_n 3, 1) := by decide +kernel
theorem dX12_binds_7 : decode cX12_binds 7 = .ok (.isub, 1) := by decide +kernel
theorem dX12_binds_8 : decode cX12_binds 8 = .ok (.istore 4, 2) := by decide +kernel
theorem dX12_binds_10 : decode cX12_binds 10 = .ok (.aload_n 0, 1) := by decide +kernel
theorem dX12_binds_11 : decode cX12_binds 11 = .ok (.getfield 67, 3) := by decide +kernel
theorem dX12_binds_14 : decode cX12_binds 14 = .ok (.iload_n 1, 1) := by decide +kernel
theorem dX12_binds_15 : decode cX12_binds 15 = .ok (.iaload, 1) := by decide +kernel
theorem dX12_binds_16 : decode cX12_binds 16 = .ok (.bipush (-9), 2) := by decide +kernel
theorem dX12_binds_18 : decode cX12_binds 18 = .ok (.if_icmp .ne 20, 3) := by decide +kernel
theorem dX12_binds_21 : decode cX12_binds 21 = .ok (.aload_n 0, 1) := by decide +kernel
theorem dX12_binds_22 : decode cX12_binds 22 = .ok (.getfield 67, 3) := by decide +kernel
theorem dX12_binds_25 : decode cX12_binds 25 = .ok (.iload_n 1, 1) := by decide +kernel
theorem dX12_binds_26 : decode cX12_binds 26 = .ok (.iload_n 3, 1) := by decide +kernel
theorem dX12_binds_27 : decode cX12_binds 27 = .ok (.iastore, 1) := by decide +kernel
theorem dX12_binds_28 : decode cX12_binds 28 = .ok (.aload_n 0, 1) := by decide +kernel
theorem dX12_binds_29 : decode cX12_binds 29 = .ok (.getfield 70, 3) := by decide +kernel
theorem dX12_binds_32 : decode cX12_binds 32 = .ok (.iload_n 1, 1) := by decide +kernel
theorem dX12_binds_33 : decode cX12_binds 33 = .ok (.iload 4, 2) := by decide +kernel
theorem dX12_binds_35 : decode cX12_binds 35 = .ok (.iastore, 1) := by decide +kernel
theorem dX12_binds_36 : decode cX12_binds 36 = .ok (.iconst 1, 1) := by decide +kernel
theorem dX12_binds_37 : decode cX12_binds 37 = .ok (.ireturn, 1) := by decide +kernel
theorem dX12_binds_38 : decode cX12_binds 38 = .ok (.aload_n 0, 1) := by decide +kernel
theorem dX12_binds_39 : decode cX12_binds 39 = .ok (.getfield 70, 3) := by decide +kernel
theorem dX12_binds_42 : decode cX12_binds 42 = .ok (.iload_n 1, 1) := by decide +kernel
theorem dX12_binds_43 : decode cX12_binds 43 = .ok (.iaload, 1) := by decide +kernel
theorem dX12_binds_44 : decode cX12_binds 44 = .ok (.iload 4, 2) := by decide +kernel
theorem dX12_binds_46 : decode cX12_binds 46 = .ok (.if_icmp .ne 25, 3) := by decide +kernel
theorem dX12_binds_49 : decode cX12_binds 49 = .ok (.aload_n 0, 1) := by decide +kernel
theorem dX12_binds_50 : decode cX12_binds 50 = .ok (.iload_n 2, 1) := by decide +kernel
theorem dX12_binds_51 : decode cX12_binds 51 = .ok (.iload_n 3, 1) := by decide +kernel
theorem dX12_binds_52 : decode cX12_binds 52 = .ok (.iload_n 2, 1) := by decide +kernel
theorem dX12_binds_53 : decode cX12_binds 53 = .ok (.aload_n 0, 1) := by decide +kernel
theorem dX12_binds_54 : decode cX12_binds 54 = .ok (.getfield 67, 3) := by decide +kernel
theorem dX12_binds_57 : decode cX12_binds 57 = .ok (.iload_n 1, 1) := by decide +kernel
theorem dX12_binds_58 : decode cX12_binds 58 = .ok (.iaload, 1) := by decide +kernel
theorem dX12_binds_59 : decode cX12_binds 59 = .ok (.iload 4, 2) := by decide +kernel
theorem dX12_binds_61 : decode cX12_binds 61 = .ok (.invokevirtual 282, 3) := by decide +kernel
theorem dX12_binds_64 : decode cX12_binds 64 = .ok (.ifCond .eq 7, 3) := by decide +kernel
theorem dX12_binds_67 : decode cX12_binds 67 = .ok (.iconst 1, 1) := by decide +kernel
theorem dX12_binds_68 : decode cX12_binds 68 = .ok (.goto 4, 3) := by decide +kernel
theorem dX12_binds_71 : decode cX12_binds 71 = .ok (.iconst 0, 1) := by decide +kernel
theorem dX12_binds_72 : decode cX12_binds 72 = .ok (.ireturn, 1) := by decide +kernel
theorem dX12_matches_0 : decode cX12_matches 0 = .ok (.iconst 0, 1) := by decide +kernel
theorem dX12_matches_1 : decode cX12_matches 1 = .ok (.istore 5, 2) := by decide +kernel
theorem dX12_matches_3 : decode cX12_matches 3 = .ok (.iload 5, 2) := by decide +kernel
theorem dX12_matches_5 : decode cX12_matches 5 = .ok (.iconst 3, 1) := by decide +kernel
theorem dX12_matches_6 : decode cX12_matches 6 = .ok (.if_icmp .ge 18, 3) := by decide +kernel
theorem dX12_matches_9 : decode cX12_matches 9 = .ok (.aload_n 0, 1) := by decide +kernel
theorem dX12_matches_10 : decode cX12_matches 10 = .ok (.getfield 67, 3) := by decide +kernel
theorem dX12_matches_13 : decode cX12_matches 13 = .ok (.iload 5, 2) := by decide +kernel
theorem dX12_matches_15 : decode cX12_matches 15 = .ok (.bipush (-9), 2) := by decide +kernel
theorem dX12_matches_17 : decode cX12_matches 17 = .ok (.iastore, 1) := by decide +kernel
theorem dX12_matches_18 : decode cX12_matches 18 = .ok (.iinc 5 1, 3) := by decide +kernel
theorem dX12_matches_21 : decode cX12_matches 21 = .ok (.goto (-18), 3) := by decide +kernel
theorem dX12_matches_24 : decode cX12_matches 24 = .ok (.iload_n 3, 1) := by decide +kernel
theorem dX12_matches_25 : decode cX12_matches 25 = .ok (.istore 5, 2) := by decide +kernel
theorem dX12_matches_27 : decode cX12_matches 27 = .ok (.iconst 0, 1) := by decide +kernel
theorem dX12_matches_28 : decode cX12_matches 28 = .ok (.istore 6, 2) := by decide +kernel
theorem dX12_matches_30 : decode cX12_matches 30 = .ok (.iload 6, 2) := by decide +kernel
theorem dX12_matches_32 : decode cX12_matches 32 = .ok (.aload_n 0, 1) := by decide +kernel
theorem dX12_matches_33 : decode cX12_matches 33 = .ok (.getfield 13, 3) := by decide +kernel
theorem dX12_matches_36 : decode cX12_matches 36 = .ok (.iload_n 1, 1) := by decide +kernel
theorem dX12_matches_37 : decode cX12_matches 37 = .ok (.iaload, 1) := by decide +kernel
theorem dX12_matches_38 : decode cX12_matches 38 = .ok (.if_icmp .ge 95, 3) := by decide +kernel
theorem dX12_matches_41 : decode cX12_matches 41 = .ok (.aload_n 0, 1) := by decide +kernel
theorem dX12_matches_42 : decode cX12_matches 42 = .ok (.iload_n 1, 1) := by decide +kernel
theorem dX12_matches_43 : decode cX12_matches 43 = .ok (.iload 6, 2) := by decide +kernel
theorem dX12_matches_45 : decode cX12_matches 45 = .ok (.invokevirtual 92, 3) := by decide +kernel
theorem dX12_matches_48 : decode cX12_matches 48 = .ok (.istore 7, 2) := by decide +kernel
theorem dX12_matches_50 : decode cX12_matches 50 = .ok (.iload 5, 2) := by decide +kernel
theorem dX12_matches_52 : decode cX12_matches 52 = .ok (.aload_n 0, 1) := by decide +kernel
theorem dX12_matches_53 : decode cX12_matches 53 = .ok (.getfield 13, 3) := by decide +kernel
theorem dX12_matches_56 : decode cX12_matches 56 = .ok (.iload_n 2, 1) := by decide +kernel
theorem dX12_matches_57 : decode cX12_matches 57 = .ok (.iaload, 1) := by decide +kernel
theorem dX12_matches_58 : decode cX12_matches 58 = .ok (.if_icmp .lt 5, 3) := by decide +kernel
theorem dX12_matches_61 : decode cX12_matches 61 = .ok (.iconst 0, 1) := by decide +kernel
theorem dX12_matches_62 : decode cX12_matches 62 = .ok (.ireturn, 1) := by decide +kernel
theorem dX12_matches_63 : decode cX12_matches 63 = .ok (.iload 7, 2) := by decide +kernel
theorem dX12_matches_65 : decode cX12_matches 65 = .ok (.invokestatic 111, 3) := by decide +kernel
theorem dX12_matches_68 : decode cX12_matches 68 = .ok (.ifCond .eq 42, 3) := by decide +kernel
theorem dX12_matches_71 : decode cX12_matches 71 = .ok (.iload 7, 2) := by decide +kernel
theorem dX12_matches_73 : decode cX12_matches 73 = .ok (.bipush 120, 2) := by decide +kernel
theorem dX12_matches_75 : decode cX12_matches 75 = .ok (.isub, 1) := by decide +kernel
theorem dX12_matches_76 : decode cX12_matches 76 = .ok (.iload 4, 2) := by decide +kernel
theorem dX12_matches_78 : decode cX12_matches 78 = .ok (.if_icmp .eq 32, 3) := by decide +kernel
theorem dX12_matches_81 : decode cX12_matches 81 = .ok (.aload_n 0, 1) := by decide +kernel
theorem dX12_matches_82 : decode cX12_matches 82 = .ok (.iload 7, 2) := by decide +kernel
theorem dX12_matches_84 : decode cX12_matches 84 = .ok (.bipush 120, 2) := by decide +kernel
theorem dX12_matches_86 : decode cX12_matches 86 = .ok (.isub, 1) := by decide +kernel
theorem dX12_matches_87 : decode cX12_matches 87 = .ok (.iload_n 2, 1) := by decide +kernel
theorem dX12_matches_88 : decode cX12_matches 88 = .ok (.iload 5, 2) := by decide +kernel
theorem dX12_matches_90 : decode cX12_matches 90 = .ok (.invokevirtual 286, 3) := by decide +kernel
theorem dX12_matches_93 : decode cX12_matches 93 = .ok (.ifCond .ne 5, 3) := by decide +kernel
theorem dX12_matches_96 : decode cX12_matches 96 = .ok (.iconst 0, 1) := by decide +kernel
theorem dX12_matches_97 : decode cX12_matches 97 = .ok (.ireturn, 1) := by decide +kernel
theorem dX12_matches_98 : decode cX12_matches 98 = .ok (.aload_n 0, 1) := by decide +kernel
theorem dX12_matches_99 : decode cX12_matches 99 = .ok (.iload_n 2, 1) := by decide +kernel
theorem dX12_matches_100 : decode cX12_matches 100 = .ok (.iload 5, 2) := by decide +kernel
theorem dX12_matches_102 : decode cX12_matches 102 = .ok (.invokevirtual 266, 3) := by decide +kernel
theorem dX12_matches_105 : decode cX12_matches 105 = .ok (.istore 5, 2) := by decide +kernel
theorem dX12_matches_107 : decode cX12_matches 107 = .ok (.goto 20, 3) := by decide +kernel
theorem dX12_matches_110 : decode cX12_matches 110 = .ok (.aload_n 0, 1) := by decide +kernel
theorem dX12_matches_111 : decode cX12_matches 111 = .ok (.iload_n 2, 1) := by decide +kernel
theorem dX12_matches_112 : decode cX12_matches 112 = .ok (.iload 5, 2) := by decide +kernel
theorem dX12_matches_114 : decode cX12_matches 114 = .ok (.invokevirtual 92, 3) := by decide +kernel
theorem dX12_matches_117 : decode cX12_matches 117 = .ok (.iload 7, 2) := by decide +kernel
theorem dX12_matches_119 : decode cX12_matches 119 = .ok (.if_icmp .eq 5, 3) := by decide +kernel
theorem dX12_matches_122 : decode cX12_matches 122 = .ok (.iconst 0, 1) := by decide +kernel
theorem dX12_matches_123 : decode cX12_matches 123 = .ok (.ireturn, 1) := by decide +kernel
theorem dX12_matches_124 : decode cX12_matches 124 = .ok (.iinc 5 1, 3) := by decide +kernel
theorem dX12_matches_127 : decode cX12_matches 127 = .ok (.iinc 6 1, 3) := by decide +kernel
theorem dX12_matches_130 : decode cX12_matches 130 = .ok (.goto (-100), 3) := by decide +kernel
theorem dX12_matches_133 : decode cX12_matches 133 = .ok (.iconst 1, 1) := by decide +kernel
theorem dX12_matches_134 : decode cX12_matches 134 = .ok (.ireturn, 1) := by decide +kernel
theorem dX12_longWith_0 : decode cX12_longWith 0 = .ok (.iconst 0, 1) := by decide +kernel
theorem dX12_longWith_1 : decode cX12_longWith 1 = .ok (.istore_n 2, 1) := by decide +kernel
theorem dX12_longWith_2 : decode cX12_longWith 2 = .ok (.iconst 0, 1) := by decide +kernel
theorem dX12_longWith_3 : decode cX12_longWith 3 = .ok (.istore_n 3, 1) := by decide +kernel
theorem dX12_longWith_4 : decode cX12_longWith 4 = .ok (.iload_n 3, 1) := by decide +kernel
theorem dX12_longWith_5 : decode cX12_longWith 5 = .ok (.aload_n 0, 1) := by decide +kernel
theorem dX12_longWith_6 : decode cX12_longWith 6 = .ok (.getfield 13, 3) := by decide +kernel
theorem dX12_longWith_9 : decode cX12_longWith 9 = .ok (.iload_n 1, 1) := by decide +kernel
theorem dX12_longWith_10 : decode cX12_longWith 10 = .ok (.iaload, 1) := by decide +kernel
theorem dX12_longWith_11 : decode cX12_longWith 11 = .ok (.if_icmp .ge 57, 3) := by decide +kernel
theorem dX12_longWith_14 : decode cX12_longWith 14 = .ok (.aload_n 0, 1) := by decide +kernel
theorem dX12_longWith_15 : decode cX12_longWith 15 = .ok (.iload_n 1, 1) := by decide +kernel
theorem dX12_longWith_16 : decode cX12_longWith 16 = .ok (.iload_n 3, 1) := by decide +kernel
theorem dX12_longWith_17 : decode cX12_longWith 17 = .ok (.invokevirtual 92, 3) := by decide +kernel
theorem dX12_longWith_20 : decode cX12_longWith 20 = .ok (.istore 4, 2) := by decide +kernel
theorem dX12_longWith_22 : decode cX12_longWith 22 = .ok (.iload_n 2, 1) := by decide +kernel
theorem dX12_longWith_23 : decode cX12_longWith 23 = .ok (.iload 4, 2) := by decide +kernel
theorem dX12_longWith_25 : decode cX12_longWith 25 = .ok (.invokestatic 111, 3) := by decide +kernel
theorem dX12_longWith_28 : decode cX12_longWith 28 = .ok (.ifCond .eq 31, 3) := by decide +kernel
theorem dX12_longWith_31 : decode cX12_longWith 31 = .ok (.aload_n 0, 1) := by decide +kernel
theorem dX12_longWith_32 : decode cX12_longWith 32 = .ok (.getfield 67, 3) := by decide +kernel
theorem dX12_longWith_35 : decode cX12_longWith 35 = .ok (.iload 4, 2) := by decide +kernel
theorem dX12_longWith_37 : decode cX12_longWith 37 = .ok (.bipush 120, 2) := by decide +kernel
theorem dX12_longWith_39 : decode cX12_longWith 39 = .ok (.isub, 1) := by decide +kernel
theorem dX12_longWith_40 : decode cX12_longWith 40 = .ok (.iaload, 1) := by decide +kernel
theorem dX12_longWith_41 : decode cX12_longWith 41 = .ok (.bipush (-9), 2) := by decide +kernel
theorem dX12_longWith_43 : decode cX12_longWith 43 = .ok (.if_icmp .eq 16, 3) := by decide +kernel
theorem dX12_longWith_46 : decode cX12_longWith 46 = .ok (.aload_n 0, 1) := by decide +kernel
theorem dX12_longWith_47 : decode cX12_longWith 47 = .ok (.getfield 70, 3) := by decide +kernel
theorem dX12_longWith_50 : decode cX12_longWith 50 = .ok (.iload 4, 2) := by decide +kernel
theorem dX12_longWith_52 : decode cX12_longWith 52 = .ok (.bipush 120, 2) := by decide +kernel
theorem dX12_longWith_54 : decode cX12_longWith 54 = .ok (.isub, 1) := by decide +kernel
theorem dX12_longWith_55 : decode cX12_longWith 55 = .ok (.iaload, 1) := by decide +kernel
theorem dX12_longWith_56 : decode cX12_longWith 56 = .ok (.goto 4, 3) := by decide +kernel
theorem dX12_longWith_59 : decode cX12_longWith 59 = .ok (.iconst 1, 1) := by decide +kernel
theorem dX12_longWith_60 : decode cX12_longWith 60 = .ok (.iadd, 1) := by decide +kernel
theorem dX12_longWith_61 : decode cX12_longWith 61 = .ok (.istore_n 2, 1) := by decide +kernel
theorem dX12_longWith_62 : decode cX12_longWith 62 = .ok (.iinc 3 1, 3) := by decide +kernel
theorem dX12_longWith_65 : decode cX12_longWith 65 = .ok (.goto (-61), 3) := by decide +kernel
theorem dX12_longWith_68 : decode cX12_longWith 68 = .ok (.iload_n 2, 1) := by decide +kernel
theorem dX12_longWith_69 : decode cX12_longWith 69 = .ok (.ireturn, 1) := by decide +kernel
theorem dX12_replaces_0 : decode cX12_replaces 0 = .ok (.aload_n 0, 1) := by decide +kernel
theorem dX12_replaces_1 : decode cX12_replaces 1 = .ok (.iload_n 1, 1) := by decide +kernel
theorem dX12_replaces_2 : decode cX12_replaces 2 = .ok (.iload_n 2, 1) := by decide +kernel
theorem dX12_replaces_3 : decode cX12_replaces 3 = .ok (.invokevirtual 266, 3) := by decide +kernel
theorem dX12_replaces_6 : decode cX12_replaces 6 = .ok (.istore 4, 2) := by decide +kernel
theorem dX12_replaces_8 : decode cX12_replaces 8 = .ok (.aload_n 0, 1) := by decide +kernel
theorem dX12_replaces_9 : decode cX12_replaces 9 = .ok (.getfield 13, 3) := by decide +kernel
theorem dX12_replaces_12 : decode cX12_replaces 12 = .ok (.iload_n 1, 1) := by decide +kernel
theorem dX12_replaces_13 : decode cX12_replaces 13 = .ok (.iaload, 1) := by decide +kernel
theorem dX12_replaces_14 : decode cX12_replaces 14 = .ok (.iload 4, 2) := by decide +kernel
theorem dX12_replaces_16 : decode cX12_replaces 16 = .ok (.iload_n 2, 1) := by decide +kernel
theorem dX12_replaces_17 : decode cX12_replaces 17 = .ok (.isub, 1) := by decide +kernel
theorem dX12_replaces_18 : decode cX12_replaces 18 = .ok (.isub, 1) := by decide +kernel
theorem dX12_replaces_19 : decode cX12_replaces 19 = .ok (.aload_n 0, 1) := by decide +kernel
theorem dX12_replaces_20 : decode cX12_replaces 20 = .ok (.iload_n 3, 1) := by decide +kernel
theorem dX12_replaces_21 : decode cX12_replaces 21 = .ok (.invokevirtual 289, 3) := by decide +kernel
theorem dX12_replaces_24 : decode cX12_replaces 24 = .ok (.iadd, 1) := by decide +kernel
theorem dX12_replaces_25 : decode cX12_replaces 25 = .ok (.bipush 40, 2) := by decide +kernel
theorem dX12_replaces_27 : decode cX12_replaces 27 = .ok (.if_icmp .le 5, 3) := by decide +kernel
theorem dX12_replaces_30 : decode cX12_replaces 30 = .ok (.iconst 0, 1) := by decide +kernel
theorem dX12_replaces_31 : decode cX12_replaces 31 = .ok (.ireturn, 1) := by decide +kernel
theorem dX12_replaces_32 : decode cX12_replaces 32 = .ok (.aload_n 0, 1) := by decide +kernel
theorem dX12_replaces_33 : decode cX12_replaces 33 = .ok (.getfield 13, 3) := by decide +kernel
theorem dX12_replaces_36 : decode cX12_replaces 36 = .ok (.bipush 20, 2) := by decide +kernel
theorem dX12_replaces_38 : decode cX12_replaces 38 = .ok (.iconst 0, 1) := by decide +kernel
theorem dX12_replaces_39 : decode cX12_replaces 39 = .ok (.iastore, 1) := by decide +kernel
theorem dX12_replaces_40 : decode cX12_replaces 40 = .ok (.iconst 0, 1) := by decide +kernel
theorem dX12_replaces_41 : decode cX12_replaces 41 = .ok (.istore 5, 2) := by decide +kernel
theorem dX12_replaces_43 : decode cX12_replaces 43 = .ok (.iload 5, 2) := by decide +kernel
theorem dX12_replaces_45 : decode cX12_replaces 45 = .ok (.iload_n 2, 1) := by decide +kernel
theorem dX12_replaces_46 : decode cX12_replaces 46 = .ok (.if_icmp .ge 22, 3) := by decide +kernel
theorem dX12_replaces_49 : decode cX12_replaces 49 = .ok (.aload_n 0, 1) := by decide +kernel
theorem dX12_replaces_50 : decode cX12_replaces 50 = .ok (.bipush 20, 2) := by decide +kernel
theorem dX12_replaces_52 : decode cX12_replaces 52 = .ok (.aload_n 0, 1) := by decide +kernel
theorem dX12_replaces_53 : decode cX12_replaces 53 = .ok (.iload_n 1, 1) := by decide +kernel
theorem dX12_replaces_54 : decode cX12_replaces 54 = .ok (.iload 5, 2) := by decide +kernel
theorem dX12_replaces_56 : decode cX12_replaces 56 = .ok (.invokevirtual 92, 3) := by decide +kernel
theorem dX12_replaces_59 : decode cX12_replaces 59 = .ok (.invokevirtual 150, 3) := by decide +kernel
theorem dX12_replaces_62 : decode cX12_replaces 62 = .ok (.iinc 5 1, 3) := by decide +kernel
theorem dX12_replaces_65 : decode cX12_replaces 65 = .ok (.goto (-22), 3) := by decide +kernel
theorem dX12_replaces_68 : decode cX12_replaces 68 = .ok (.iconst 0, 1) := by decide +kernel
theorem dX12_replaces_69 : decode cX12_replaces 69 = .ok (.istore 5, 2) := by decide +kernel
theorem dX12_replaces_71 : decode cX12_replaces 71 = .ok (.iload 5, 2) := by decide +kernel
theorem dX12_replaces_73 : decode cX12_replaces 73 = .ok (.aload_n 0, 1) := by decide +kernel
theorem dX12_replaces_74 : decode cX12_replaces 74 = .ok (.getfield 13, 3) := by decide +kernel
theorem dX12_replaces_77 : decode cX12_replaces 77 = .ok (.iload_n 3, 1) := by decide +kernel
theorem dX12_replaces_78 : decode cX12_replaces 78 = .ok (.iaload, 1) := by decide +kernel
theorem dX12_replaces_79 : decode cX12_replaces 79 = .ok (.if_icmp .ge 100, 3) := by decide +kernel
theorem dX12_replaces_82 : decode cX12_replaces 82 = .ok (.aload_n 0, 1) := by decide +kernel
theorem dX12_replaces_83 : decode cX12_replaces 83 = .ok (.iload_n 3, 1) := by decide +kernel
theorem dX12_replaces_84 : decode cX12_replaces 84 = .ok (.iload 5, 2) := by decide +kernel
theorem dX12_replaces_86 : decode cX12_replaces 86 = .ok (.invokevirtual 92, 3) := by decide +kernel
theorem dX12_replaces_89 : decode cX12_replaces 89 = .ok (.istore 6, 2) := by decide +kernel
theorem dX12_replaces_91 : decode cX12_replaces 91 = .ok (.iload 6, 2) := by decide +kernel
theorem dX12_replaces_93 : decode cX12_replaces 93 = .ok (.invokestatic 111, 3) := by decide +kernel
theorem dX12_replaces_96 : decode cX12_replaces 96 = .ok (.ifCond .eq 69, 3) := by decide +kernel
theorem dX12_replaces_99 : decode cX12_replaces 99 = .ok (.aload_n 0, 1) := by decide +kernel
theorem dX12_replaces_100 : decode cX12_replaces 100 = .ok (.getfield 67, 3) := by decide +kernel
theorem dX12_replaces_103 : decode cX12_replaces 103 = .ok (.iload 6, 2) := by decide +kernel
theorem dX12_replaces_105 : decode cX12_replaces 105 = .ok (.bipush 120, 2) := by decide +kernel
theorem dX12_replaces_107 : decode cX12_replaces 107 = .ok (.isub, 1) := by decide +kernel
theorem dX12_replaces_108 : decode cX12_replaces 108 = .ok (.iaload, 1) := by decide +kernel
theorem dX12_replaces_109 : decode cX12_replaces 109 = .ok (.bipush (-9), 2) := by decide +kernel
theorem dX12_replaces_111 : decode cX12_replaces 111 = .ok (.if_icmp .eq 54, 3) := by decide +kernel
theorem dX12_replaces_114 : decode cX12_replaces 114 = .ok (.iconst 0, 1) := by decide +kernel
theorem dX12_replaces_115 : decode cX12_replaces 115 = .ok (.istore 7, 2) := by decide +kernel
theorem dX12_replaces_117 : decode cX12_replaces 117 = .ok (.iload 7, 2) := by decide +kernel
theorem dX12_replaces_119 : decode cX12_replaces 119 = .ok (.aload_n 0, 1) := by decide +kernel
theorem dX12_replaces_120 : decode cX12_replaces 120 = .ok (.getfield 70, 3) := by decide +kernel
theorem dX12_replaces_123 : decode cX12_replaces 123 = .ok (.iload 6, 2) := by decide +kernel
theorem dX12_replaces_125 : decode cX12_replaces 125 = .ok (.bipush 120, 2) := by decide +kernel
theorem dX12_replaces_127 : decode cX12_replaces 127 = .ok (.isub, 1) := by decide +kernel
theorem dX12_replaces_128 : decode cX12_replaces 128 = .ok (.iaload, 1) := by decide +kernel
theorem dX12_replaces_129 : decode cX12_replaces 129 = .ok (.if_icmp .ge 33, 3) := by decide +kernel
theorem dX12_replaces_132 : decode cX12_replaces 132 = .ok (.aload_n 0, 1) := by decide +kernel
theorem dX12_replaces_133 : decode cX12_replaces 133 = .ok (.bipush 20, 2) := by decide +kernel
theorem dX12_replaces_135 : decode cX12_replaces 135 = .ok (.aload_n 0, 1) := by decide +kernel
theorem dX12_replaces_136 : decode cX12_replaces 136 = .ok (.iload_n 1, 1) := by decide +kernel
theorem dX12_replaces_137 : decode cX12_replaces 137 = .ok (.aload_n 0, 1) := by decide +kernel
theorem dX12_replaces_138 : decode cX12_replaces 138 = .ok (.getfield 67, 3) := by decide +kernel
theorem dX12_replaces_141 : decode cX12_replaces 141 = .ok (.iload 6, 2) := by decide +kernel
theorem dX12_replaces_143 : decode cX12_replaces 143 = .ok (.bipush 120, 2) := by decide +kernel
theorem dX12_replaces_145 : decode cX12_replaces 145 = .ok (.isub, 1) := by decide +kernel
theorem dX12_replaces_146 : decode cX12_replaces 146 = .ok (.iaload, 1) := by decide +kernel
theorem dX12_replaces_147 : decode cX12_replaces 147 = .ok (.iload 7, 2) := by decide +kernel
theorem dX12_replaces_149 : decode cX12_replaces 149 = .ok (.iadd, 1) := by decide +kernel
theorem dX12_replaces_150 : decode cX12_replaces 150 = .ok (.invokevirtual 92, 3) := by decide +kernel
theorem dX12_replaces_153 : decode cX12_replaces 153 = .ok (.invokevirtual 150, 3) := by decide +kernel
theorem dX12_replaces_156 : decode cX12_replaces 156 = .ok (.iinc 7 1, 3) := by decide +kernel
theorem dX12_replaces_159 : decode cX12_replaces 159 = .ok (.goto (-42), 3) := by decide +kernel
theorem dX12_replaces_162 : decode cX12_replaces 162 = .ok (.goto 11, 3) := by decide +kernel
theorem dX12_replaces_165 : decode cX12_replaces 165 = .ok (.aload_n 0, 1) := by decide +kernel
theorem dX12_replaces_166 : decode cX12_replaces 166 = .ok (.bipush 20, 2) := by decide +kernel
theorem dX12_replaces_168 : decode cX12_replaces 168 = .ok (.iload 6, 2) := by decide +kernel
theorem dX12_replaces_170 : decode cX12_replaces 170 = .ok (.invokevirtual 150, 3) := by decide +kernel
theorem dX12_replaces_173 : decode cX12_replaces 173 = .ok (.iinc 5 1, 3) := by decide +kernel
theorem dX12_replaces_176 : decode cX12_replaces 176 = .ok (.goto (-105), 3) := by decide +kernel
theorem dX12_replaces_179 : decode cX12_replaces 179 = .ok (.iload 4, 2) := by decide +kernel
theorem dX12_replaces_181 : decode cX12_replaces 181 = .ok (.istore 5, 2) := by decide +kernel
theorem dX12_replaces_183 : decode cX12_replaces 183 = .ok (.iload 5, 2) := by decide +kernel
theorem dX12_replaces_185 : decode cX12_replaces 185 = .ok (.aload_n 0, 1) := by decide +kernel
theorem dX12_replaces_186 : decode cX12_replaces 186 = .ok (.getfield 13, 3) := by decide +kernel
theorem dX12_replaces_189 : decode cX12_replaces 189 = .ok (.iload_n 1, 1) := by decide +kernel
theorem dX12_replaces_190 : decode cX12_replaces 190 = .ok (.iaload, 1) := by decide +kernel
theorem dX12_replaces_191 : decode cX12_replaces 191 = .ok (.if_icmp .ge 22, 3) := by decide +kernel
theorem dX12_replaces_194 : decode cX12_replaces 194 = .ok (.aload_n 0, 1) := by decide +kernel
theorem dX12_replaces_195 : decode cX12_replaces 195 = .ok (.bipush 20, 2) := by decide +kernel
theorem dX12_replaces_197 : decode cX12_replaces 197 = .ok (.aload_n 0, 1) := by decide +kernel
theorem dX12_replaces_198 : decode cX12_replaces 198 = .ok (.iload_n 1, 1) := by decide +kernel
theorem dX12_replaces_199 : decode cX12_replaces 199 = .ok (.iload 5, 2) := by decide +kernel
theorem dX12_replaces_201 : decode cX12_replaces 201 = .ok (.invokevirtual 92, 3) := by decide +kernel
theorem dX12_replaces_204 : decode cX12_replaces 204 = .ok (.invokevirtual 150, 3) := by decide +kernel
theorem dX12_replaces_207 : decode cX12_replaces 207 = .ok (.iinc 5 1, 3) := by decide +kernel
theorem dX12_replaces_210 : decode cX12_replaces 210 = .ok (.goto (-27), 3) := by decide +kernel
theorem dX12_replaces_213 : decode cX12_replaces 213 = .ok (.iconst 1, 1) := by decide +kernel
theorem dX12_replaces_214 : decode cX12_replaces 214 = .ok (.ireturn, 1) := by decide +kernel
theorem dX12_isPattern_0 : decode cX12_isPattern 0 = .ok (.aload_n 0, 1) := by decide +kernel
theorem dX12_isPattern_1 : decode cX12_isPattern 1 = .ok (.getfield 13, 3) := by decide +kernel
theorem dX12_isPattern_4 : decode cX12_isPattern 4 = .ok (.iload_n 1, 1) := by decide +kernel
theorem dX12_isPattern_5 : decode cX12_isPattern 5 = .ok (.iaload, 1) := by decide +kernel
theorem dX12_isPattern_6 : decode cX12_isPattern 6 = .ok (.iconst 1, 1) := by decide +kernel
theorem dX12_isPattern_7 : decode cX12_isPattern 7 = .ok (.if_icmp .ne 17, 3) := by decide +kernel
theorem dX12_isPattern_10 : decode cX12_isPattern 10 = .ok (.aload_n 0, 1) := by decide +kernel
theorem dX12_isPattern_11 : decode cX12_isPattern 11 = .ok (.iload_n 1, 1) := by decide +kernel
theorem dX12_isPattern_12 : decode cX12_isPattern 12 = .ok (.iconst 0, 1) := by decide +kernel
theorem dX12_isPattern_13 : decode cX12_isPattern 13 = .ok (.invokevirtual 92, 3) := by decide +kernel
theorem dX12_isPattern_16 : decode cX12_isPattern 16 = .ok (.invokestatic 111, 3) := by decide +kernel
theorem dX12_isPattern_19 : decode cX12_isPattern 19 = .ok (.ifCond .eq 5, 3) := by decide +kernel
theorem dX12_isPattern_22 : decode cX12_isPattern 22 = .ok (.iconst 0, 1) := by decide +kernel
theorem dX12_isPattern_23 : decode cX12_isPattern 23 = .ok (.ireturn, 1) := by decide +kernel
theorem dX12_isPattern_24 : decode cX12_isPattern 24 = .ok (.iconst 0, 1) := by decide +kernel
theorem dX12_isPattern_25 : decode cX12_isPattern 25 = .ok (.istore_n 3, 1) := by decide +kernel
theorem dX12_isPattern_26 : decode cX12_isPattern 26 = .ok (.iload_n 3, 1) := by decide +kernel
theorem dX12_isPattern_27 : decode cX12_isPattern 27 = .ok (.iconst 3, 1) := by decide +kernel
theorem dX12_isPattern_28 : decode cX12_isPattern 28 = .ok (.if_icmp .ge 35, 3) := by decide +kernel
theorem dX12_isPattern_31 : decode cX12_isPattern 31 = .ok (.aload_n 0, 1) := by decide +kernel
theorem dX12_isPattern_32 : decode cX12_isPattern 32 = .ok (.iload_n 2, 1) := by decide +kernel
theorem dX12_isPattern_33 : decode cX12_isPattern 33 = .ok (.bipush 120, 2) := by decide +kernel
theorem dX12_isPattern_35 : decode cX12_isPattern 35 = .ok (.iload_n 3, 1) := by decide +kernel
theorem dX12_isPattern_36 : decode cX12_isPattern 36 = .ok (.iadd, 1) := by decide +kernel
theorem dX12_isPattern_37 : decode cX12_isPattern 37 = .ok (.invokevirtual 211, 3) := by decide +kernel
theorem dX12_isPattern_40 : decode cX12_isPattern 40 = .ok (.ifCond .eq 17, 3) := by decide +kernel
theorem dX12_isPattern_43 : decode cX12_isPattern 43 = .ok (.aload_n 0, 1) := by decide +kernel
theorem dX12_isPattern_44 : decode cX12_isPattern 44 = .ok (.iload_n 1, 1) := by decide +kernel
theorem dX12_isPattern_45 : decode cX12_isPattern 45 = .ok (.bipush 120, 2) := by decide +kernel
theorem dX12_isPattern_47 : decode cX12_isPattern 47 = .ok (.iload_n 3, 1) := by decide +kernel
theorem dX12_isPattern_48 : decode cX12_isPattern 48 = .ok (.iadd, 1) := by decide +kernel
theorem dX12_isPattern_49 : decode cX12_isPattern 49 = .ok (.invokevirtual 211, 3) := by decide +kernel
theorem dX12_isPattern_52 : decode cX12_isPattern 52 = .ok (.ifCond .ne 5, 3) := by decide +kernel
theorem dX12_isPattern_55 : decode cX12_isPattern 55 = .ok (.iconst 0, 1) := by decide +kernel
theorem dX12_isPattern_56 : decode cX12_isPattern 56 = .ok (.ireturn, 1) := by decide +kernel
theorem dX12_isPattern_57 : decode cX12_isPattern 57 = .ok (.iinc 3 1, 3) := by decide +kernel
theorem dX12_isPattern_60 : decode cX12_isPattern 60 = .ok (.goto (-34), 3) := by decide +kernel
theorem dX12_isPattern_63 : decode cX12_isPattern 63 = .ok (.iconst 1, 1) := by decide +kernel
theorem dX12_isPattern_64 : decode cX12_isPattern 64 = .ok (.ireturn, 1) := by decide +kernel
theorem dX12_steersOnce_0 : decode cX12_steersOnce 0 = .ok (.iconst 0, 1) := by decide +kernel
theorem dX12_steersOnce_1 : decode cX12_steersOnce 1 = .ok (.istore 4, 2) := by decide +kernel
theorem dX12_steersOnce_3 : decode cX12_steersOnce 3 = .ok (.iload 4, 2) := by decide +kernel
theorem dX12_steersOnce_5 : decode cX12_steersOnce 5 = .ok (.aload_n 0, 1) := by decide +kernel
theorem dX12_steersOnce_6 : decode cX12_steersOnce 6 = .ok (.getfield 13, 3) := by decide +kernel
theorem dX12_steersOnce_9 : decode cX12_steersOnce 9 = .ok (.iload_n 1, 1) := by decide +kernel
theorem dX12_steersOnce_10 : decode cX12_steersOnce 10 = .ok (.iaload, 1) := by decide +kernel
theorem dX12_steersOnce_11 : decode cX12_steersOnce 11 = .ok (.if_icmp .ge 141, 3) := by decide +kernel
theorem dX12_steersOnce_14 : decode cX12_steersOnce 14 = .ok (.iconst 0, 1) := by decide +kernel
theorem dX12_steersOnce_15 : decode cX12_steersOnce 15 = .ok (.istore 5, 2) := by decide +kernel
theorem dX12_steersOnce_17 : decode cX12_steersOnce 17 = .ok (.iload 5, 2) := by decide +kernel
theorem dX12_steersOnce_19 : decode cX12_steersOnce 19 = .ok (.iconst 2, 1) := by decide +kernel
theorem dX12_steersOnce_20 : decode cX12_steersOnce 20 = .ok (.aload_n 0, 1) := by decide +kernel
theorem dX12_steersOnce_21 : decode cX12_steersOnce 21 = .ok (.getfield 171, 3) := by decide +kernel
theorem dX12_steersOnce_24 : decode cX12_steersOnce 24 = .ok (.imul, 1) := by decide +kernel
theorem dX12_steersOnce_25 : decode cX12_steersOnce 25 = .ok (.if_icmp .ge 121, 3) := by decide +kernel
theorem dX12_steersOnce_28 : decode cX12_steersOnce 28 = .ok (.bipush 28, 2) := by decide +kernel
theorem dX12_steersOnce_30 : decode cX12_steersOnce 30 = .ok (.iload 5, 2) := by decide +kernel
theorem dX12_steersOnce_32 : decode cX12_steersOnce 32 = .ok (.iadd, 1) := by decide +kernel
theorem dX12_steersOnce_33 : decode cX12_steersOnce 33 = .ok (.istore 6, 2) := by decide +kernel
theorem dX12_steersOnce_35 : decode cX12_steersOnce 35 = .ok (.iload 5, 2) := by decide +kernel
theorem dX12_steersOnce_37 : decode cX12_steersOnce 37 = .ok (.iconst 2, 1) := by decide +kernel
theorem dX12_steersOnce_38 : decode cX12_steersOnce 38 = .ok (.irem, 1) := by decide +kernel
theorem dX12_steersOnce_39 : decode cX12_steersOnce 39 = .ok (.ifCond .ne 10, 3) := by decide +kernel
theorem dX12_steersOnce_42 : decode cX12_steersOnce 42 = .ok (.iload 6, 2) := by decide +kernel
theorem dX12_steersOnce_44 : decode cX12_steersOnce 44 = .ok (.iconst 1, 1) := by decide +kernel
theorem dX12_steersOnce_45 : decode cX12_steersOnce 45 = .ok (.iadd, 1) := by decide +kernel
theorem dX12_steersOnce_46 : decode cX12_steersOnce 46 = .ok (.goto 7, 3) := by decide +kernel
theorem dX12_steersOnce_49 : decode cX12_steersOnce 49 = .ok (.iload 6, 2) := by decide +kernel
theorem dX12_steersOnce_51 : decode cX12_steersOnce 51 = .ok (.iconst 1, 1) := by decide +kernel
theorem dX12_steersOnce_52 : decode cX12_steersOnce 52 = .ok (.isub, 1) := by decide +kernel
theorem dX12_steersOnce_53 : decode cX12_steersOnce 53 = .ok (.istore 7, 2) := by decide +kernel
theorem dX12_steersOnce_55 : decode cX12_steersOnce 55 = .ok (.aload_n 0, 1) := by decide +kernel
theorem dX12_steersOnce_56 : decode cX12_steersOnce 56 = .ok (.iload 6, 2) := by decide +kernel
theorem dX12_steersOnce_58 : decode cX12_steersOnce 58 = .ok (.iload 7, 2) := by decide +kernel
theorem dX12_steersOnce_60 : decode cX12_steersOnce 60 = .ok (.invokevirtual 292, 3) := by decide +kernel
theorem dX12_steersOnce_63 : decode cX12_steersOnce 63 = .ok (.ifCond .eq 33, 3) := by decide +kernel
theorem dX12_steersOnce_66 : decode cX12_steersOnce 66 = .ok (.aload_n 0, 1) := by decide +kernel
theorem dX12_steersOnce_67 : decode cX12_steersOnce 67 = .ok (.iload 6, 2) := by decide +kernel
theorem dX12_steersOnce_69 : decode cX12_steersOnce 69 = .ok (.iload_n 1, 1) := by decide +kernel
theorem dX12_steersOnce_70 : decode cX12_steersOnce 70 = .ok (.iload 4, 2) := by decide +kernel
theorem dX12_steersOnce_72 : decode cX12_steersOnce 72 = .ok (.bipush (-9), 2) := by decide +kernel
theorem dX12_steersOnce_74 : decode cX12_steersOnce 74 = .ok (.invokevirtual 295, 3) := by decide +kernel
theorem dX12_steersOnce_77 : decode cX12_steersOnce 77 = .ok (.ifCond .eq 19, 3) := by decide +kernel
theorem dX12_steersOnce_80 : decode cX12_steersOnce 80 = .ok (.aload_n 0, 1) := by decide +kernel
theorem dX12_steersOnce_81 : decode cX12_steersOnce 81 = .ok (.iload_n 1, 1) := by decide +kernel
theorem dX12_steersOnce_82 : decode cX12_steersOnce 82 = .ok (.iload 4, 2) := by decide +kernel
theorem dX12_steersOnce_84 : decode cX12_steersOnce 84 = .ok (.iload 7, 2) := by decide +kernel
theorem dX12_steersOnce_86 : decode cX12_steersOnce 86 = .ok (.invokevirtual 299, 3) := by decide +kernel
theorem dX12_steersOnce_89 : decode cX12_steersOnce 89 = .ok (.ifCond .eq 7, 3) := by decide +kernel
theorem dX12_steersOnce_92 : decode cX12_steersOnce 92 = .ok (.iconst 1, 1) := by decide +kernel
theorem dX12_steersOnce_93 : decode cX12_steersOnce 93 = .ok (.goto 4, 3) := by decide +kernel
theorem dX12_steersOnce_96 : decode cX12_steersOnce 96 = .ok (.iconst 0, 1) := by decide +kernel
theorem dX12_steersOnce_97 : decode cX12_steersOnce 97 = .ok (.istore 8, 2) := by decide +kernel
theorem dX12_steersOnce_99 : decode cX12_steersOnce 99 = .ok (.iload 8, 2) := by decide +kernel
theorem dX12_steersOnce_101 : decode cX12_steersOnce 101 = .ok (.ifCond .eq 39, 3) := by decide +kernel
theorem dX12_steersOnce_104 : decode cX12_steersOnce 104 = .ok (.aload_n 0, 1) := by decide +kernel
theorem dX12_steersOnce_105 : decode cX12_steersOnce 105 = .ok (.bipush 20, 2) := by decide +kernel
theorem dX12_steersOnce_107 : decode cX12_steersOnce 107 = .ok (.iload_n 2, 1) := by decide +kernel
theorem dX12_steersOnce_108 : decode cX12_steersOnce 108 = .ok (.invokevirtual 279, 3) := by decide +kernel
theorem dX12_steersOnce_111 : decode cX12_steersOnce 111 = .ok (.iload_n 3, 1) := by decide +kernel
theorem dX12_steersOnce_112 : decode cX12_steersOnce 112 = .ok (.if_icmp .ge 28, 3) := by decide +kernel
theorem dX12_steersOnce_115 : decode cX12_steersOnce 115 = .ok (.aload_n 0, 1) := by decide +kernel
theorem dX12_steersOnce_116 : decode cX12_steersOnce 116 = .ok (.bipush 20, 2) := by decide +kernel
theorem dX12_steersOnce_118 : decode cX12_steersOnce 118 = .ok (.iload_n 1, 1) := by decide +kernel
theorem dX12_steersOnce_119 : decode cX12_steersOnce 119 = .ok (.invokevirtual 161, 3) := by decide +kernel
theorem dX12_steersOnce_122 : decode cX12_steersOnce 122 = .ok (.aload_n 0, 1) := by decide +kernel
theorem dX12_steersOnce_123 : decode cX12_steersOnce 123 = .ok (.bipush 100, 2) := by decide +kernel
theorem dX12_steersOnce_125 : decode cX12_steersOnce 125 = .ok (.iload 5, 2) := by decide +kernel
theorem dX12_steersOnce_127 : decode cX12_steersOnce 127 = .ok (.iconst 2, 1) := by decide +kernel
theorem dX12_steersOnce_128 : decode cX12_steersOnce 128 = .ok (.idiv, 1) := by decide +kernel
theorem dX12_steersOnce_129 : decode cX12_steersOnce 129 = .ok (.imul, 1) := by decide +kernel
theorem dX12_steersOnce_130 : decode cX12_steersOnce 130 = .ok (.iload 5, 2) := by decide +kernel
theorem dX12_steersOnce_132 : decode cX12_steersOnce 132 = .ok (.iconst 2, 1) := by decide +kernel
theorem dX12_steersOnce_133 : decode cX12_steersOnce 133 = .ok (.irem, 1) := by decide +kernel
theorem dX12_steersOnce_134 : decode cX12_steersOnce 134 = .ok (.iadd, 1) := by decide +kernel
