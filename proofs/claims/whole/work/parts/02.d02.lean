theorem dX12_steersOnce_135 : decode cX12_steersOnce 135 = .ok (.putfield 302, 3) := by decide +kernel
theorem dX12_steersOnce_138 : decode cX12_steersOnce 138 = .ok (.iconst 1, 1) := by decide +kernel
theorem dX12_steersOnce_139 : decode cX12_steersOnce 139 = .ok (.ireturn, 1) := by decide +kernel
theorem dX12_steersOnce_140 : decode cX12_steersOnce 140 = .ok (.iinc 5 1, 3) := by decide +kernel
theorem dX12_steersOnce_143 : decode cX12_steersOnce 143 = .ok (.goto (-126), 3) := by decide +kernel
theorem dX12_steersOnce_146 : decode cX12_steersOnce 146 = .ok (.iinc 4 1, 3) := by decide +kernel
theorem dX12_steersOnce_149 : decode cX12_steersOnce 149 = .ok (.goto (-146), 3) := by decide +kernel
theorem dX12_steersOnce_152 : decode cX12_steersOnce 152 = .ok (.iconst 0, 1) := by decide +kernel
theorem dX12_steersOnce_153 : decode cX12_steersOnce 153 = .ok (.ireturn, 1) := by decide +kernel
theorem dX12_steers_0 : decode cX12_steers 0 = .ok (.aload_n 0, 1) := by decide +kernel
theorem dX12_steers_1 : decode cX12_steers 1 = .ok (.iload_n 1, 1) := by decide +kernel
theorem dX12_steers_2 : decode cX12_steers 2 = .ok (.iload_n 2, 1) := by decide +kernel
theorem dX12_steers_3 : decode cX12_steers 3 = .ok (.invokevirtual 279, 3) := by decide +kernel
theorem dX12_steers_6 : decode cX12_steers 6 = .ok (.istore 4, 2) := by decide +kernel
theorem dX12_steers_8 : decode cX12_steers 8 = .ok (.iload 4, 2) := by decide +kernel
theorem dX12_steers_10 : decode cX12_steers 10 = .ok (.ldc_w 269, 3) := by decide +kernel
theorem dX12_steers_13 : decode cX12_steers 13 = .ok (.if_icmp .ge 45, 3) := by decide +kernel
theorem dX12_steers_16 : decode cX12_steers 16 = .ok (.aload_n 0, 1) := by decide +kernel
theorem dX12_steers_17 : decode cX12_steers 17 = .ok (.iload_n 1, 1) := by decide +kernel
theorem dX12_steers_18 : decode cX12_steers 18 = .ok (.iload_n 2, 1) := by decide +kernel
theorem dX12_steers_19 : decode cX12_steers 19 = .ok (.iload 4, 2) := by decide +kernel
theorem dX12_steers_21 : decode cX12_steers 21 = .ok (.invokevirtual 305, 3) := by decide +kernel
theorem dX12_steers_24 : decode cX12_steers 24 = .ok (.ifCond .eq 34, 3) := by decide +kernel
theorem dX12_steers_27 : decode cX12_steers 27 = .ok (.aload_n 0, 1) := by decide +kernel
theorem dX12_steers_28 : decode cX12_steers 28 = .ok (.iload_n 1, 1) := by decide +kernel
theorem dX12_steers_29 : decode cX12_steers 29 = .ok (.iload_n 2, 1) := by decide +kernel
theorem dX12_steers_30 : decode cX12_steers 30 = .ok (.invokevirtual 279, 3) := by decide +kernel
theorem dX12_steers_33 : decode cX12_steers 33 = .ok (.istore 4, 2) := by decide +kernel
theorem dX12_steers_35 : decode cX12_steers 35 = .ok (.iload_n 3, 1) := by decide +kernel
theorem dX12_steers_36 : decode cX12_steers 36 = .ok (.bipush (-9), 2) := by decide +kernel
theorem dX12_steers_38 : decode cX12_steers 38 = .ok (.if_icmp .eq (-30), 3) := by decide +kernel
theorem dX12_steers_41 : decode cX12_steers 41 = .ok (.aload_n 0, 1) := by decide +kernel
theorem dX12_steers_42 : decode cX12_steers 42 = .ok (.iconst 4, 1) := by decide +kernel
theorem dX12_steers_43 : decode cX12_steers 43 = .ok (.aload_n 0, 1) := by decide +kernel
theorem dX12_steers_44 : decode cX12_steers 44 = .ok (.getfield 302, 3) := by decide +kernel
theorem dX12_steers_47 : decode cX12_steers 47 = .ok (.bipush 10, 2) := by decide +kernel
theorem dX12_steers_49 : decode cX12_steers 49 = .ok (.iload_n 3, 1) := by decide +kernel
theorem dX12_steers_50 : decode cX12_steers 50 = .ok (.imul, 1) := by decide +kernel
theorem dX12_steers_51 : decode cX12_steers 51 = .ok (.iadd, 1) := by decide +kernel
theorem dX12_steers_52 : decode cX12_steers 52 = .ok (.invokevirtual 308, 3) := by decide +kernel
theorem dX12_steers_55 : decode cX12_steers 55 = .ok (.goto (-47), 3) := by decide +kernel
theorem dX12_steers_58 : decode cX12_steers 58 = .ok (.return_, 1) := by decide +kernel
theorem dX12_steered_0 : decode cX12_steered 0 = .ok (.iload_n 1, 1) := by decide +kernel
theorem dX12_steered_1 : decode cX12_steered 1 = .ok (.bipush (-9), 2) := by decide +kernel
theorem dX12_steered_3 : decode cX12_steered 3 = .ok (.if_icmp .eq 16, 3) := by decide +kernel
theorem dX12_steered_6 : decode cX12_steered 6 = .ok (.iload_n 1, 1) := by decide +kernel
theorem dX12_steered_7 : decode cX12_steered 7 = .ok (.iconst 0, 1) := by decide +kernel
theorem dX12_steered_8 : decode cX12_steered 8 = .ok (.bipush 39, 2) := by decide +kernel
theorem dX12_steered_10 : decode cX12_steered 10 = .ok (.invokestatic 96, 3) := by decide +kernel
theorem dX12_steered_13 : decode cX12_steered 13 = .ok (.ifCond .ne 6, 3) := by decide +kernel
theorem dX12_steered_16 : decode cX12_steered 16 = .ok (.bipush (-2), 2) := by decide +kernel
theorem dX12_steered_18 : decode cX12_steered 18 = .ok (.ireturn, 1) := by decide +kernel
theorem dX12_steered_19 : decode cX12_steered 19 = .ok (.aload_n 0, 1) := by decide +kernel
theorem dX12_steered_20 : decode cX12_steered 20 = .ok (.getfield 164, 3) := by decide +kernel
theorem dX12_steered_23 : decode cX12_steered 23 = .ok (.ifCond .eq 15, 3) := by decide +kernel
theorem dX12_steered_26 : decode cX12_steered 26 = .ok (.aload_n 0, 1) := by decide +kernel
theorem dX12_steered_27 : decode cX12_steered 27 = .ok (.iconst 0, 1) := by decide +kernel
theorem dX12_steered_28 : decode cX12_steered 28 = .ok (.iconst 1, 1) := by decide +kernel
theorem dX12_steered_29 : decode cX12_steered 29 = .ok (.invokevirtual 279, 3) := by decide +kernel
theorem dX12_steered_32 : decode cX12_steered 32 = .ok (.ldc_w 269, 3) := by decide +kernel
theorem dX12_steered_35 : decode cX12_steered 35 = .ok (.if_icmp .lt 6, 3) := by decide +kernel
theorem dX12_steered_38 : decode cX12_steered 38 = .ok (.bipush (-3), 2) := by decide +kernel
theorem dX12_steered_40 : decode cX12_steered 40 = .ok (.ireturn, 1) := by decide +kernel
theorem dX12_steered_41 : decode cX12_steered 41 = .ok (.aload_n 0, 1) := by decide +kernel
theorem dX12_steered_42 : decode cX12_steered 42 = .ok (.iconst 0, 1) := by decide +kernel
theorem dX12_steered_43 : decode cX12_steered 43 = .ok (.bipush 24, 2) := by decide +kernel
theorem dX12_steered_45 : decode cX12_steered 45 = .ok (.invokevirtual 161, 3) := by decide +kernel
theorem dX12_steered_48 : decode cX12_steered 48 = .ok (.aload_n 0, 1) := by decide +kernel
theorem dX12_steered_49 : decode cX12_steered 49 = .ok (.bipush 24, 2) := by decide +kernel
theorem dX12_steered_51 : decode cX12_steered 51 = .ok (.iconst 1, 1) := by decide +kernel
theorem dX12_steered_52 : decode cX12_steered 52 = .ok (.bipush (-9), 2) := by decide +kernel
theorem dX12_steered_54 : decode cX12_steered 54 = .ok (.invokevirtual 311, 3) := by decide +kernel
theorem dX12_steered_57 : decode cX12_steered 57 = .ok (.aload_n 0, 1) := by decide +kernel
theorem dX12_steered_58 : decode cX12_steered 58 = .ok (.bipush 24, 2) := by decide +kernel
theorem dX12_steered_60 : decode cX12_steered 60 = .ok (.iload_n 1, 1) := by decide +kernel
theorem dX12_steered_61 : decode cX12_steered 61 = .ok (.invokevirtual 168, 3) := by decide +kernel
theorem dX12_steered_64 : decode cX12_steered 64 = .ok (.ireturn, 1) := by decide +kernel
theorem dX12_isPartOf_0 : decode cX12_isPartOf 0 = .ok (.iconst 0, 1) := by decide +kernel
theorem dX12_isPartOf_1 : decode cX12_isPartOf 1 = .ok (.istore 5, 2) := by decide +kernel
theorem dX12_isPartOf_3 : decode cX12_isPartOf 3 = .ok (.iload 5, 2) := by decide +kernel
theorem dX12_isPartOf_5 : decode cX12_isPartOf 5 = .ok (.iload 4, 2) := by decide +kernel
theorem dX12_isPartOf_7 : decode cX12_isPartOf 7 = .ok (.iadd, 1) := by decide +kernel
theorem dX12_isPartOf_8 : decode cX12_isPartOf 8 = .ok (.aload_n 0, 1) := by decide +kernel
theorem dX12_isPartOf_9 : decode cX12_isPartOf 9 = .ok (.getfield 13, 3) := by decide +kernel
theorem dX12_isPartOf_12 : decode cX12_isPartOf 12 = .ok (.iload_n 1, 1) := by decide +kernel
theorem dX12_isPartOf_13 : decode cX12_isPartOf 13 = .ok (.iaload, 1) := by decide +kernel
theorem dX12_isPartOf_14 : decode cX12_isPartOf 14 = .ok (.if_icmp .gt 25, 3) := by decide +kernel
theorem dX12_isPartOf_17 : decode cX12_isPartOf 17 = .ok (.aload_n 0, 1) := by decide +kernel
theorem dX12_isPartOf_18 : decode cX12_isPartOf 18 = .ok (.iload_n 1, 1) := by decide +kernel
theorem dX12_isPartOf_19 : decode cX12_isPartOf 19 = .ok (.iload 5, 2) := by decide +kernel
theorem dX12_isPartOf_21 : decode cX12_isPartOf 21 = .ok (.iload_n 2, 1) := by decide +kernel
theorem dX12_isPartOf_22 : decode cX12_isPartOf 22 = .ok (.iload_n 3, 1) := by decide +kernel
theorem dX12_isPartOf_23 : decode cX12_isPartOf 23 = .ok (.iload 4, 2) := by decide +kernel
theorem dX12_isPartOf_25 : decode cX12_isPartOf 25 = .ok (.invokevirtual 282, 3) := by decide +kernel
theorem dX12_isPartOf_28 : decode cX12_isPartOf 28 = .ok (.ifCond .eq 5, 3) := by decide +kernel
theorem dX12_isPartOf_31 : decode cX12_isPartOf 31 = .ok (.iconst 1, 1) := by decide +kernel
theorem dX12_isPartOf_32 : decode cX12_isPartOf 32 = .ok (.ireturn, 1) := by decide +kernel
theorem dX12_isPartOf_33 : decode cX12_isPartOf 33 = .ok (.iinc 5 1, 3) := by decide +kernel
theorem dX12_isPartOf_36 : decode cX12_isPartOf 36 = .ok (.goto (-33), 3) := by decide +kernel
theorem dX12_isPartOf_39 : decode cX12_isPartOf 39 = .ok (.iconst 0, 1) := by decide +kernel
theorem dX12_isPartOf_40 : decode cX12_isPartOf 40 = .ok (.ireturn, 1) := by decide +kernel
theorem dX12_findCommon_0 : decode cX12_findCommon 0 = .ok (.aload_n 0, 1) := by decide +kernel
theorem dX12_findCommon_1 : decode cX12_findCommon 1 = .ok (.iconst 0, 1) := by decide +kernel
theorem dX12_findCommon_2 : decode cX12_findCommon 2 = .ok (.putfield 315, 3) := by decide +kernel
theorem dX12_findCommon_5 : decode cX12_findCommon 5 = .ok (.iconst 0, 1) := by decide +kernel
theorem dX12_findCommon_6 : decode cX12_findCommon 6 = .ok (.istore_n 3, 1) := by decide +kernel
theorem dX12_findCommon_7 : decode cX12_findCommon 7 = .ok (.iload_n 3, 1) := by decide +kernel
theorem dX12_findCommon_8 : decode cX12_findCommon 8 = .ok (.aload_n 0, 1) := by decide +kernel
theorem dX12_findCommon_9 : decode cX12_findCommon 9 = .ok (.getfield 13, 3) := by decide +kernel
theorem dX12_findCommon_12 : decode cX12_findCommon 12 = .ok (.iload_n 1, 1) := by decide +kernel
theorem dX12_findCommon_13 : decode cX12_findCommon 13 = .ok (.iaload, 1) := by decide +kernel
theorem dX12_findCommon_14 : decode cX12_findCommon 14 = .ok (.if_icmp .ge 63, 3) := by decide +kernel
theorem dX12_findCommon_17 : decode cX12_findCommon 17 = .ok (.aload_n 0, 1) := by decide +kernel
theorem dX12_findCommon_18 : decode cX12_findCommon 18 = .ok (.iload_n 1, 1) := by decide +kernel
theorem dX12_findCommon_19 : decode cX12_findCommon 19 = .ok (.iload_n 3, 1) := by decide +kernel
theorem dX12_findCommon_20 : decode cX12_findCommon 20 = .ok (.invokevirtual 266, 3) := by decide +kernel
theorem dX12_findCommon_23 : decode cX12_findCommon 23 = .ok (.iload_n 3, 1) := by decide +kernel
theorem dX12_findCommon_24 : decode cX12_findCommon 24 = .ok (.isub, 1) := by decide +kernel
theorem dX12_findCommon_25 : decode cX12_findCommon 25 = .ok (.istore 4, 2) := by decide +kernel
theorem dX12_findCommon_27 : decode cX12_findCommon 27 = .ok (.aload_n 0, 1) := by decide +kernel
theorem dX12_findCommon_28 : decode cX12_findCommon 28 = .ok (.iload_n 1, 1) := by decide +kernel
theorem dX12_findCommon_29 : decode cX12_findCommon 29 = .ok (.iload_n 3, 1) := by decide +kernel
theorem dX12_findCommon_30 : decode cX12_findCommon 30 = .ok (.invokevirtual 92, 3) := by decide +kernel
theorem dX12_findCommon_33 : decode cX12_findCommon 33 = .ok (.invokestatic 100, 3) := by decide +kernel
theorem dX12_findCommon_36 : decode cX12_findCommon 36 = .ok (.ifCond .eq 35, 3) := by decide +kernel
theorem dX12_findCommon_39 : decode cX12_findCommon 39 = .ok (.iload 4, 2) := by decide +kernel
theorem dX12_findCommon_41 : decode cX12_findCommon 41 = .ok (.aload_n 0, 1) := by decide +kernel
theorem dX12_findCommon_42 : decode cX12_findCommon 42 = .ok (.getfield 315, 3) := by decide +kernel
theorem dX12_findCommon_45 : decode cX12_findCommon 45 = .ok (.if_icmp .le 26, 3) := by decide +kernel
theorem dX12_findCommon_48 : decode cX12_findCommon 48 = .ok (.aload_n 0, 1) := by decide +kernel
theorem dX12_findCommon_49 : decode cX12_findCommon 49 = .ok (.iload_n 2, 1) := by decide +kernel
theorem dX12_findCommon_50 : decode cX12_findCommon 50 = .ok (.iload_n 1, 1) := by decide +kernel
theorem dX12_findCommon_51 : decode cX12_findCommon 51 = .ok (.iload_n 3, 1) := by decide +kernel
theorem dX12_findCommon_52 : decode cX12_findCommon 52 = .ok (.iload 4, 2) := by decide +kernel
theorem dX12_findCommon_54 : decode cX12_findCommon 54 = .ok (.invokevirtual 318, 3) := by decide +kernel
theorem dX12_findCommon_57 : decode cX12_findCommon 57 = .ok (.ifCond .eq 14, 3) := by decide +kernel
theorem dX12_findCommon_60 : decode cX12_findCommon 60 = .ok (.aload_n 0, 1) := by decide +kernel
theorem dX12_findCommon_61 : decode cX12_findCommon 61 = .ok (.iload_n 3, 1) := by decide +kernel
theorem dX12_findCommon_62 : decode cX12_findCommon 62 = .ok (.putfield 321, 3) := by decide +kernel
theorem dX12_findCommon_65 : decode cX12_findCommon 65 = .ok (.aload_n 0, 1) := by decide +kernel
theorem dX12_findCommon_66 : decode cX12_findCommon 66 = .ok (.iload 4, 2) := by decide +kernel
theorem dX12_findCommon_68 : decode cX12_findCommon 68 = .ok (.putfield 315, 3) := by decide +kernel
theorem dX12_findCommon_71 : decode cX12_findCommon 71 = .ok (.iinc 3 1, 3) := by decide +kernel
theorem dX12_findCommon_74 : decode cX12_findCommon 74 = .ok (.goto (-67), 3) := by decide +kernel
theorem dX12_findCommon_77 : decode cX12_findCommon 77 = .ok (.aload_n 0, 1) := by decide +kernel
theorem dX12_findCommon_78 : decode cX12_findCommon 78 = .ok (.getfield 315, 3) := by decide +kernel
theorem dX12_findCommon_81 : decode cX12_findCommon 81 = .ok (.ifCond .le 7, 3) := by decide +kernel
theorem dX12_findCommon_84 : decode cX12_findCommon 84 = .ok (.iconst 1, 1) := by decide +kernel
theorem dX12_findCommon_85 : decode cX12_findCommon 85 = .ok (.goto 4, 3) := by decide +kernel
theorem dX12_findCommon_88 : decode cX12_findCommon 88 = .ok (.iconst 0, 1) := by decide +kernel
theorem dX12_findCommon_89 : decode cX12_findCommon 89 = .ok (.ireturn, 1) := by decide +kernel
theorem dX12_common_0 : decode cX12_common 0 = .ok (.iload_n 1, 1) := by decide +kernel
theorem dX12_common_1 : decode cX12_common 1 = .ok (.bipush (-9), 2) := by decide +kernel
theorem dX12_common_3 : decode cX12_common 3 = .ok (.if_icmp .eq 16, 3) := by decide +kernel
theorem dX12_common_6 : decode cX12_common 6 = .ok (.iload_n 1, 1) := by decide +kernel
theorem dX12_common_7 : decode cX12_common 7 = .ok (.iconst 0, 1) := by decide +kernel
theorem dX12_common_8 : decode cX12_common 8 = .ok (.bipush 19, 2) := by decide +kernel
theorem dX12_common_10 : decode cX12_common 10 = .ok (.invokestatic 96, 3) := by decide +kernel
theorem dX12_common_13 : decode cX12_common 13 = .ok (.ifCond .ne 6, 3) := by decide +kernel
theorem dX12_common_16 : decode cX12_common 16 = .ok (.bipush (-2), 2) := by decide +kernel
theorem dX12_common_18 : decode cX12_common 18 = .ok (.ireturn, 1) := by decide +kernel
theorem dX12_common_19 : decode cX12_common 19 = .ok (.aload_n 0, 1) := by decide +kernel
theorem dX12_common_20 : decode cX12_common 20 = .ok (.getfield 164, 3) := by decide +kernel
theorem dX12_common_23 : decode cX12_common 23 = .ok (.ifCond .ne 6, 3) := by decide +kernel
theorem dX12_common_26 : decode cX12_common 26 = .ok (.bipush (-3), 2) := by decide +kernel
theorem dX12_common_28 : decode cX12_common 28 = .ok (.ireturn, 1) := by decide +kernel
theorem dX12_common_29 : decode cX12_common 29 = .ok (.aload_n 0, 1) := by decide +kernel
theorem dX12_common_30 : decode cX12_common 30 = .ok (.iconst 0, 1) := by decide +kernel
theorem dX12_common_31 : decode cX12_common 31 = .ok (.iconst 1, 1) := by decide +kernel
theorem dX12_common_32 : decode cX12_common 32 = .ok (.invokevirtual 324, 3) := by decide +kernel
theorem dX12_common_35 : decode cX12_common 35 = .ok (.ifCond .ne 6, 3) := by decide +kernel
theorem dX12_common_38 : decode cX12_common 38 = .ok (.bipush (-9), 2) := by decide +kernel
theorem dX12_common_40 : decode cX12_common 40 = .ok (.ireturn, 1) := by decide +kernel
theorem dX12_common_41 : decode cX12_common 41 = .ok (.iload_n 1, 1) := by decide +kernel
theorem dX12_common_42 : decode cX12_common 42 = .ok (.bipush (-9), 2) := by decide +kernel
theorem dX12_common_44 : decode cX12_common 44 = .ok (.if_icmp .ne 10, 3) := by decide +kernel
theorem dX12_common_47 : decode cX12_common 47 = .ok (.aload_n 0, 1) := by decide +kernel
theorem dX12_common_48 : decode cX12_common 48 = .ok (.getfield 315, 3) := by decide +kernel
theorem dX12_common_51 : decode cX12_common 51 = .ok (.goto 27, 3) := by decide +kernel
theorem dX12_common_54 : decode cX12_common 54 = .ok (.iload_n 1, 1) := by decide +kernel
theorem dX12_common_55 : decode cX12_common 55 = .ok (.aload_n 0, 1) := by decide +kernel
theorem dX12_common_56 : decode cX12_common 56 = .ok (.getfield 315, 3) := by decide +kernel
theorem dX12_common_59 : decode cX12_common 59 = .ok (.if_icmp .ge 17, 3) := by decide +kernel
theorem dX12_common_62 : decode cX12_common 62 = .ok (.aload_n 0, 1) := by decide +kernel
theorem dX12_common_63 : decode cX12_common 63 = .ok (.iconst 0, 1) := by decide +kernel
theorem dX12_common_64 : decode cX12_common 64 = .ok (.aload_n 0, 1) := by decide +kernel
theorem dX12_common_65 : decode cX12_common 65 = .ok (.getfield 321, 3) := by decide +kernel
theorem dX12_common_68 : decode cX12_common 68 = .ok (.iload_n 1, 1) := by decide +kernel
theorem dX12_common_69 : decode cX12_common 69 = .ok (.iadd, 1) := by decide +kernel
theorem dX12_common_70 : decode cX12_common 70 = .ok (.invokevirtual 92, 3) := by decide +kernel
theorem dX12_common_73 : decode cX12_common 73 = .ok (.goto 5, 3) := by decide +kernel
theorem dX12_common_76 : decode cX12_common 76 = .ok (.bipush (-9), 2) := by decide +kernel
theorem dX12_common_78 : decode cX12_common 78 = .ok (.ireturn, 1) := by decide +kernel
theorem dX12_generalizes_0 : decode cX12_generalizes 0 = .ok (.aload_n 0, 1) := by decide +kernel
theorem dX12_generalizes_1 : decode cX12_generalizes 1 = .ok (.getfield 13, 3) := by decide +kernel
theorem dX12_generalizes_4 : decode cX12_generalizes 4 = .ok (.iload 4, 2) := by decide +kernel
theorem dX12_generalizes_6 : decode cX12_generalizes 6 = .ok (.iconst 0, 1) := by decide +kernel
theorem dX12_generalizes_7 : decode cX12_generalizes 7 = .ok (.iastore, 1) := by decide +kernel
theorem dX12_generalizes_8 : decode cX12_generalizes 8 = .ok (.iconst 0, 1) := by decide +kernel
theorem dX12_generalizes_9 : decode cX12_generalizes 9 = .ok (.istore 5, 2) := by decide +kernel
theorem dX12_generalizes_11 : decode cX12_generalizes 11 = .ok (.iload 5, 2) := by decide +kernel
theorem dX12_generalizes_13 : decode cX12_generalizes 13 = .ok (.aload_n 0, 1) := by decide +kernel
theorem dX12_generalizes_14 : decode cX12_generalizes 14 = .ok (.getfield 13, 3) := by decide +kernel
theorem dX12_generalizes_17 : decode cX12_generalizes 17 = .ok (.iload_n 1, 1) := by decide +kernel
theorem dX12_generalizes_18 : decode cX12_generalizes 18 = .ok (.iaload, 1) := by decide +kernel
theorem dX12_generalizes_19 : decode cX12_generalizes 19 = .ok (.if_icmp .ge 88, 3) := by decide +kernel
theorem dX12_generalizes_22 : decode cX12_generalizes 22 = .ok (.iload 5, 2) := by decide +kernel
theorem dX12_generalizes_24 : decode cX12_generalizes 24 = .ok (.aload_n 0, 1) := by decide +kernel
theorem dX12_generalizes_25 : decode cX12_generalizes 25 = .ok (.getfield 315, 3) := by decide +kernel
theorem dX12_generalizes_28 : decode cX12_generalizes 28 = .ok (.iadd, 1) := by decide +kernel
theorem dX12_generalizes_29 : decode cX12_generalizes 29 = .ok (.aload_n 0, 1) := by decide +kernel
theorem dX12_generalizes_30 : decode cX12_generalizes 30 = .ok (.getfield 13, 3) := by decide +kernel
theorem dX12_generalizes_33 : decode cX12_generalizes 33 = .ok (.iload_n 1, 1) := by decide +kernel
theorem dX12_generalizes_34 : decode cX12_generalizes 34 = .ok (.iaload, 1) := by decide +kernel
theorem dX12_generalizes_35 : decode cX12_generalizes 35 = .ok (.if_icmp .gt 26, 3) := by decide +kernel
theorem dX12_generalizes_38 : decode cX12_generalizes 38 = .ok (.aload_n 0, 1) := by decide +kernel
theorem dX12_generalizes_39 : decode cX12_generalizes 39 = .ok (.iload_n 1, 1) := by decide +kernel
theorem dX12_generalizes_40 : decode cX12_generalizes 40 = .ok (.iload 5, 2) := by decide +kernel
theorem dX12_generalizes_42 : decode cX12_generalizes 42 = .ok (.iload_n 2, 1) := by decide +kernel
theorem dX12_generalizes_43 : decode cX12_generalizes 43 = .ok (.aload_n 0, 1) := by decide +kernel
theorem dX12_generalizes_44 : decode cX12_generalizes 44 = .ok (.getfield 321, 3) := by decide +kernel
theorem dX12_generalizes_47 : decode cX12_generalizes 47 = .ok (.aload_n 0, 1) := by decide +kernel
theorem dX12_generalizes_48 : decode cX12_generalizes 48 = .ok (.getfield 315, 3) := by decide +kernel
theorem dX12_generalizes_51 : decode cX12_generalizes 51 = .ok (.invokevirtual 282, 3) := by decide +kernel
theorem dX12_generalizes_54 : decode cX12_generalizes 54 = .ok (.ifCond .eq 7, 3) := by decide +kernel
theorem dX12_generalizes_57 : decode cX12_generalizes 57 = .ok (.iconst 1, 1) := by decide +kernel
theorem dX12_generalizes_58 : decode cX12_generalizes 58 = .ok (.goto 4, 3) := by decide +kernel
theorem dX12_generalizes_61 : decode cX12_generalizes 61 = .ok (.iconst 0, 1) := by decide +kernel
theorem dX12_generalizes_62 : decode cX12_generalizes 62 = .ok (.istore 6, 2) := by decide +kernel
theorem dX12_generalizes_64 : decode cX12_generalizes 64 = .ok (.aload_n 0, 1) := by decide +kernel
theorem dX12_generalizes_65 : decode cX12_generalizes 65 = .ok (.iload 4, 2) := by decide +kernel
theorem dX12_generalizes_67 : decode cX12_generalizes 67 = .ok (.iload 6, 2) := by decide +kernel
theorem dX12_generalizes_69 : decode cX12_generalizes 69 = .ok (.ifCond .eq 7, 3) := by decide +kernel
theorem dX12_generalizes_72 : decode cX12_generalizes 72 = .ok (.iload_n 3, 1) := by decide +kernel
theorem dX12_generalizes_73 : decode cX12_generalizes 73 = .ok (.goto 10, 3) := by decide +kernel
theorem dX12_generalizes_76 : decode cX12_generalizes 76 = .ok (.aload_n 0, 1) := by decide +kernel
theorem dX12_generalizes_77 : decode cX12_generalizes 77 = .ok (.iload_n 1, 1) := by decide +kernel
theorem dX12_generalizes_78 : decode cX12_generalizes 78 = .ok (.iload 5, 2) := by decide +kernel
theorem dX12_generalizes_80 : decode cX12_generalizes 80 = .ok (.invokevirtual 92, 3) := by decide +kernel
theorem dX12_generalizes_83 : decode cX12_generalizes 83 = .ok (.invokevirtual 150, 3) := by decide +kernel
theorem dX12_generalizes_86 : decode cX12_generalizes 86 = .ok (.iload 5, 2) := by decide +kernel
theorem dX12_generalizes_88 : decode cX12_generalizes 88 = .ok (.iload 6, 2) := by decide +kernel
theorem dX12_generalizes_90 : decode cX12_generalizes 90 = .ok (.ifCond .eq 10, 3) := by decide +kernel
theorem dX12_generalizes_93 : decode cX12_generalizes 93 = .ok (.aload_n 0, 1) := by decide +kernel
theorem dX12_generalizes_94 : decode cX12_generalizes 94 = .ok (.getfield 315, 3) := by decide +kernel
theorem dX12_generalizes_97 : decode cX12_generalizes 97 = .ok (.goto 4, 3) := by decide +kernel
theorem dX12_generalizes_100 : decode cX12_generalizes 100 = .ok (.iconst 1, 1) := by decide +kernel
theorem dX12_generalizes_101 : decode cX12_generalizes 101 = .ok (.iadd, 1) := by decide +kernel
theorem dX12_generalizes_102 : decode cX12_generalizes 102 = .ok (.istore 5, 2) := by decide +kernel
theorem dX12_generalizes_104 : decode cX12_generalizes 104 = .ok (.goto (-93), 3) := by decide +kernel
theorem dX12_generalizes_107 : decode cX12_generalizes 107 = .ok (.return_, 1) := by decide +kernel
theorem dX12_makesGeneral_0 : decode cX12_makesGeneral 0 = .ok (.iconst 0, 1) := by decide +kernel
theorem dX12_makesGeneral_1 : decode cX12_makesGeneral 1 = .ok (.istore_n 3, 1) := by decide +kernel
theorem dX12_makesGeneral_2 : decode cX12_makesGeneral 2 = .ok (.iload_n 3, 1) := by decide +kernel
theorem dX12_makesGeneral_3 : decode cX12_makesGeneral 3 = .ok (.iconst 3, 1) := by decide +kernel
theorem dX12_makesGeneral_4 : decode cX12_makesGeneral 4 = .ok (.if_icmp .ge 33, 3) := by decide +kernel
theorem dX12_makesGeneral_7 : decode cX12_makesGeneral 7 = .ok (.aload_n 0, 1) := by decide +kernel
theorem dX12_makesGeneral_8 : decode cX12_makesGeneral 8 = .ok (.iload_n 1, 1) := by decide +kernel
theorem dX12_makesGeneral_9 : decode cX12_makesGeneral 9 = .ok (.bipush 120, 2) := by decide +kernel
theorem dX12_makesGeneral_11 : decode cX12_makesGeneral 11 = .ok (.iload_n 3, 1) := by decide +kernel
theorem dX12_makesGeneral_12 : decode cX12_makesGeneral 12 = .ok (.iadd, 1) := by decide +kernel
theorem dX12_makesGeneral_13 : decode cX12_makesGeneral 13 = .ok (.invokevirtual 211, 3) := by decide +kernel
theorem dX12_makesGeneral_16 : decode cX12_makesGeneral 16 = .ok (.ifCond .ne 15, 3) := by decide +kernel
theorem dX12_makesGeneral_19 : decode cX12_makesGeneral 19 = .ok (.aload_n 0, 1) := by decide +kernel
theorem dX12_makesGeneral_20 : decode cX12_makesGeneral 20 = .ok (.iload_n 2, 1) := by decide +kernel
theorem dX12_makesGeneral_21 : decode cX12_makesGeneral 21 = .ok (.bipush 120, 2) := by decide +kernel
theorem dX12_makesGeneral_23 : decode cX12_makesGeneral 23 = .ok (.iload_n 3, 1) := by decide +kernel
theorem dX12_makesGeneral_24 : decode cX12_makesGeneral 24 = .ok (.iadd, 1) := by decide +kernel
theorem dX12_makesGeneral_25 : decode cX12_makesGeneral 25 = .ok (.invokevirtual 211, 3) := by decide +kernel
theorem dX12_makesGeneral_28 : decode cX12_makesGeneral 28 = .ok (.ifCond .eq 9, 3) := by decide +kernel
theorem dX12_makesGeneral_31 : decode cX12_makesGeneral 31 = .ok (.iinc 3 1, 3) := by decide +kernel
theorem dX12_makesGeneral_34 : decode cX12_makesGeneral 34 = .ok (.goto (-32), 3) := by decide +kernel
theorem dX12_makesGeneral_37 : decode cX12_makesGeneral 37 = .ok (.iload_n 3, 1) := by decide +kernel
theorem dX12_makesGeneral_38 : decode cX12_makesGeneral 38 = .ok (.iconst 3, 1) := by decide +kernel
theorem dX12_makesGeneral_39 : decode cX12_makesGeneral 39 = .ok (.if_icmp .eq 12, 3) := by decide +kernel
theorem dX12_makesGeneral_42 : decode cX12_makesGeneral 42 = .ok (.aload_n 0, 1) := by decide +kernel
theorem dX12_makesGeneral_43 : decode cX12_makesGeneral 43 = .ok (.iload_n 1, 1) := by decide +kernel
theorem dX12_makesGeneral_44 : decode cX12_makesGeneral 44 = .ok (.iload_n 2, 1) := by decide +kernel
theorem dX12_makesGeneral_45 : decode cX12_makesGeneral 45 = .ok (.invokevirtual 324, 3) := by decide +kernel
theorem dX12_makesGeneral_48 : decode cX12_makesGeneral 48 = .ok (.ifCond .ne 20, 3) := by decide +kernel
theorem dX12_makesGeneral_51 : decode cX12_makesGeneral 51 = .ok (.aload_n 0, 1) := by decide +kernel
theorem dX12_makesGeneral_52 : decode cX12_makesGeneral 52 = .ok (.iload_n 1, 1) := by decide +kernel
theorem dX12_makesGeneral_53 : decode cX12_makesGeneral 53 = .ok (.bipush 22, 2) := by decide +kernel
theorem dX12_makesGeneral_55 : decode cX12_makesGeneral 55 = .ok (.invokevirtual 161, 3) := by decide +kernel
theorem dX12_makesGeneral_58 : decode cX12_makesGeneral 58 = .ok (.aload_n 0, 1) := by decide +kernel
theorem dX12_makesGeneral_59 : decode cX12_makesGeneral 59 = .ok (.iload_n 2, 1) := by decide +kernel
theorem dX12_makesGeneral_60 : decode cX12_makesGeneral 60 = .ok (.bipush 23, 2) := by decide +kernel
theorem dX12_makesGeneral_62 : decode cX12_makesGeneral 62 = .ok (.invokevirtual 161, 3) := by decide +kernel
theorem dX12_makesGeneral_65 : decode cX12_makesGeneral 65 = .ok (.bipush (-9), 2) := by decide +kernel
theorem dX12_makesGeneral_67 : decode cX12_makesGeneral 67 = .ok (.ireturn, 1) := by decide +kernel
theorem dX12_makesGeneral_68 : decode cX12_makesGeneral 68 = .ok (.aload_n 0, 1) := by decide +kernel
theorem dX12_makesGeneral_69 : decode cX12_makesGeneral 69 = .ok (.iload_n 1, 1) := by decide +kernel
theorem dX12_makesGeneral_70 : decode cX12_makesGeneral 70 = .ok (.iload_n 1, 1) := by decide +kernel
theorem dX12_makesGeneral_71 : decode cX12_makesGeneral 71 = .ok (.bipush 120, 2) := by decide +kernel
theorem dX12_makesGeneral_73 : decode cX12_makesGeneral 73 = .ok (.iload_n 3, 1) := by decide +kernel
theorem dX12_makesGeneral_74 : decode cX12_makesGeneral 74 = .ok (.iadd, 1) := by decide +kernel
theorem dX12_makesGeneral_75 : decode cX12_makesGeneral 75 = .ok (.bipush 22, 2) := by decide +kernel
theorem dX12_makesGeneral_77 : decode cX12_makesGeneral 77 = .ok (.invokevirtual 327, 3) := by decide +kernel
theorem dX12_makesGeneral_80 : decode cX12_makesGeneral 80 = .ok (.aload_n 0, 1) := by decide +kernel
theorem dX12_makesGeneral_81 : decode cX12_makesGeneral 81 = .ok (.iload_n 2, 1) := by decide +kernel
theorem dX12_makesGeneral_82 : decode cX12_makesGeneral 82 = .ok (.iload_n 1, 1) := by decide +kernel
theorem dX12_makesGeneral_83 : decode cX12_makesGeneral 83 = .ok (.bipush 120, 2) := by decide +kernel
theorem dX12_makesGeneral_85 : decode cX12_makesGeneral 85 = .ok (.iload_n 3, 1) := by decide +kernel
theorem dX12_makesGeneral_86 : decode cX12_makesGeneral 86 = .ok (.iadd, 1) := by decide +kernel
theorem dX12_makesGeneral_87 : decode cX12_makesGeneral 87 = .ok (.bipush 23, 2) := by decide +kernel
theorem dX12_makesGeneral_89 : decode cX12_makesGeneral 89 = .ok (.invokevirtual 327, 3) := by decide +kernel
theorem dX12_makesGeneral_92 : decode cX12_makesGeneral 92 = .ok (.iload_n 3, 1) := by decide +kernel
theorem dX12_makesGeneral_93 : decode cX12_makesGeneral 93 = .ok (.ireturn, 1) := by decide +kernel
theorem dX12_general_0 : decode cX12_general 0 = .ok (.iload_n 1, 1) := by decide +kernel
theorem dX12_general_1 : decode cX12_general 1 = .ok (.iconst 0, 1) := by decide +kernel
theorem dX12_general_2 : decode cX12_general 2 = .ok (.iconst 1, 1) := by decide +kernel
theorem dX12_general_3 : decode cX12_general 3 = .ok (.invokestatic 96, 3) := by decide +kernel
theorem dX12_general_6 : decode cX12_general 6 = .ok (.ifCond .eq 19, 3) := by decide +kernel
theorem dX12_general_9 : decode cX12_general 9 = .ok (.iload_n 2, 1) := by decide +kernel
theorem dX12_general_10 : decode cX12_general 10 = .ok (.bipush (-9), 2) := by decide +kernel
theorem dX12_general_12 : decode cX12_general 12 = .ok (.if_icmp .eq 16, 3) := by decide +kernel
theorem dX12_general_15 : decode cX12_general 15 = .ok (.iload_n 2, 1) := by decide +kernel
theorem dX12_general_16 : decode cX12_general 16 = .ok (.iconst 0, 1) := by decide +kernel
theorem dX12_general_17 : decode cX12_general 17 = .ok (.bipush 19, 2) := by decide +kernel
theorem dX12_general_19 : decode cX12_general 19 = .ok (.invokestatic 96, 3) := by decide +kernel
theorem dX12_general_22 : decode cX12_general 22 = .ok (.ifCond .ne 6, 3) := by decide +kernel
theorem dX12_general_25 : decode cX12_general 25 = .ok (.bipush (-2), 2) := by decide +kernel
theorem dX12_general_27 : decode cX12_general 27 = .ok (.ireturn, 1) := by decide +kernel
theorem dX12_general_28 : decode cX12_general 28 = .ok (.aload_n 0, 1) := by decide +kernel
theorem dX12_general_29 : decode cX12_general 29 = .ok (.getfield 164, 3) := by decide +kernel
theorem dX12_general_32 : decode cX12_general 32 = .ok (.ifCond .ne 6, 3) := by decide +kernel
theorem dX12_general_35 : decode cX12_general 35 = .ok (.bipush (-3), 2) := by decide +kernel
theorem dX12_general_37 : decode cX12_general 37 = .ok (.ireturn, 1) := by decide +kernel
theorem dX12_general_38 : decode cX12_general 38 = .ok (.aload_n 0, 1) := by decide +kernel
theorem dX12_general_39 : decode cX12_general 39 = .ok (.iconst 0, 1) := by decide +kernel
theorem dX12_general_40 : decode cX12_general 40 = .ok (.iconst 1, 1) := by decide +kernel
theorem dX12_general_41 : decode cX12_general 41 = .ok (.invokevirtual 331, 3) := by decide +kernel
theorem dX12_general_44 : decode cX12_general 44 = .ok (.pop, 1) := by decide +kernel
theorem dX12_general_45 : decode cX12_general 45 = .ok (.aload_n 0, 1) := by decide +kernel
theorem dX12_general_46 : decode cX12_general 46 = .ok (.bipush 22, 2) := by decide +kernel
theorem dX12_general_48 : decode cX12_general 48 = .ok (.iload_n 1, 1) := by decide +kernel
theorem dX12_general_49 : decode cX12_general 49 = .ok (.iadd, 1) := by decide +kernel
theorem dX12_general_50 : decode cX12_general 50 = .ok (.iload_n 2, 1) := by decide +kernel
theorem dX12_general_51 : decode cX12_general 51 = .ok (.invokevirtual 168, 3) := by decide +kernel
theorem dX12_general_54 : decode cX12_general 54 = .ok (.ireturn, 1) := by decide +kernel
theorem dX12_notesIt_0 : decode cX12_notesIt 0 = .ok (.aload_n 0, 1) := by decide +kernel
theorem dX12_notesIt_1 : decode cX12_notesIt 1 = .ok (.getfield 174, 3) := by decide +kernel
theorem dX12_notesIt_4 : decode cX12_notesIt 4 = .ok (.bipush 99, 2) := by decide +kernel
theorem dX12_notesIt_6 : decode cX12_notesIt 6 = .ok (.if_icmp .ge 33, 3) := by decide +kernel
theorem dX12_notesIt_9 : decode cX12_notesIt 9 = .ok (.aload_n 0, 1) := by decide +kernel
theorem dX12_notesIt_10 : decode cX12_notesIt 10 = .ok (.getfield 73, 3) := by decide +kernel
theorem dX12_notesIt_13 : decode cX12_notesIt 13 = .ok (.aload_n 0, 1) := by decide +kernel
theorem dX12_notesIt_14 : decode cX12_notesIt 14 = .ok (.getfield 174, 3) := by decide +kernel
theorem dX12_notesIt_17 : decode cX12_notesIt 17 = .ok (.iload_n 1, 1) := by decide +kernel
theorem dX12_notesIt_18 : decode cX12_notesIt 18 = .ok (.iastore, 1) := by decide +kernel
theorem dX12_notesIt_19 : decode cX12_notesIt 19 = .ok (.aload_n 0, 1) := by decide +kernel
theorem dX12_notesIt_20 : decode cX12_notesIt 20 = .ok (.getfield 76, 3) := by decide +kernel
theorem dX12_notesIt_23 : decode cX12_notesIt 23 = .ok (.aload_n 0, 1) := by decide +kernel
theorem dX12_notesIt_24 : decode cX12_notesIt 24 = .ok (.getfield 174, 3) := by decide +kernel
theorem dX12_notesIt_27 : decode cX12_notesIt 27 = .ok (.iload_n 2, 1) := by decide +kernel
theorem dX12_notesIt_28 : decode cX12_notesIt 28 = .ok (.iastore, 1) := by decide +kernel
theorem dX12_notesIt_29 : decode cX12_notesIt 29 = .ok (.aload_n 0, 1) := by decide +kernel
theorem dX12_notesIt_30 : decode cX12_notesIt 30 = .ok (.dup, 1) := by decide +kernel
theorem dX12_notesIt_31 : decode cX12_notesIt 31 = .ok (.getfield 174, 3) := by decide +kernel
theorem dX12_notesIt_34 : decode cX12_notesIt 34 = .ok (.iconst 1, 1) := by decide +kernel
theorem dX12_notesIt_35 : decode cX12_notesIt 35 = .ok (.iadd, 1) := by decide +kernel
theorem dX12_notesIt_36 : decode cX12_notesIt 36 = .ok (.putfield 174, 3) := by decide +kernel
theorem dX12_notesIt_39 : decode cX12_notesIt 39 = .ok (.return_, 1) := by decide +kernel
theorem dX12_slotOf_0 : decode cX12_slotOf 0 = .ok (.bipush 6, 2) := by decide +kernel
theorem dX12_slotOf_2 : decode cX12_slotOf 2 = .ok (.aload_n 0, 1) := by decide +kernel
theorem dX12_slotOf_3 : decode cX12_slotOf 3 = .ok (.getfield 334, 3) := by decide +kernel
theorem dX12_slotOf_6 : decode cX12_slotOf 6 = .ok (.imul, 1) := by decide +kernel
theorem dX12_slotOf_7 : decode cX12_slotOf 7 = .ok (.iload_n 1, 1) := by decide +kernel
theorem dX12_slotOf_8 : decode cX12_slotOf 8 = .ok (.iadd, 1) := by decide +kernel
theorem dX12_slotOf_9 : decode cX12_slotOf 9 = .ok (.iload_n 2, 1) := by decide +kernel
theorem dX12_slotOf_10 : decode cX12_slotOf 10 = .ok (.iadd, 1) := by decide +kernel
theorem dX12_slotOf_11 : decode cX12_slotOf 11 = .ok (.ireturn, 1) := by decide +kernel
theorem dX12_fails_0 : decode cX12_fails 0 = .ok (.iload_n 2, 1) := by decide +kernel
theorem dX12_fails_1 : decode cX12_fails 1 = .ok (.ifCond .eq 16, 3) := by decide +kernel
theorem dX12_fails_4 : decode cX12_fails 4 = .ok (.aload_n 0, 1) := by decide +kernel
theorem dX12_fails_5 : decode cX12_fails 5 = .ok (.aload_n 0, 1) := by decide +kernel
theorem dX12_fails_6 : decode cX12_fails 6 = .ok (.getfield 334, 3) := by decide +kernel
theorem dX12_fails_9 : decode cX12_fails 9 = .ok (.putfield 337, 3) := by decide +kernel
theorem dX12_fails_12 : decode cX12_fails 12 = .ok (.aload_n 0, 1) := by decide +kernel
theorem dX12_fails_13 : decode cX12_fails 13 = .ok (.iload_n 1, 1) := by decide +kernel
theorem dX12_fails_14 : decode cX12_fails 14 = .ok (.putfield 340, 3) := by decide +kernel
theorem dX12_fails_17 : decode cX12_fails 17 = .ok (.aload_n 0, 1) := by decide +kernel
theorem dX12_fails_18 : decode cX12_fails 18 = .ok (.bipush 8, 2) := by decide +kernel
theorem dX12_fails_20 : decode cX12_fails 20 = .ok (.iload_n 1, 1) := by decide +kernel
theorem dX12_fails_21 : decode cX12_fails 21 = .ok (.invokevirtual 308, 3) := by decide +kernel
theorem dX12_fails_24 : decode cX12_fails 24 = .ok (.iload_n 1, 1) := by decide +kernel
theorem dX12_fails_25 : decode cX12_fails 25 = .ok (.ireturn, 1) := by decide +kernel
theorem dX12_isLemma_0 : decode cX12_isLemma 0 = .ok (.iconst 0, 1) := by decide +kernel
theorem dX12_isLemma_1 : decode cX12_isLemma 1 = .ok (.istore_n 3, 1) := by decide +kernel
theorem dX12_isLemma_2 : decode cX12_isLemma 2 = .ok (.iload_n 3, 1) := by decide +kernel
theorem dX12_isLemma_3 : decode cX12_isLemma 3 = .ok (.aload_n 0, 1) := by decide +kernel
theorem dX12_isLemma_4 : decode cX12_isLemma 4 = .ok (.getfield 171, 3) := by decide +kernel
theorem dX12_isLemma_7 : decode cX12_isLemma 7 = .ok (.if_icmp .ge 41, 3) := by decide +kernel
theorem dX12_isLemma_10 : decode cX12_isLemma 10 = .ok (.aload_n 0, 1) := by decide +kernel
theorem dX12_isLemma_11 : decode cX12_isLemma 11 = .ok (.bipush 28, 2) := by decide +kernel
theorem dX12_isLemma_13 : decode cX12_isLemma 13 = .ok (.iconst 2, 1) := by decide +kernel
theorem dX12_isLemma_14 : decode cX12_isLemma 14 = .ok (.iload_n 3, 1) := by decide +kernel
theorem dX12_isLemma_15 : decode cX12_isLemma 15 = .ok (.imul, 1) := by decide +kernel
theorem dX12_isLemma_16 : decode cX12_isLemma 16 = .ok (.iadd, 1) := by decide +kernel
theorem dX12_isLemma_17 : decode cX12_isLemma 17 = .ok (.iload_n 1, 1) := by decide +kernel
theorem dX12_isLemma_18 : decode cX12_isLemma 18 = .ok (.invokevirtual 343, 3) := by decide +kernel
theorem dX12_isLemma_21 : decode cX12_isLemma 21 = .ok (.ifCond .eq 21, 3) := by decide +kernel
theorem dX12_isLemma_24 : decode cX12_isLemma 24 = .ok (.aload_n 0, 1) := by decide +kernel
theorem dX12_isLemma_25 : decode cX12_isLemma 25 = .ok (.bipush 28, 2) := by decide +kernel
theorem dX12_isLemma_27 : decode cX12_isLemma 27 = .ok (.iconst 2, 1) := by decide +kernel
theorem dX12_isLemma_28 : decode cX12_isLemma 28 = .ok (.iload_n 3, 1) := by decide +kernel
theorem dX12_isLemma_29 : decode cX12_isLemma 29 = .ok (.imul, 1) := by decide +kernel
theorem dX12_isLemma_30 : decode cX12_isLemma 30 = .ok (.iadd, 1) := by decide +kernel
theorem dX12_isLemma_31 : decode cX12_isLemma 31 = .ok (.iconst 1, 1) := by decide +kernel
theorem dX12_isLemma_32 : decode cX12_isLemma 32 = .ok (.iadd, 1) := by decide +kernel
theorem dX12_isLemma_33 : decode cX12_isLemma 33 = .ok (.iload_n 2, 1) := by decide +kernel
theorem dX12_isLemma_34 : decode cX12_isLemma 34 = .ok (.invokevirtual 343, 3) := by decide +kernel
theorem dX12_isLemma_37 : decode cX12_isLemma 37 = .ok (.ifCond .eq 5, 3) := by decide +kernel
theorem dX12_isLemma_40 : decode cX12_isLemma 40 = .ok (.iconst 1, 1) := by decide +kernel
theorem dX12_isLemma_41 : decode cX12_isLemma 41 = .ok (.ireturn, 1) := by decide +kernel
theorem dX12_isLemma_42 : decode cX12_isLemma 42 = .ok (.iinc 3 1, 3) := by decide +kernel
theorem dX12_isLemma_45 : decode cX12_isLemma 45 = .ok (.goto (-43), 3) := by decide +kernel
theorem dX12_isLemma_48 : decode cX12_isLemma 48 = .ok (.iconst 0, 1) := by decide +kernel
theorem dX12_isLemma_49 : decode cX12_isLemma 49 = .ok (.ireturn, 1) := by decide +kernel
theorem dX12_proves_0 : decode cX12_proves 0 = .ok (.aload_n 0, 1) := by decide +kernel
theorem dX12_proves_1 : decode cX12_proves 1 = .ok (.iconst 2, 1) := by decide +kernel
theorem dX12_proves_2 : decode cX12_proves 2 = .ok (.iconst 0, 1) := by decide +kernel
theorem dX12_proves_3 : decode cX12_proves 3 = .ok (.invokevirtual 346, 3) := by decide +kernel
theorem dX12_proves_6 : decode cX12_proves 6 = .ok (.istore_n 1, 1) := by decide +kernel
theorem dX12_proves_7 : decode cX12_proves 7 = .ok (.aload_n 0, 1) := by decide +kernel
theorem dX12_proves_8 : decode cX12_proves 8 = .ok (.iconst 2, 1) := by decide +kernel
theorem dX12_proves_9 : decode cX12_proves 9 = .ok (.iconst 1, 1) := by decide +kernel
theorem dX12_proves_10 : decode cX12_proves 10 = .ok (.invokevirtual 346, 3) := by decide +kernel
theorem dX12_proves_13 : decode cX12_proves 13 = .ok (.istore_n 2, 1) := by decide +kernel
theorem dX12_proves_14 : decode cX12_proves 14 = .ok (.aload_n 0, 1) := by decide +kernel
theorem dX12_proves_15 : decode cX12_proves 15 = .ok (.bipush 7, 2) := by decide +kernel
theorem dX12_proves_17 : decode cX12_proves 17 = .ok (.aload_n 0, 1) := by decide +kernel
theorem dX12_proves_18 : decode cX12_proves 18 = .ok (.getfield 334, 3) := by decide +kernel
theorem dX12_proves_21 : decode cX12_proves 21 = .ok (.invokevirtual 308, 3) := by decide +kernel
theorem dX12_proves_24 : decode cX12_proves 24 = .ok (.aload_n 0, 1) := by decide +kernel
theorem dX12_proves_25 : decode cX12_proves 25 = .ok (.iload_n 1, 1) := by decide +kernel
theorem dX12_proves_26 : decode cX12_proves 26 = .ok (.iload_n 2, 1) := by decide +kernel
theorem dX12_proves_27 : decode cX12_proves 27 = .ok (.invokevirtual 343, 3) := by decide +kernel
theorem dX12_proves_30 : decode cX12_proves 30 = .ok (.ifCond .ne 61, 3) := by decide +kernel
theorem dX12_proves_33 : decode cX12_proves 33 = .ok (.aload_n 0, 1) := by decide +kernel
theorem dX12_proves_34 : decode cX12_proves 34 = .ok (.getfield 171, 3) := by decide +kernel
theorem dX12_proves_37 : decode cX12_proves 37 = .ok (.bipush 8, 2) := by decide +kernel
theorem dX12_proves_39 : decode cX12_proves 39 = .ok (.if_icmp .ge 52, 3) := by decide +kernel
theorem dX12_proves_42 : decode cX12_proves 42 = .ok (.aload_n 0, 1) := by decide +kernel
theorem dX12_proves_43 : decode cX12_proves 43 = .ok (.iload_n 1, 1) := by decide +kernel
theorem dX12_proves_44 : decode cX12_proves 44 = .ok (.iload_n 2, 1) := by decide +kernel
theorem dX12_proves_45 : decode cX12_proves 45 = .ok (.invokevirtual 349, 3) := by decide +kernel
theorem dX12_proves_48 : decode cX12_proves 48 = .ok (.ifCond .ne 43, 3) := by decide +kernel
theorem dX12_proves_51 : decode cX12_proves 51 = .ok (.aload_n 0, 1) := by decide +kernel
theorem dX12_proves_52 : decode cX12_proves 52 = .ok (.iload_n 1, 1) := by decide +kernel
theorem dX12_proves_53 : decode cX12_proves 53 = .ok (.bipush 28, 2) := by decide +kernel
theorem dX12_proves_55 : decode cX12_proves 55 = .ok (.iconst 2, 1) := by decide +kernel
theorem dX12_proves_56 : decode cX12_proves 56 = .ok (.aload_n 0, 1) := by decide +kernel
theorem dX12_proves_57 : decode cX12_proves 57 = .ok (.getfield 171, 3) := by decide +kernel
theorem dX12_proves_60 : decode cX12_proves 60 = .ok (.imul, 1) := by decide +kernel
theorem dX12_proves_61 : decode cX12_proves 61 = .ok (.iadd, 1) := by decide +kernel
theorem dX12_proves_62 : decode cX12_proves 62 = .ok (.invokevirtual 161, 3) := by decide +kernel
theorem dX12_proves_65 : decode cX12_proves 65 = .ok (.aload_n 0, 1) := by decide +kernel
theorem dX12_proves_66 : decode cX12_proves 66 = .ok (.iload_n 2, 1) := by decide +kernel
theorem dX12_proves_67 : decode cX12_proves 67 = .ok (.bipush 28, 2) := by decide +kernel
theorem dX12_proves_69 : decode cX12_proves 69 = .ok (.iconst 2, 1) := by decide +kernel
theorem dX12_proves_70 : decode cX12_proves 70 = .ok (.aload_n 0, 1) := by decide +kernel
theorem dX12_proves_71 : decode cX12_proves 71 = .ok (.getfield 171, 3) := by decide +kernel
theorem dX12_proves_74 : decode cX12_proves 74 = .ok (.imul, 1) := by decide +kernel
theorem dX12_proves_75 : decode cX12_proves 75 = .ok (.iadd, 1) := by decide +kernel
theorem dX12_proves_76 : decode cX12_proves 76 = .ok (.iconst 1, 1) := by decide +kernel
theorem dX12_proves_77 : decode cX12_proves 77 = .ok (.iadd, 1) := by decide +kernel
theorem dX12_proves_78 : decode cX12_proves 78 = .ok (.invokevirtual 161, 3) := by decide +kernel
theorem dX12_proves_81 : decode cX12_proves 81 = .ok (.aload_n 0, 1) := by decide +kernel
theorem dX12_proves_82 : decode cX12_proves 82 = .ok (.dup, 1) := by decide +kernel
theorem dX12_proves_83 : decode cX12_proves 83 = .ok (.getfield 171, 3) := by decide +kernel
theorem dX12_proves_86 : decode cX12_proves 86 = .ok (.iconst 1, 1) := by decide +kernel
theorem dX12_proves_87 : decode cX12_proves 87 = .ok (.iadd, 1) := by decide +kernel
theorem dX12_proves_88 : decode cX12_proves 88 = .ok (.putfield 171, 3) := by decide +kernel
theorem dX12_proves_91 : decode cX12_proves 91 = .ok (.iconst 0, 1) := by decide +kernel
theorem dX12_proves_92 : decode cX12_proves 92 = .ok (.ireturn, 1) := by decide +kernel
theorem dX12_begins_0 : decode cX12_begins 0 = .ok (.aload_n 0, 1) := by decide +kernel
theorem dX12_begins_1 : decode cX12_begins 1 = .ok (.iconst 2, 1) := by decide +kernel
theorem dX12_begins_2 : decode cX12_begins 2 = .ok (.iconst 0, 1) := by decide +kernel
theorem dX12_begins_3 : decode cX12_begins 3 = .ok (.invokevirtual 346, 3) := by decide +kernel
theorem dX12_begins_6 : decode cX12_begins 6 = .ok (.istore_n 1, 1) := by decide +kernel
theorem dX12_begins_7 : decode cX12_begins 7 = .ok (.aload_n 0, 1) := by decide +kernel
theorem dX12_begins_8 : decode cX12_begins 8 = .ok (.iconst 2, 1) := by decide +kernel
theorem dX12_begins_9 : decode cX12_begins 9 = .ok (.iconst 1, 1) := by decide +kernel
theorem dX12_begins_10 : decode cX12_begins 10 = .ok (.invokevirtual 346, 3) := by decide +kernel
theorem dX12_begins_13 : decode cX12_begins 13 = .ok (.istore_n 2, 1) := by decide +kernel
theorem dX12_begins_14 : decode cX12_begins 14 = .ok (.aload_n 0, 1) := by decide +kernel
theorem dX12_begins_15 : decode cX12_begins 15 = .ok (.iconst 0, 1) := by decide +kernel
theorem dX12_begins_16 : decode cX12_begins 16 = .ok (.aload_n 0, 1) := by decide +kernel
theorem dX12_begins_17 : decode cX12_begins 17 = .ok (.getfield 334, 3) := by decide +kernel
theorem dX12_begins_20 : decode cX12_begins 20 = .ok (.invokevirtual 308, 3) := by decide +kernel
theorem dX12_begins_23 : decode cX12_begins 23 = .ok (.aload_n 0, 1) := by decide +kernel
theorem dX12_begins_24 : decode cX12_begins 24 = .ok (.iconst 0, 1) := by decide +kernel
theorem dX12_begins_25 : decode cX12_begins 25 = .ok (.putfield 352, 3) := by decide +kernel
theorem dX12_begins_28 : decode cX12_begins 28 = .ok (.aload_n 0, 1) := by decide +kernel
theorem dX12_begins_29 : decode cX12_begins 29 = .ok (.iload_n 1, 1) := by decide +kernel
theorem dX12_begins_30 : decode cX12_begins 30 = .ok (.iload_n 2, 1) := by decide +kernel
theorem dX12_begins_31 : decode cX12_begins 31 = .ok (.invokevirtual 218, 3) := by decide +kernel
theorem dX12_begins_34 : decode cX12_begins 34 = .ok (.bipush (-9), 2) := by decide +kernel
theorem dX12_begins_36 : decode cX12_begins 36 = .ok (.if_icmp .eq 10, 3) := by decide +kernel
theorem dX12_begins_39 : decode cX12_begins 39 = .ok (.aload_n 0, 1) := by decide +kernel
theorem dX12_begins_40 : decode cX12_begins 40 = .ok (.iconst 1, 1) := by decide +kernel
theorem dX12_begins_41 : decode cX12_begins 41 = .ok (.iconst 1, 1) := by decide +kernel
theorem dX12_begins_42 : decode cX12_begins 42 = .ok (.invokevirtual 355, 3) := by decide +kernel
theorem dX12_begins_45 : decode cX12_begins 45 = .ok (.ireturn, 1) := by decide +kernel
theorem dX12_begins_46 : decode cX12_begins 46 = .ok (.aload_n 0, 1) := by decide +kernel
theorem dX12_begins_47 : decode cX12_begins 47 = .ok (.iload_n 1, 1) := by decide +kernel
theorem dX12_begins_48 : decode cX12_begins 48 = .ok (.aload_n 0, 1) := by decide +kernel
theorem dX12_begins_49 : decode cX12_begins 49 = .ok (.iconst 4, 1) := by decide +kernel
theorem dX12_begins_50 : decode cX12_begins 50 = .ok (.iconst 0, 1) := by decide +kernel
theorem dX12_begins_51 : decode cX12_begins 51 = .ok (.invokevirtual 346, 3) := by decide +kernel
theorem dX12_begins_54 : decode cX12_begins 54 = .ok (.invokevirtual 248, 3) := by decide +kernel
theorem dX12_begins_57 : decode cX12_begins 57 = .ok (.ifCond .eq 17, 3) := by decide +kernel
theorem dX12_begins_60 : decode cX12_begins 60 = .ok (.aload_n 0, 1) := by decide +kernel
theorem dX12_begins_61 : decode cX12_begins 61 = .ok (.iload_n 2, 1) := by decide +kernel
theorem dX12_begins_62 : decode cX12_begins 62 = .ok (.aload_n 0, 1) := by decide +kernel
theorem dX12_begins_63 : decode cX12_begins 63 = .ok (.iconst 4, 1) := by decide +kernel
theorem dX12_begins_64 : decode cX12_begins 64 = .ok (.iconst 1, 1) := by decide +kernel
theorem dX12_begins_65 : decode cX12_begins 65 = .ok (.invokevirtual 346, 3) := by decide +kernel
theorem dX12_begins_68 : decode cX12_begins 68 = .ok (.invokevirtual 248, 3) := by decide +kernel
theorem dX12_begins_71 : decode cX12_begins 71 = .ok (.ifCond .ne 5, 3) := by decide +kernel
theorem dX12_begins_74 : decode cX12_begins 74 = .ok (.iconst 3, 1) := by decide +kernel
theorem dX12_begins_75 : decode cX12_begins 75 = .ok (.ireturn, 1) := by decide +kernel
theorem dX12_begins_76 : decode cX12_begins 76 = .ok (.aload_n 0, 1) := by decide +kernel
theorem dX12_begins_77 : decode cX12_begins 77 = .ok (.aload_n 0, 1) := by decide +kernel
theorem dX12_begins_78 : decode cX12_begins 78 = .ok (.iconst 4, 1) := by decide +kernel
theorem dX12_begins_79 : decode cX12_begins 79 = .ok (.iconst 0, 1) := by decide +kernel
theorem dX12_begins_80 : decode cX12_begins 80 = .ok (.invokevirtual 346, 3) := by decide +kernel
theorem dX12_begins_83 : decode cX12_begins 83 = .ok (.aload_n 0, 1) := by decide +kernel
theorem dX12_begins_84 : decode cX12_begins 84 = .ok (.iconst 4, 1) := by decide +kernel
theorem dX12_begins_85 : decode cX12_begins 85 = .ok (.iconst 1, 1) := by decide +kernel
theorem dX12_begins_86 : decode cX12_begins 86 = .ok (.invokevirtual 346, 3) := by decide +kernel
theorem dX12_begins_89 : decode cX12_begins 89 = .ok (.invokevirtual 343, 3) := by decide +kernel
theorem dX12_begins_92 : decode cX12_begins 92 = .ok (.ifCond .eq 14, 3) := by decide +kernel
theorem dX12_begins_95 : decode cX12_begins 95 = .ok (.aload_n 0, 1) := by decide +kernel
theorem dX12_begins_96 : decode cX12_begins 96 = .ok (.iconst 1, 1) := by decide +kernel
theorem dX12_begins_97 : decode cX12_begins 97 = .ok (.iconst 0, 1) := by decide +kernel
theorem dX12_begins_98 : decode cX12_begins 98 = .ok (.invokevirtual 308, 3) := by decide +kernel
theorem dX12_begins_101 : decode cX12_begins 101 = .ok (.aload_n 0, 1) := by decide +kernel
theorem dX12_begins_102 : decode cX12_begins 102 = .ok (.invokevirtual 359, 3) := by decide +kernel
theorem dX12_begins_105 : decode cX12_begins 105 = .ok (.ireturn, 1) := by decide +kernel
theorem dX12_begins_106 : decode cX12_begins 106 = .ok (.aload_n 0, 1) := by decide +kernel
theorem dX12_begins_107 : decode cX12_begins 107 = .ok (.aload_n 0, 1) := by decide +kernel
theorem dX12_begins_108 : decode cX12_begins 108 = .ok (.iconst 4, 1) := by decide +kernel
theorem dX12_begins_109 : decode cX12_begins 109 = .ok (.iconst 0, 1) := by decide +kernel
theorem dX12_begins_110 : decode cX12_begins 110 = .ok (.invokevirtual 346, 3) := by decide +kernel
theorem dX12_begins_113 : decode cX12_begins 113 = .ok (.aload_n 0, 1) := by decide +kernel
theorem dX12_begins_114 : decode cX12_begins 114 = .ok (.iconst 4, 1) := by decide +kernel
theorem dX12_begins_115 : decode cX12_begins 115 = .ok (.iconst 1, 1) := by decide +kernel
theorem dX12_begins_116 : decode cX12_begins 116 = .ok (.invokevirtual 346, 3) := by decide +kernel
theorem dX12_begins_119 : decode cX12_begins 119 = .ok (.invokevirtual 263, 3) := by decide +kernel
theorem dX12_begins_122 : decode cX12_begins 122 = .ok (.ifCond .ne 10, 3) := by decide +kernel
theorem dX12_begins_125 : decode cX12_begins 125 = .ok (.aload_n 0, 1) := by decide +kernel
theorem dX12_begins_126 : decode cX12_begins 126 = .ok (.iconst 2, 1) := by decide +kernel
theorem dX12_begins_127 : decode cX12_begins 127 = .ok (.iconst 1, 1) := by decide +kernel
theorem dX12_begins_128 : decode cX12_begins 128 = .ok (.invokevirtual 355, 3) := by decide +kernel
theorem dX12_begins_131 : decode cX12_begins 131 = .ok (.ireturn, 1) := by decide +kernel
theorem dX12_begins_132 : decode cX12_begins 132 = .ok (.aload_n 0, 1) := by decide +kernel
theorem dX12_begins_133 : decode cX12_begins 133 = .ok (.iconst 2, 1) := by decide +kernel
theorem dX12_begins_134 : decode cX12_begins 134 = .ok (.bipush 10, 2) := by decide +kernel
theorem dX12_begins_136 : decode cX12_begins 136 = .ok (.aload_n 0, 1) := by decide +kernel
theorem dX12_begins_137 : decode cX12_begins 137 = .ok (.getfield 257, 3) := by decide +kernel
theorem dX12_begins_140 : decode cX12_begins 140 = .ok (.imul, 1) := by decide +kernel
theorem dX12_begins_141 : decode cX12_begins 141 = .ok (.aload_n 0, 1) := by decide +kernel
theorem dX12_begins_142 : decode cX12_begins 142 = .ok (.getfield 260, 3) := by decide +kernel
theorem dX12_begins_145 : decode cX12_begins 145 = .ok (.iadd, 1) := by decide +kernel
theorem dX12_begins_146 : decode cX12_begins 146 = .ok (.invokevirtual 308, 3) := by decide +kernel
theorem dX12_begins_149 : decode cX12_begins 149 = .ok (.aload_n 0, 1) := by decide +kernel
theorem dX12_begins_150 : decode cX12_begins 150 = .ok (.getfield 86, 3) := by decide +kernel
theorem dX12_begins_153 : decode cX12_begins 153 = .ok (.aload_n 0, 1) := by decide +kernel
theorem dX12_begins_154 : decode cX12_begins 154 = .ok (.getfield 334, 3) := by decide +kernel
theorem dX12_begins_157 : decode cX12_begins 157 = .ok (.aload_n 0, 1) := by decide +kernel
theorem dX12_begins_158 : decode cX12_begins 158 = .ok (.getfield 260, 3) := by decide +kernel
theorem dX12_begins_161 : decode cX12_begins 161 = .ok (.iastore, 1) := by decide +kernel
theorem dX12_begins_162 : decode cX12_begins 162 = .ok (.aload_n 0, 1) := by decide +kernel
theorem dX12_begins_163 : decode cX12_begins 163 = .ok (.getfield 89, 3) := by decide +kernel
theorem dX12_begins_166 : decode cX12_begins 166 = .ok (.aload_n 0, 1) := by decide +kernel
theorem dX12_begins_167 : decode cX12_begins 167 = .ok (.getfield 334, 3) := by decide +kernel
theorem dX12_begins_170 : decode cX12_begins 170 = .ok (.aload_n 0, 1) := by decide +kernel
theorem dX12_begins_171 : decode cX12_begins 171 = .ok (.getfield 257, 3) := by decide +kernel
theorem dX12_begins_174 : decode cX12_begins 174 = .ok (.iastore, 1) := by decide +kernel
theorem dX12_begins_175 : decode cX12_begins 175 = .ok (.aload_n 0, 1) := by decide +kernel
theorem dX12_begins_176 : decode cX12_begins 176 = .ok (.getfield 83, 3) := by decide +kernel
theorem dX12_begins_179 : decode cX12_begins 179 = .ok (.aload_n 0, 1) := by decide +kernel
theorem dX12_begins_180 : decode cX12_begins 180 = .ok (.getfield 334, 3) := by decide +kernel
theorem dX12_begins_183 : decode cX12_begins 183 = .ok (.iconst 0, 1) := by decide +kernel
theorem dX12_begins_184 : decode cX12_begins 184 = .ok (.iastore, 1) := by decide +kernel
theorem dX12_begins_185 : decode cX12_begins 185 = .ok (.iconst 5, 1) := by decide +kernel
theorem dX12_begins_186 : decode cX12_begins 186 = .ok (.ireturn, 1) := by decide +kernel
theorem dX12_takesCase_0 : decode cX12_takesCase 0 = .ok (.aload_n 0, 1) := by decide +kernel
theorem dX12_takesCase_1 : decode cX12_takesCase 1 = .ok (.iconst 4, 1) := by decide +kernel
theorem dX12_takesCase_2 : decode cX12_takesCase 2 = .ok (.iload_n 1, 1) := by decide +kernel
theorem dX12_takesCase_3 : decode cX12_takesCase 3 = .ok (.invokevirtual 346, 3) := by decide +kernel
theorem dX12_takesCase_6 : decode cX12_takesCase 6 = .ok (.istore_n 2, 1) := by decide +kernel
theorem dX12_takesCase_7 : decode cX12_takesCase 7 = .ok (.bipush 24, 2) := by decide +kernel
theorem dX12_takesCase_9 : decode cX12_takesCase 9 = .ok (.iload_n 1, 1) := by decide +kernel
theorem dX12_takesCase_10 : decode cX12_takesCase 10 = .ok (.iadd, 1) := by decide +kernel
theorem dX12_takesCase_11 : decode cX12_takesCase 11 = .ok (.istore_n 3, 1) := by decide +kernel
theorem dX12_takesCase_12 : decode cX12_takesCase 12 = .ok (.bipush 120, 2) := by decide +kernel
theorem dX12_takesCase_14 : decode cX12_takesCase 14 = .ok (.aload_n 0, 1) := by decide +kernel
theorem dX12_takesCase_15 : decode cX12_takesCase 15 = .ok (.getfield 86, 3) := by decide +kernel
theorem dX12_takesCase_18 : decode cX12_takesCase 18 = .ok (.aload_n 0, 1) := by decide +kernel
theorem dX12_takesCase_19 : decode cX12_takesCase 19 = .ok (.getfield 334, 3) := by decide +kernel
theorem dX12_takesCase_22 : decode cX12_takesCase 22 = .ok (.iaload, 1) := by decide +kernel
theorem dX12_takesCase_23 : decode cX12_takesCase 23 = .ok (.iadd, 1) := by decide +kernel
theorem dX12_takesCase_24 : decode cX12_takesCase 24 = .ok (.istore 4, 2) := by decide +kernel
theorem dX12_takesCase_26 : decode cX12_takesCase 26 = .ok (.aload_n 0, 1) := by decide +kernel
theorem dX12_takesCase_27 : decode cX12_takesCase 27 = .ok (.getfield 83, 3) := by decide +kernel
theorem dX12_takesCase_30 : decode cX12_takesCase 30 = .ok (.aload_n 0, 1) := by decide +kernel
theorem dX12_takesCase_31 : decode cX12_takesCase 31 = .ok (.getfield 334, 3) := by decide +kernel
theorem dX12_takesCase_34 : decode cX12_takesCase 34 = .ok (.iaload, 1) := by decide +kernel
theorem dX12_takesCase_35 : decode cX12_takesCase 35 = .ok (.aload_n 0, 1) := by decide +kernel
theorem dX12_takesCase_36 : decode cX12_takesCase 36 = .ok (.getfield 89, 3) := by decide +kernel
theorem dX12_takesCase_39 : decode cX12_takesCase 39 = .ok (.aload_n 0, 1) := by decide +kernel
theorem dX12_takesCase_40 : decode cX12_takesCase 40 = .ok (.getfield 334, 3) := by decide +kernel
theorem dX12_takesCase_43 : decode cX12_takesCase 43 = .ok (.iaload, 1) := by decide +kernel
theorem dX12_takesCase_44 : decode cX12_takesCase 44 = .ok (.if_icmp .ne 7, 3) := by decide +kernel
theorem dX12_takesCase_47 : decode cX12_takesCase 47 = .ok (.iconst 1, 1) := by decide +kernel
theorem dX12_takesCase_48 : decode cX12_takesCase 48 = .ok (.goto 4, 3) := by decide +kernel
theorem dX12_takesCase_51 : decode cX12_takesCase 51 = .ok (.iconst 0, 1) := by decide +kernel
theorem dX12_takesCase_52 : decode cX12_takesCase 52 = .ok (.istore 5, 2) := by decide +kernel
theorem dX12_takesCase_54 : decode cX12_takesCase 54 = .ok (.aload_n 0, 1) := by decide +kernel
theorem dX12_takesCase_55 : decode cX12_takesCase 55 = .ok (.getfield 13, 3) := by decide +kernel
theorem dX12_takesCase_58 : decode cX12_takesCase 58 = .ok (.iload_n 3, 1) := by decide +kernel
theorem dX12_takesCase_59 : decode cX12_takesCase 59 = .ok (.iconst 0, 1) := by decide +kernel
theorem dX12_takesCase_60 : decode cX12_takesCase 60 = .ok (.iastore, 1) := by decide +kernel
theorem dX12_takesCase_61 : decode cX12_takesCase 61 = .ok (.iconst 0, 1) := by decide +kernel
theorem dX12_takesCase_62 : decode cX12_takesCase 62 = .ok (.istore 6, 2) := by decide +kernel
theorem dX12_takesCase_64 : decode cX12_takesCase 64 = .ok (.iload 6, 2) := by decide +kernel
theorem dX12_takesCase_66 : decode cX12_takesCase 66 = .ok (.aload_n 0, 1) := by decide +kernel
theorem dX12_takesCase_67 : decode cX12_takesCase 67 = .ok (.getfield 13, 3) := by decide +kernel
theorem dX12_takesCase_70 : decode cX12_takesCase 70 = .ok (.iload_n 2, 1) := by decide +kernel
theorem dX12_takesCase_71 : decode cX12_takesCase 71 = .ok (.iaload, 1) := by decide +kernel
theorem dX12_takesCase_72 : decode cX12_takesCase 72 = .ok (.if_icmp .ge 90, 3) := by decide +kernel
theorem dX12_takesCase_75 : decode cX12_takesCase 75 = .ok (.aload_n 0, 1) := by decide +kernel
theorem dX12_takesCase_76 : decode cX12_takesCase 76 = .ok (.iload_n 2, 1) := by decide +kernel
theorem dX12_takesCase_77 : decode cX12_takesCase 77 = .ok (.iload 6, 2) := by decide +kernel
theorem dX12_takesCase_79 : decode cX12_takesCase 79 = .ok (.invokevirtual 92, 3) := by decide +kernel
theorem dX12_takesCase_82 : decode cX12_takesCase 82 = .ok (.iload 4, 2) := by decide +kernel
theorem dX12_takesCase_84 : decode cX12_takesCase 84 = .ok (.if_icmp .ne 7, 3) := by decide +kernel
theorem dX12_takesCase_87 : decode cX12_takesCase 87 = .ok (.iconst 1, 1) := by decide +kernel
theorem dX12_takesCase_88 : decode cX12_takesCase 88 = .ok (.goto 4, 3) := by decide +kernel
theorem dX12_takesCase_91 : decode cX12_takesCase 91 = .ok (.iconst 0, 1) := by decide +kernel
theorem dX12_takesCase_92 : decode cX12_takesCase 92 = .ok (.istore 7, 2) := by decide +kernel
theorem dX12_takesCase_94 : decode cX12_takesCase 94 = .ok (.iconst 0, 1) := by decide +kernel
theorem dX12_takesCase_95 : decode cX12_takesCase 95 = .ok (.istore 8, 2) := by decide +kernel
theorem dX12_takesCase_97 : decode cX12_takesCase 97 = .ok (.iload 8, 2) := by decide +kernel
theorem dX12_takesCase_99 : decode cX12_takesCase 99 = .ok (.aload_n 0, 1) := by decide +kernel
theorem dX12_takesCase_100 : decode cX12_takesCase 100 = .ok (.getfield 83, 3) := by decide +kernel
theorem dX12_takesCase_103 : decode cX12_takesCase 103 = .ok (.aload_n 0, 1) := by decide +kernel
theorem dX12_takesCase_104 : decode cX12_takesCase 104 = .ok (.getfield 334, 3) := by decide +kernel
theorem dX12_takesCase_107 : decode cX12_takesCase 107 = .ok (.iaload, 1) := by decide +kernel
theorem dX12_takesCase_108 : decode cX12_takesCase 108 = .ok (.if_icmp .ge 21, 3) := by decide +kernel
theorem dX12_takesCase_111 : decode cX12_takesCase 111 = .ok (.iload 7, 2) := by decide +kernel
theorem dX12_takesCase_113 : decode cX12_takesCase 113 = .ok (.ifCond .eq 16, 3) := by decide +kernel
theorem dX12_takesCase_116 : decode cX12_takesCase 116 = .ok (.aload_n 0, 1) := by decide +kernel
theorem dX12_takesCase_117 : decode cX12_takesCase 117 = .ok (.iload_n 3, 1) := by decide +kernel
theorem dX12_takesCase_118 : decode cX12_takesCase 118 = .ok (.bipush 83, 2) := by decide +kernel
theorem dX12_takesCase_120 : decode cX12_takesCase 120 = .ok (.invokevirtual 150, 3) := by decide +kernel
theorem dX12_takesCase_123 : decode cX12_takesCase 123 = .ok (.iinc 8 1, 3) := by decide +kernel
theorem dX12_takesCase_126 : decode cX12_takesCase 126 = .ok (.goto (-29), 3) := by decide +kernel
theorem dX12_takesCase_129 : decode cX12_takesCase 129 = .ok (.aload_n 0, 1) := by decide +kernel
theorem dX12_takesCase_130 : decode cX12_takesCase 130 = .ok (.iload_n 3, 1) := by decide +kernel
theorem dX12_takesCase_131 : decode cX12_takesCase 131 = .ok (.iload 7, 2) := by decide +kernel
theorem dX12_takesCase_133 : decode cX12_takesCase 133 = .ok (.ifCond .eq 13, 3) := by decide +kernel
theorem dX12_takesCase_136 : decode cX12_takesCase 136 = .ok (.iload 5, 2) := by decide +kernel
theorem dX12_takesCase_138 : decode cX12_takesCase 138 = .ok (.ifCond .ne 8, 3) := by decide +kernel
theorem dX12_takesCase_141 : decode cX12_takesCase 141 = .ok (.bipush 90, 2) := by decide +kernel
theorem dX12_takesCase_143 : decode cX12_takesCase 143 = .ok (.goto 10, 3) := by decide +kernel
theorem dX12_takesCase_146 : decode cX12_takesCase 146 = .ok (.aload_n 0, 1) := by decide +kernel
theorem dX12_takesCase_147 : decode cX12_takesCase 147 = .ok (.iload_n 2, 1) := by decide +kernel
theorem dX12_takesCase_148 : decode cX12_takesCase 148 = .ok (.iload 6, 2) := by decide +kernel
theorem dX12_takesCase_150 : decode cX12_takesCase 150 = .ok (.invokevirtual 92, 3) := by decide +kernel
theorem dX12_takesCase_153 : decode cX12_takesCase 153 = .ok (.invokevirtual 150, 3) := by decide +kernel
theorem dX12_takesCase_156 : decode cX12_takesCase 156 = .ok (.iinc 6 1, 3) := by decide +kernel
theorem dX12_takesCase_159 : decode cX12_takesCase 159 = .ok (.goto (-95), 3) := by decide +kernel
theorem dX12_takesCase_162 : decode cX12_takesCase 162 = .ok (.return_, 1) := by decide +kernel
theorem dX12_normalGoal_0 : decode cX12_normalGoal 0 = .ok (.aload_n 0, 1) := by decide +kernel
theorem dX12_normalGoal_1 : decode cX12_normalGoal 1 = .ok (.aload_n 0, 1) := by decide +kernel
theorem dX12_normalGoal_2 : decode cX12_normalGoal 2 = .ok (.bipush 6, 2) := by decide +kernel
theorem dX12_normalGoal_4 : decode cX12_normalGoal 4 = .ok (.iconst 0, 1) := by decide +kernel
theorem dX12_normalGoal_5 : decode cX12_normalGoal 5 = .ok (.invokevirtual 346, 3) := by decide +kernel
theorem dX12_normalGoal_8 : decode cX12_normalGoal 8 = .ok (.bipush 24, 2) := by decide +kernel
theorem dX12_normalGoal_10 : decode cX12_normalGoal 10 = .ok (.invokevirtual 161, 3) := by decide +kernel
theorem dX12_normalGoal_13 : decode cX12_normalGoal 13 = .ok (.aload_n 0, 1) := by decide +kernel
theorem dX12_normalGoal_14 : decode cX12_normalGoal 14 = .ok (.aload_n 0, 1) := by decide +kernel
theorem dX12_normalGoal_15 : decode cX12_normalGoal 15 = .ok (.bipush 6, 2) := by decide +kernel
theorem dX12_normalGoal_17 : decode cX12_normalGoal 17 = .ok (.iconst 1, 1) := by decide +kernel
theorem dX12_normalGoal_18 : decode cX12_normalGoal 18 = .ok (.invokevirtual 346, 3) := by decide +kernel
theorem dX12_normalGoal_21 : decode cX12_normalGoal 21 = .ok (.bipush 25, 2) := by decide +kernel
theorem dX12_normalGoal_23 : decode cX12_normalGoal 23 = .ok (.invokevirtual 161, 3) := by decide +kernel
theorem dX12_normalGoal_26 : decode cX12_normalGoal 26 = .ok (.aload_n 0, 1) := by decide +kernel
theorem dX12_normalGoal_27 : decode cX12_normalGoal 27 = .ok (.bipush 24, 2) := by decide +kernel
theorem dX12_normalGoal_29 : decode cX12_normalGoal 29 = .ok (.aload_n 0, 1) := by decide +kernel
theorem dX12_normalGoal_30 : decode cX12_normalGoal 30 = .ok (.bipush 6, 2) := by decide +kernel
theorem dX12_normalGoal_32 : decode cX12_normalGoal 32 = .ok (.iconst 0, 1) := by decide +kernel
theorem dX12_normalGoal_33 : decode cX12_normalGoal 33 = .ok (.invokevirtual 346, 3) := by decide +kernel
theorem dX12_normalGoal_36 : decode cX12_normalGoal 36 = .ok (.invokevirtual 248, 3) := by decide +kernel
theorem dX12_normalGoal_39 : decode cX12_normalGoal 39 = .ok (.ifCond .eq 23, 3) := by decide +kernel
theorem dX12_normalGoal_42 : decode cX12_normalGoal 42 = .ok (.aload_n 0, 1) := by decide +kernel
theorem dX12_normalGoal_43 : decode cX12_normalGoal 43 = .ok (.bipush 25, 2) := by decide +kernel
theorem dX12_normalGoal_45 : decode cX12_normalGoal 45 = .ok (.aload_n 0, 1) := by decide +kernel
theorem dX12_normalGoal_46 : decode cX12_normalGoal 46 = .ok (.bipush 6, 2) := by decide +kernel
theorem dX12_normalGoal_48 : decode cX12_normalGoal 48 = .ok (.iconst 1, 1) := by decide +kernel
theorem dX12_normalGoal_49 : decode cX12_normalGoal 49 = .ok (.invokevirtual 346, 3) := by decide +kernel
theorem dX12_normalGoal_52 : decode cX12_normalGoal 52 = .ok (.invokevirtual 248, 3) := by decide +kernel
theorem dX12_normalGoal_55 : decode cX12_normalGoal 55 = .ok (.ifCond .eq 7, 3) := by decide +kernel
theorem dX12_normalGoal_58 : decode cX12_normalGoal 58 = .ok (.iconst 1, 1) := by decide +kernel
theorem dX12_normalGoal_59 : decode cX12_normalGoal 59 = .ok (.goto 4, 3) := by decide +kernel
theorem dX12_normalGoal_62 : decode cX12_normalGoal 62 = .ok (.iconst 0, 1) := by decide +kernel
theorem dX12_normalGoal_63 : decode cX12_normalGoal 63 = .ok (.ireturn, 1) := by decide +kernel
theorem dX12_usesClaim_0 : decode cX12_usesClaim 0 = .ok (.aload_n 0, 1) := by decide +kernel
theorem dX12_usesClaim_1 : decode cX12_usesClaim 1 = .ok (.bipush 6, 2) := by decide +kernel
theorem dX12_usesClaim_3 : decode cX12_usesClaim 3 = .ok (.iload_n 1, 1) := by decide +kernel
theorem dX12_usesClaim_4 : decode cX12_usesClaim 4 = .ok (.invokevirtual 346, 3) := by decide +kernel
theorem dX12_usesClaim_7 : decode cX12_usesClaim 7 = .ok (.istore_n 2, 1) := by decide +kernel
theorem dX12_usesClaim_8 : decode cX12_usesClaim 8 = .ok (.iconst 0, 1) := by decide +kernel
theorem dX12_usesClaim_9 : decode cX12_usesClaim 9 = .ok (.istore_n 3, 1) := by decide +kernel
theorem dX12_usesClaim_10 : decode cX12_usesClaim 10 = .ok (.iload_n 3, 1) := by decide +kernel
theorem dX12_usesClaim_11 : decode cX12_usesClaim 11 = .ok (.aload_n 0, 1) := by decide +kernel
theorem dX12_usesClaim_12 : decode cX12_usesClaim 12 = .ok (.getfield 13, 3) := by decide +kernel
theorem dX12_usesClaim_15 : decode cX12_usesClaim 15 = .ok (.iload_n 2, 1) := by decide +kernel
theorem dX12_usesClaim_16 : decode cX12_usesClaim 16 = .ok (.iaload, 1) := by decide +kernel
theorem dX12_usesClaim_17 : decode cX12_usesClaim 17 = .ok (.if_icmp .ge 67, 3) := by decide +kernel
theorem dX12_usesClaim_20 : decode cX12_usesClaim 20 = .ok (.aload_n 0, 1) := by decide +kernel
theorem dX12_usesClaim_21 : decode cX12_usesClaim 21 = .ok (.aload_n 0, 1) := by decide +kernel
theorem dX12_usesClaim_22 : decode cX12_usesClaim 22 = .ok (.iconst 4, 1) := by decide +kernel
theorem dX12_usesClaim_23 : decode cX12_usesClaim 23 = .ok (.iload_n 1, 1) := by decide +kernel
theorem dX12_usesClaim_24 : decode cX12_usesClaim 24 = .ok (.invokevirtual 346, 3) := by decide +kernel
theorem dX12_usesClaim_27 : decode cX12_usesClaim 27 = .ok (.iload_n 2, 1) := by decide +kernel
theorem dX12_usesClaim_28 : decode cX12_usesClaim 28 = .ok (.iload_n 3, 1) := by decide +kernel
theorem dX12_usesClaim_29 : decode cX12_usesClaim 29 = .ok (.aload_n 0, 1) := by decide +kernel
theorem dX12_usesClaim_30 : decode cX12_usesClaim 30 = .ok (.getfield 86, 3) := by decide +kernel
theorem dX12_usesClaim_33 : decode cX12_usesClaim 33 = .ok (.aload_n 0, 1) := by decide +kernel
theorem dX12_usesClaim_34 : decode cX12_usesClaim 34 = .ok (.getfield 334, 3) := by decide +kernel
theorem dX12_usesClaim_37 : decode cX12_usesClaim 37 = .ok (.iaload, 1) := by decide +kernel
theorem dX12_usesClaim_38 : decode cX12_usesClaim 38 = .ok (.invokevirtual 295, 3) := by decide +kernel
theorem dX12_usesClaim_41 : decode cX12_usesClaim 41 = .ok (.ifCond .eq 37, 3) := by decide +kernel
theorem dX12_usesClaim_44 : decode cX12_usesClaim 44 = .ok (.aload_n 0, 1) := by decide +kernel
theorem dX12_usesClaim_45 : decode cX12_usesClaim 45 = .ok (.iload_n 2, 1) := by decide +kernel
theorem dX12_usesClaim_46 : decode cX12_usesClaim 46 = .ok (.iload_n 3, 1) := by decide +kernel
theorem dX12_usesClaim_47 : decode cX12_usesClaim 47 = .ok (.aload_n 0, 1) := by decide +kernel
theorem dX12_usesClaim_48 : decode cX12_usesClaim 48 = .ok (.iconst 4, 1) := by decide +kernel
theorem dX12_usesClaim_49 : decode cX12_usesClaim 49 = .ok (.iconst 1, 1) := by decide +kernel
theorem dX12_usesClaim_50 : decode cX12_usesClaim 50 = .ok (.iload_n 1, 1) := by decide +kernel
theorem dX12_usesClaim_51 : decode cX12_usesClaim 51 = .ok (.isub, 1) := by decide +kernel
theorem dX12_usesClaim_52 : decode cX12_usesClaim 52 = .ok (.invokevirtual 346, 3) := by decide +kernel
theorem dX12_usesClaim_55 : decode cX12_usesClaim 55 = .ok (.invokevirtual 299, 3) := by decide +kernel
theorem dX12_usesClaim_58 : decode cX12_usesClaim 58 = .ok (.ifCond .ne 5, 3) := by decide +kernel
theorem dX12_usesClaim_61 : decode cX12_usesClaim 61 = .ok (.iconst 3, 1) := by decide +kernel
theorem dX12_usesClaim_62 : decode cX12_usesClaim 62 = .ok (.ireturn, 1) := by decide +kernel
theorem dX12_usesClaim_63 : decode cX12_usesClaim 63 = .ok (.aload_n 0, 1) := by decide +kernel
theorem dX12_usesClaim_64 : decode cX12_usesClaim 64 = .ok (.bipush 20, 2) := by decide +kernel
theorem dX12_usesClaim_66 : decode cX12_usesClaim 66 = .ok (.iload_n 2, 1) := by decide +kernel
theorem dX12_usesClaim_67 : decode cX12_usesClaim 67 = .ok (.invokevirtual 161, 3) := by decide +kernel
theorem dX12_usesClaim_70 : decode cX12_usesClaim 70 = .ok (.aload_n 0, 1) := by decide +kernel
theorem dX12_usesClaim_71 : decode cX12_usesClaim 71 = .ok (.iconst 5, 1) := by decide +kernel
theorem dX12_usesClaim_72 : decode cX12_usesClaim 72 = .ok (.iload_n 1, 1) := by decide +kernel
theorem dX12_usesClaim_73 : decode cX12_usesClaim 73 = .ok (.invokevirtual 308, 3) := by decide +kernel
theorem dX12_usesClaim_76 : decode cX12_usesClaim 76 = .ok (.iconst 1, 1) := by decide +kernel
theorem dX12_usesClaim_77 : decode cX12_usesClaim 77 = .ok (.ireturn, 1) := by decide +kernel
theorem dX12_usesClaim_78 : decode cX12_usesClaim 78 = .ok (.iinc 3 1, 3) := by decide +kernel
theorem dX12_usesClaim_81 : decode cX12_usesClaim 81 = .ok (.goto (-71), 3) := by decide +kernel
theorem dX12_usesClaim_84 : decode cX12_usesClaim 84 = .ok (.iconst 0, 1) := by decide +kernel
theorem dX12_usesClaim_85 : decode cX12_usesClaim 85 = .ok (.ireturn, 1) := by decide +kernel
theorem dX12_carries_0 : decode cX12_carries 0 = .ok (.iconst 0, 1) := by decide +kernel
theorem dX12_carries_1 : decode cX12_carries 1 = .ok (.istore_n 1, 1) := by decide +kernel
theorem dX12_carries_2 : decode cX12_carries 2 = .ok (.iload_n 1, 1) := by decide +kernel
theorem dX12_carries_3 : decode cX12_carries 3 = .ok (.iconst 2, 1) := by decide +kernel
theorem dX12_carries_4 : decode cX12_carries 4 = .ok (.if_icmp .ge 27, 3) := by decide +kernel
theorem dX12_carries_7 : decode cX12_carries 7 = .ok (.aload_n 0, 1) := by decide +kernel
theorem dX12_carries_8 : decode cX12_carries 8 = .ok (.aload_n 0, 1) := by decide +kernel
theorem dX12_carries_9 : decode cX12_carries 9 = .ok (.bipush 6, 2) := by decide +kernel
theorem dX12_carries_11 : decode cX12_carries 11 = .ok (.iload_n 1, 1) := by decide +kernel
theorem dX12_carries_12 : decode cX12_carries 12 = .ok (.invokevirtual 346, 3) := by decide +kernel
theorem dX12_carries_15 : decode cX12_carries 15 = .ok (.aload_n 0, 1) := by decide +kernel
theorem dX12_carries_16 : decode cX12_carries 16 = .ok (.iconst 4, 1) := by decide +kernel
theorem dX12_carries_17 : decode cX12_carries 17 = .ok (.iload_n 1, 1) := by decide +kernel
theorem dX12_carries_18 : decode cX12_carries 18 = .ok (.invokevirtual 346, 3) := by decide +kernel
theorem dX12_carries_21 : decode cX12_carries 21 = .ok (.iload_n 1, 1) := by decide +kernel
theorem dX12_carries_22 : decode cX12_carries 22 = .ok (.invokevirtual 311, 3) := by decide +kernel
theorem dX12_carries_25 : decode cX12_carries 25 = .ok (.iinc 1 1, 3) := by decide +kernel
theorem dX12_carries_28 : decode cX12_carries 28 = .ok (.goto (-26), 3) := by decide +kernel
theorem dX12_carries_31 : decode cX12_carries 31 = .ok (.aload_n 0, 1) := by decide +kernel
theorem dX12_carries_32 : decode cX12_carries 32 = .ok (.iconst 0, 1) := by decide +kernel
theorem dX12_carries_33 : decode cX12_carries 33 = .ok (.invokevirtual 362, 3) := by decide +kernel
theorem dX12_carries_36 : decode cX12_carries 36 = .ok (.istore_n 1, 1) := by decide +kernel
theorem dX12_carries_37 : decode cX12_carries 37 = .ok (.iload_n 1, 1) := by decide +kernel
theorem dX12_carries_38 : decode cX12_carries 38 = .ok (.ifCond .ne 11, 3) := by decide +kernel
theorem dX12_carries_41 : decode cX12_carries 41 = .ok (.aload_n 0, 1) := by decide +kernel
theorem dX12_carries_42 : decode cX12_carries 42 = .ok (.iconst 1, 1) := by decide +kernel
theorem dX12_carries_43 : decode cX12_carries 43 = .ok (.invokevirtual 362, 3) := by decide +kernel
theorem dX12_carries_46 : decode cX12_carries 46 = .ok (.goto 4, 3) := by decide +kernel
theorem dX12_carries_49 : decode cX12_carries 49 = .ok (.iload_n 1, 1) := by decide +kernel
theorem dX12_carries_50 : decode cX12_carries 50 = .ok (.istore_n 1, 1) := by decide +kernel
theorem dX12_carries_51 : decode cX12_carries 51 = .ok (.iload_n 1, 1) := by decide +kernel
theorem dX12_carries_52 : decode cX12_carries 52 = .ok (.iconst 3, 1) := by decide +kernel
theorem dX12_carries_53 : decode cX12_carries 53 = .ok (.if_icmp .eq 14, 3) := by decide +kernel
theorem dX12_carries_56 : decode cX12_carries 56 = .ok (.aload_n 0, 1) := by decide +kernel
theorem dX12_carries_57 : decode cX12_carries 57 = .ok (.invokevirtual 365, 3) := by decide +kernel
theorem dX12_carries_60 : decode cX12_carries 60 = .ok (.ifCond .eq 7, 3) := by decide +kernel
theorem dX12_carries_63 : decode cX12_carries 63 = .ok (.iconst 1, 1) := by decide +kernel
theorem dX12_carries_64 : decode cX12_carries 64 = .ok (.goto 4, 3) := by decide +kernel
theorem dX12_carries_67 : decode cX12_carries 67 = .ok (.iconst 0, 1) := by decide +kernel
theorem dX12_carries_68 : decode cX12_carries 68 = .ok (.ireturn, 1) := by decide +kernel
theorem dX12_guesses_0 : decode cX12_guesses 0 = .ok (.aload_n 0, 1) := by decide +kernel
theorem dX12_guesses_1 : decode cX12_guesses 1 = .ok (.bipush 6, 2) := by decide +kernel
theorem dX12_guesses_3 : decode cX12_guesses 3 = .ok (.iconst 0, 1) := by decide +kernel
theorem dX12_guesses_4 : decode cX12_guesses 4 = .ok (.invokevirtual 346, 3) := by decide +kernel
theorem dX12_guesses_7 : decode cX12_guesses 7 = .ok (.istore_n 1, 1) := by decide +kernel
theorem dX12_guesses_8 : decode cX12_guesses 8 = .ok (.aload_n 0, 1) := by decide +kernel
theorem dX12_guesses_9 : decode cX12_guesses 9 = .ok (.bipush 6, 2) := by decide +kernel
theorem dX12_guesses_11 : decode cX12_guesses 11 = .ok (.iconst 1, 1) := by decide +kernel
theorem dX12_guesses_12 : decode cX12_guesses 12 = .ok (.invokevirtual 346, 3) := by decide +kernel
theorem dX12_guesses_15 : decode cX12_guesses 15 = .ok (.istore_n 2, 1) := by decide +kernel
theorem dX12_guesses_16 : decode cX12_guesses 16 = .ok (.aload_n 0, 1) := by decide +kernel
theorem dX12_guesses_17 : decode cX12_guesses 17 = .ok (.iload_n 1, 1) := by decide +kernel
theorem dX12_guesses_18 : decode cX12_guesses 18 = .ok (.iload_n 2, 1) := by decide +kernel
theorem dX12_guesses_19 : decode cX12_guesses 19 = .ok (.invokevirtual 331, 3) := by decide +kernel
theorem dX12_guesses_22 : decode cX12_guesses 22 = .ok (.istore_n 3, 1) := by decide +kernel
theorem dX12_guesses_23 : decode cX12_guesses 23 = .ok (.iload_n 3, 1) := by decide +kernel
theorem dX12_guesses_24 : decode cX12_guesses 24 = .ok (.bipush (-9), 2) := by decide +kernel
theorem dX12_guesses_26 : decode cX12_guesses 26 = .ok (.if_icmp .eq 20, 3) := by decide +kernel
theorem dX12_guesses_29 : decode cX12_guesses 29 = .ok (.aload_n 0, 1) := by decide +kernel
theorem dX12_guesses_30 : decode cX12_guesses 30 = .ok (.bipush 22, 2) := by decide +kernel
theorem dX12_guesses_32 : decode cX12_guesses 32 = .ok (.bipush 23, 2) := by decide +kernel
theorem dX12_guesses_34 : decode cX12_guesses 34 = .ok (.invokevirtual 218, 3) := by decide +kernel
theorem dX12_guesses_37 : decode cX12_guesses 37 = .ok (.bipush (-9), 2) := by decide +kernel
theorem dX12_guesses_39 : decode cX12_guesses 39 = .ok (.if_icmp .ne 7, 3) := by decide +kernel
theorem dX12_guesses_42 : decode cX12_guesses 42 = .ok (.iload_n 3, 1) := by decide +kernel
theorem dX12_guesses_43 : decode cX12_guesses 43 = .ok (.goto 5, 3) := by decide +kernel
theorem dX12_guesses_46 : decode cX12_guesses 46 = .ok (.bipush (-9), 2) := by decide +kernel
theorem dX12_guesses_48 : decode cX12_guesses 48 = .ok (.istore_n 3, 1) := by decide +kernel
theorem dX12_guesses_49 : decode cX12_guesses 49 = .ok (.aload_n 0, 1) := by decide +kernel
theorem dX12_guesses_50 : decode cX12_guesses 50 = .ok (.bipush 6, 2) := by decide +kernel
theorem dX12_guesses_52 : decode cX12_guesses 52 = .ok (.iload_n 3, 1) := by decide +kernel
theorem dX12_guesses_53 : decode cX12_guesses 53 = .ok (.invokevirtual 308, 3) := by decide +kernel
theorem dX12_guesses_56 : decode cX12_guesses 56 = .ok (.aload_n 0, 1) := by decide +kernel
theorem dX12_guesses_57 : decode cX12_guesses 57 = .ok (.dup, 1) := by decide +kernel
theorem dX12_guesses_58 : decode cX12_guesses 58 = .ok (.getfield 334, 3) := by decide +kernel
theorem dX12_guesses_61 : decode cX12_guesses 61 = .ok (.iconst 1, 1) := by decide +kernel
theorem dX12_guesses_62 : decode cX12_guesses 62 = .ok (.iadd, 1) := by decide +kernel
theorem dX12_guesses_63 : decode cX12_guesses 63 = .ok (.putfield 334, 3) := by decide +kernel
theorem dX12_guesses_66 : decode cX12_guesses 66 = .ok (.aload_n 0, 1) := by decide +kernel
theorem dX12_guesses_67 : decode cX12_guesses 67 = .ok (.iload_n 3, 1) := by decide +kernel
theorem dX12_guesses_68 : decode cX12_guesses 68 = .ok (.bipush (-9), 2) := by decide +kernel
theorem dX12_guesses_70 : decode cX12_guesses 70 = .ok (.if_icmp .ne 7, 3) := by decide +kernel
theorem dX12_guesses_73 : decode cX12_guesses 73 = .ok (.iload_n 1, 1) := by decide +kernel
theorem dX12_guesses_74 : decode cX12_guesses 74 = .ok (.goto 5, 3) := by decide +kernel
theorem dX12_guesses_77 : decode cX12_guesses 77 = .ok (.bipush 22, 2) := by decide +kernel
theorem dX12_guesses_79 : decode cX12_guesses 79 = .ok (.aload_n 0, 1) := by decide +kernel
theorem dX12_guesses_80 : decode cX12_guesses 80 = .ok (.iconst 2, 1) := by decide +kernel
theorem dX12_guesses_81 : decode cX12_guesses 81 = .ok (.iconst 0, 1) := by decide +kernel
theorem dX12_guesses_82 : decode cX12_guesses 82 = .ok (.invokevirtual 346, 3) := by decide +kernel
theorem dX12_guesses_85 : decode cX12_guesses 85 = .ok (.invokevirtual 161, 3) := by decide +kernel
theorem dX12_guesses_88 : decode cX12_guesses 88 = .ok (.aload_n 0, 1) := by decide +kernel
theorem dX12_guesses_89 : decode cX12_guesses 89 = .ok (.iload_n 3, 1) := by decide +kernel
theorem dX12_guesses_90 : decode cX12_guesses 90 = .ok (.bipush (-9), 2) := by decide +kernel
theorem dX12_guesses_92 : decode cX12_guesses 92 = .ok (.if_icmp .ne 7, 3) := by decide +kernel
theorem dX12_guesses_95 : decode cX12_guesses 95 = .ok (.iload_n 2, 1) := by decide +kernel
theorem dX12_guesses_96 : decode cX12_guesses 96 = .ok (.goto 5, 3) := by decide +kernel
theorem dX12_guesses_99 : decode cX12_guesses 99 = .ok (.bipush 23, 2) := by decide +kernel
theorem dX12_guesses_101 : decode cX12_guesses 101 = .ok (.aload_n 0, 1) := by decide +kernel
theorem dX12_guesses_102 : decode cX12_guesses 102 = .ok (.iconst 2, 1) := by decide +kernel
theorem dX12_guesses_103 : decode cX12_guesses 103 = .ok (.iconst 1, 1) := by decide +kernel
theorem dX12_guesses_104 : decode cX12_guesses 104 = .ok (.invokevirtual 346, 3) := by decide +kernel
theorem dX12_guesses_107 : decode cX12_guesses 107 = .ok (.invokevirtual 161, 3) := by decide +kernel
theorem dX12_guesses_110 : decode cX12_guesses 110 = .ok (.bipush 6, 2) := by decide +kernel
theorem dX12_guesses_112 : decode cX12_guesses 112 = .ok (.ireturn, 1) := by decide +kernel
theorem dX12_nextCase_0 : decode cX12_nextCase 0 = .ok (.aload_n 0, 1) := by decide +kernel
theorem dX12_nextCase_1 : decode cX12_nextCase 1 = .ok (.getfield 83, 3) := by decide +kernel
theorem dX12_nextCase_4 : decode cX12_nextCase 4 = .ok (.aload_n 0, 1) := by decide +kernel
theorem dX12_nextCase_5 : decode cX12_nextCase 5 = .ok (.getfield 334, 3) := by decide +kernel
theorem dX12_nextCase_8 : decode cX12_nextCase 8 = .ok (.iaload, 1) := by decide +kernel
theorem dX12_nextCase_9 : decode cX12_nextCase 9 = .ok (.aload_n 0, 1) := by decide +kernel
theorem dX12_nextCase_10 : decode cX12_nextCase 10 = .ok (.getfield 89, 3) := by decide +kernel
theorem dX12_nextCase_13 : decode cX12_nextCase 13 = .ok (.aload_n 0, 1) := by decide +kernel
theorem dX12_nextCase_14 : decode cX12_nextCase 14 = .ok (.getfield 334, 3) := by decide +kernel
theorem dX12_nextCase_17 : decode cX12_nextCase 17 = .ok (.iaload, 1) := by decide +kernel
theorem dX12_nextCase_18 : decode cX12_nextCase 18 = .ok (.if_icmp .le 8, 3) := by decide +kernel
theorem dX12_nextCase_21 : decode cX12_nextCase 21 = .ok (.aload_n 0, 1) := by decide +kernel
theorem dX12_nextCase_22 : decode cX12_nextCase 22 = .ok (.invokevirtual 359, 3) := by decide +kernel
theorem dX12_nextCase_25 : decode cX12_nextCase 25 = .ok (.ireturn, 1) := by decide +kernel
theorem dX12_nextCase_26 : decode cX12_nextCase 26 = .ok (.aload_n 0, 1) := by decide +kernel
theorem dX12_nextCase_27 : decode cX12_nextCase 27 = .ok (.iconst 3, 1) := by decide +kernel
theorem dX12_nextCase_28 : decode cX12_nextCase 28 = .ok (.aload_n 0, 1) := by decide +kernel
theorem dX12_nextCase_29 : decode cX12_nextCase 29 = .ok (.getfield 83, 3) := by decide +kernel
theorem dX12_nextCase_32 : decode cX12_nextCase 32 = .ok (.aload_n 0, 1) := by decide +kernel
theorem dX12_nextCase_33 : decode cX12_nextCase 33 = .ok (.getfield 334, 3) := by decide +kernel
theorem dX12_nextCase_36 : decode cX12_nextCase 36 = .ok (.iaload, 1) := by decide +kernel
theorem dX12_nextCase_37 : decode cX12_nextCase 37 = .ok (.invokevirtual 308, 3) := by decide +kernel
theorem dX12_nextCase_40 : decode cX12_nextCase 40 = .ok (.aload_n 0, 1) := by decide +kernel
theorem dX12_nextCase_41 : decode cX12_nextCase 41 = .ok (.iconst 0, 1) := by decide +kernel
theorem dX12_nextCase_42 : decode cX12_nextCase 42 = .ok (.invokevirtual 368, 3) := by decide +kernel
theorem dX12_nextCase_45 : decode cX12_nextCase 45 = .ok (.aload_n 0, 1) := by decide +kernel
theorem dX12_nextCase_46 : decode cX12_nextCase 46 = .ok (.iconst 1, 1) := by decide +kernel
theorem dX12_nextCase_47 : decode cX12_nextCase 47 = .ok (.invokevirtual 368, 3) := by decide +kernel
theorem dX12_nextCase_50 : decode cX12_nextCase 50 = .ok (.aload_n 0, 1) := by decide +kernel
theorem dX12_nextCase_51 : decode cX12_nextCase 51 = .ok (.bipush 24, 2) := by decide +kernel
theorem dX12_nextCase_53 : decode cX12_nextCase 53 = .ok (.aload_n 0, 1) := by decide +kernel
theorem dX12_nextCase_54 : decode cX12_nextCase 54 = .ok (.bipush 6, 2) := by decide +kernel
theorem dX12_nextCase_56 : decode cX12_nextCase 56 = .ok (.iconst 0, 1) := by decide +kernel
theorem dX12_nextCase_57 : decode cX12_nextCase 57 = .ok (.invokevirtual 346, 3) := by decide +kernel
theorem dX12_nextCase_60 : decode cX12_nextCase 60 = .ok (.invokevirtual 161, 3) := by decide +kernel
theorem dX12_nextCase_63 : decode cX12_nextCase 63 = .ok (.aload_n 0, 1) := by decide +kernel
theorem dX12_nextCase_64 : decode cX12_nextCase 64 = .ok (.bipush 25, 2) := by decide +kernel
theorem dX12_nextCase_66 : decode cX12_nextCase 66 = .ok (.aload_n 0, 1) := by decide +kernel
theorem dX12_nextCase_67 : decode cX12_nextCase 67 = .ok (.bipush 6, 2) := by decide +kernel
theorem dX12_nextCase_69 : decode cX12_nextCase 69 = .ok (.iconst 1, 1) := by decide +kernel
theorem dX12_nextCase_70 : decode cX12_nextCase 70 = .ok (.invokevirtual 346, 3) := by decide +kernel
theorem dX12_nextCase_73 : decode cX12_nextCase 73 = .ok (.invokevirtual 161, 3) := by decide +kernel
theorem dX12_nextCase_76 : decode cX12_nextCase 76 = .ok (.aload_n 0, 1) := by decide +kernel
theorem dX12_nextCase_77 : decode cX12_nextCase 77 = .ok (.invokevirtual 365, 3) := by decide +kernel
theorem dX12_nextCase_80 : decode cX12_nextCase 80 = .ok (.ifCond .ne 5, 3) := by decide +kernel
theorem dX12_nextCase_83 : decode cX12_nextCase 83 = .ok (.iconst 3, 1) := by decide +kernel
theorem dX12_nextCase_84 : decode cX12_nextCase 84 = .ok (.ireturn, 1) := by decide +kernel
theorem dX12_nextCase_85 : decode cX12_nextCase 85 = .ok (.aload_n 0, 1) := by decide +kernel
theorem dX12_nextCase_86 : decode cX12_nextCase 86 = .ok (.aload_n 0, 1) := by decide +kernel
theorem dX12_nextCase_87 : decode cX12_nextCase 87 = .ok (.bipush 6, 2) := by decide +kernel
theorem dX12_nextCase_89 : decode cX12_nextCase 89 = .ok (.iconst 0, 1) := by decide +kernel
theorem dX12_nextCase_90 : decode cX12_nextCase 90 = .ok (.invokevirtual 346, 3) := by decide +kernel
theorem dX12_nextCase_93 : decode cX12_nextCase 93 = .ok (.aload_n 0, 1) := by decide +kernel
theorem dX12_nextCase_94 : decode cX12_nextCase 94 = .ok (.bipush 6, 2) := by decide +kernel
theorem dX12_nextCase_96 : decode cX12_nextCase 96 = .ok (.iconst 1, 1) := by decide +kernel
theorem dX12_nextCase_97 : decode cX12_nextCase 97 = .ok (.invokevirtual 346, 3) := by decide +kernel
theorem dX12_nextCase_100 : decode cX12_nextCase 100 = .ok (.invokevirtual 343, 3) := by decide +kernel
theorem dX12_nextCase_103 : decode cX12_nextCase 103 = .ok (.istore_n 1, 1) := by decide +kernel
theorem dX12_nextCase_104 : decode cX12_nextCase 104 = .ok (.iload_n 1, 1) := by decide +kernel
theorem dX12_nextCase_105 : decode cX12_nextCase 105 = .ok (.ifCond .ne 52, 3) := by decide +kernel
theorem dX12_nextCase_108 : decode cX12_nextCase 108 = .ok (.aload_n 0, 1) := by decide +kernel
theorem dX12_nextCase_109 : decode cX12_nextCase 109 = .ok (.getfield 83, 3) := by decide +kernel
theorem dX12_nextCase_112 : decode cX12_nextCase 112 = .ok (.aload_n 0, 1) := by decide +kernel
theorem dX12_nextCase_113 : decode cX12_nextCase 113 = .ok (.getfield 334, 3) := by decide +kernel
theorem dX12_nextCase_116 : decode cX12_nextCase 116 = .ok (.iaload, 1) := by decide +kernel
theorem dX12_nextCase_117 : decode cX12_nextCase 117 = .ok (.aload_n 0, 1) := by decide +kernel
theorem dX12_nextCase_118 : decode cX12_nextCase 118 = .ok (.getfield 89, 3) := by decide +kernel
theorem dX12_nextCase_121 : decode cX12_nextCase 121 = .ok (.aload_n 0, 1) := by decide +kernel
theorem dX12_nextCase_122 : decode cX12_nextCase 122 = .ok (.getfield 334, 3) := by decide +kernel
theorem dX12_nextCase_125 : decode cX12_nextCase 125 = .ok (.iaload, 1) := by decide +kernel
theorem dX12_nextCase_126 : decode cX12_nextCase 126 = .ok (.if_icmp .ne 31, 3) := by decide +kernel
theorem dX12_nextCase_129 : decode cX12_nextCase 129 = .ok (.aload_n 0, 1) := by decide +kernel
theorem dX12_nextCase_130 : decode cX12_nextCase 130 = .ok (.invokevirtual 371, 3) := by decide +kernel
theorem dX12_nextCase_133 : decode cX12_nextCase 133 = .ok (.ifCond .ne 5, 3) := by decide +kernel
theorem dX12_nextCase_136 : decode cX12_nextCase 136 = .ok (.iconst 3, 1) := by decide +kernel
theorem dX12_nextCase_137 : decode cX12_nextCase 137 = .ok (.ireturn, 1) := by decide +kernel
theorem dX12_nextCase_138 : decode cX12_nextCase 138 = .ok (.aload_n 0, 1) := by decide +kernel
theorem dX12_nextCase_139 : decode cX12_nextCase 139 = .ok (.aload_n 0, 1) := by decide +kernel
theorem dX12_nextCase_140 : decode cX12_nextCase 140 = .ok (.bipush 6, 2) := by decide +kernel
theorem dX12_nextCase_142 : decode cX12_nextCase 142 = .ok (.iconst 0, 1) := by decide +kernel
theorem dX12_nextCase_143 : decode cX12_nextCase 143 = .ok (.invokevirtual 346, 3) := by decide +kernel
theorem dX12_nextCase_146 : decode cX12_nextCase 146 = .ok (.aload_n 0, 1) := by decide +kernel
theorem dX12_nextCase_147 : decode cX12_nextCase 147 = .ok (.bipush 6, 2) := by decide +kernel
theorem dX12_nextCase_149 : decode cX12_nextCase 149 = .ok (.iconst 1, 1) := by decide +kernel
theorem dX12_nextCase_150 : decode cX12_nextCase 150 = .ok (.invokevirtual 346, 3) := by decide +kernel
theorem dX12_nextCase_153 : decode cX12_nextCase 153 = .ok (.invokevirtual 343, 3) := by decide +kernel
theorem dX12_nextCase_156 : decode cX12_nextCase 156 = .ok (.istore_n 1, 1) := by decide +kernel
theorem dX12_nextCase_157 : decode cX12_nextCase 157 = .ok (.iload_n 1, 1) := by decide +kernel
theorem dX12_nextCase_158 : decode cX12_nextCase 158 = .ok (.ifCond .eq 18, 3) := by decide +kernel
theorem dX12_nextCase_161 : decode cX12_nextCase 161 = .ok (.aload_n 0, 1) := by decide +kernel
theorem dX12_nextCase_162 : decode cX12_nextCase 162 = .ok (.getfield 83, 3) := by decide +kernel
theorem dX12_nextCase_165 : decode cX12_nextCase 165 = .ok (.aload_n 0, 1) := by decide +kernel
theorem dX12_nextCase_166 : decode cX12_nextCase 166 = .ok (.getfield 334, 3) := by decide +kernel
theorem dX12_nextCase_169 : decode cX12_nextCase 169 = .ok (.dup2, 1) := by decide +kernel
theorem dX12_nextCase_170 : decode cX12_nextCase 170 = .ok (.iaload, 1) := by decide +kernel
theorem dX12_nextCase_171 : decode cX12_nextCase 171 = .ok (.iconst 1, 1) := by decide +kernel
theorem dX12_nextCase_172 : decode cX12_nextCase 172 = .ok (.iadd, 1) := by decide +kernel
theorem dX12_nextCase_173 : decode cX12_nextCase 173 = .ok (.iastore, 1) := by decide +kernel
theorem dX12_nextCase_174 : decode cX12_nextCase 174 = .ok (.iconst 5, 1) := by decide +kernel
theorem dX12_nextCase_175 : decode cX12_nextCase 175 = .ok (.ireturn, 1) := by decide +kernel
theorem dX12_nextCase_176 : decode cX12_nextCase 176 = .ok (.aload_n 0, 1) := by decide +kernel
theorem dX12_nextCase_177 : decode cX12_nextCase 177 = .ok (.getfield 334, 3) := by decide +kernel
theorem dX12_nextCase_180 : decode cX12_nextCase 180 = .ok (.iconst 2, 1) := by decide +kernel
theorem dX12_nextCase_181 : decode cX12_nextCase 181 = .ok (.if_icmp .ne 15, 3) := by decide +kernel
theorem dX12_nextCase_184 : decode cX12_nextCase 184 = .ok (.aload_n 0, 1) := by decide +kernel
theorem dX12_nextCase_185 : decode cX12_nextCase 185 = .ok (.iconst 1, 1) := by decide +kernel
theorem dX12_nextCase_186 : decode cX12_nextCase 186 = .ok (.putfield 352, 3) := by decide +kernel
theorem dX12_nextCase_189 : decode cX12_nextCase 189 = .ok (.aload_n 0, 1) := by decide +kernel
theorem dX12_nextCase_190 : decode cX12_nextCase 190 = .ok (.iconst 2, 1) := by decide +kernel
theorem dX12_nextCase_191 : decode cX12_nextCase 191 = .ok (.iconst 1, 1) := by decide +kernel
theorem dX12_nextCase_192 : decode cX12_nextCase 192 = .ok (.invokevirtual 355, 3) := by decide +kernel
theorem dX12_nextCase_195 : decode cX12_nextCase 195 = .ok (.ireturn, 1) := by decide +kernel
theorem dX12_nextCase_196 : decode cX12_nextCase 196 = .ok (.aload_n 0, 1) := by decide +kernel
theorem dX12_nextCase_197 : decode cX12_nextCase 197 = .ok (.invokevirtual 374, 3) := by decide +kernel
theorem dX12_nextCase_200 : decode cX12_nextCase 200 = .ok (.ireturn, 1) := by decide +kernel
theorem dX12_prove_0 : decode cX12_prove 0 = .ok (.aload_n 0, 1) := by decide +kernel
theorem dX12_prove_1 : decode cX12_prove 1 = .ok (.getfield 164, 3) := by decide +kernel
theorem dX12_prove_4 : decode cX12_prove 4 = .ok (.ifCond .ne 6, 3) := by decide +kernel
theorem dX12_prove_7 : decode cX12_prove 7 = .ok (.bipush (-3), 2) := by decide +kernel
theorem dX12_prove_9 : decode cX12_prove 9 = .ok (.ireturn, 1) := by decide +kernel
theorem dX12_prove_10 : decode cX12_prove 10 = .ok (.aload_n 0, 1) := by decide +kernel
theorem dX12_prove_11 : decode cX12_prove 11 = .ok (.iconst 0, 1) := by decide +kernel
theorem dX12_prove_12 : decode cX12_prove 12 = .ok (.putfield 174, 3) := by decide +kernel
theorem dX12_prove_15 : decode cX12_prove 15 = .ok (.aload_n 0, 1) := by decide +kernel
theorem dX12_prove_16 : decode cX12_prove 16 = .ok (.iconst 0, 1) := by decide +kernel
theorem dX12_prove_17 : decode cX12_prove 17 = .ok (.putfield 334, 3) := by decide +kernel
theorem dX12_prove_20 : decode cX12_prove 20 = .ok (.aload_n 0, 1) := by decide +kernel
theorem dX12_prove_21 : decode cX12_prove 21 = .ok (.iconst 0, 1) := by decide +kernel
theorem dX12_prove_22 : decode cX12_prove 22 = .ok (.aload_n 0, 1) := by decide +kernel
theorem dX12_prove_23 : decode cX12_prove 23 = .ok (.iconst 2, 1) := by decide +kernel
theorem dX12_prove_24 : decode cX12_prove 24 = .ok (.iconst 0, 1) := by decide +kernel
theorem dX12_prove_25 : decode cX12_prove 25 = .ok (.invokevirtual 346, 3) := by decide +kernel
theorem dX12_prove_28 : decode cX12_prove 28 = .ok (.invokevirtual 161, 3) := by decide +kernel
theorem dX12_prove_31 : decode cX12_prove 31 = .ok (.aload_n 0, 1) := by decide +kernel
theorem dX12_prove_32 : decode cX12_prove 32 = .ok (.iconst 1, 1) := by decide +kernel
theorem dX12_prove_33 : decode cX12_prove 33 = .ok (.aload_n 0, 1) := by decide +kernel
theorem dX12_prove_34 : decode cX12_prove 34 = .ok (.iconst 2, 1) := by decide +kernel
theorem dX12_prove_35 : decode cX12_prove 35 = .ok (.iconst 1, 1) := by decide +kernel
theorem dX12_prove_36 : decode cX12_prove 36 = .ok (.invokevirtual 346, 3) := by decide +kernel
theorem dX12_prove_39 : decode cX12_prove 39 = .ok (.invokevirtual 161, 3) := by decide +kernel
theorem dX12_prove_42 : decode cX12_prove 42 = .ok (.aload_n 0, 1) := by decide +kernel
theorem dX12_prove_43 : decode cX12_prove 43 = .ok (.invokevirtual 377, 3) := by decide +kernel
theorem dX12_prove_46 : decode cX12_prove 46 = .ok (.istore_n 1, 1) := by decide +kernel
theorem dX12_prove_47 : decode cX12_prove 47 = .ok (.iload_n 1, 1) := by decide +kernel
theorem dX12_prove_48 : decode cX12_prove 48 = .ok (.iconst 3, 1) := by decide +kernel
theorem dX12_prove_49 : decode cX12_prove 49 = .ok (.if_icmp .eq 7, 3) := by decide +kernel
theorem dX12_prove_52 : decode cX12_prove 52 = .ok (.iconst 1, 1) := by decide +kernel
theorem dX12_prove_53 : decode cX12_prove 53 = .ok (.goto 4, 3) := by decide +kernel
theorem dX12_prove_56 : decode cX12_prove 56 = .ok (.iconst 0, 1) := by decide +kernel
theorem dX12_prove_57 : decode cX12_prove 57 = .ok (.istore_n 2, 1) := by decide +kernel
theorem dX12_prove_58 : decode cX12_prove 58 = .ok (.iload_n 2, 1) := by decide +kernel
theorem dX12_prove_59 : decode cX12_prove 59 = .ok (.ifCond .eq 106, 3) := by decide +kernel
theorem dX12_prove_62 : decode cX12_prove 62 = .ok (.iload_n 1, 1) := by decide +kernel
theorem dX12_prove_63 : decode cX12_prove 63 = .ok (.iconst 5, 1) := by decide +kernel
theorem dX12_prove_64 : decode cX12_prove 64 = .ok (.if_icmp .ne 11, 3) := by decide +kernel
theorem dX12_prove_67 : decode cX12_prove 67 = .ok (.aload_n 0, 1) := by decide +kernel
theorem dX12_prove_68 : decode cX12_prove 68 = .ok (.invokevirtual 380, 3) := by decide +kernel
theorem dX12_prove_71 : decode cX12_prove 71 = .ok (.istore_n 1, 1) := by decide +kernel
theorem dX12_prove_72 : decode cX12_prove 72 = .ok (.goto 75, 3) := by decide +kernel
theorem dX12_prove_75 : decode cX12_prove 75 = .ok (.iload_n 1, 1) := by decide +kernel
theorem dX12_prove_76 : decode cX12_prove 76 = .ok (.bipush 6, 2) := by decide +kernel
theorem dX12_prove_78 : decode cX12_prove 78 = .ok (.if_icmp .ne 11, 3) := by decide +kernel
theorem dX12_prove_81 : decode cX12_prove 81 = .ok (.aload_n 0, 1) := by decide +kernel
theorem dX12_prove_82 : decode cX12_prove 82 = .ok (.invokevirtual 377, 3) := by decide +kernel
theorem dX12_prove_85 : decode cX12_prove 85 = .ok (.istore_n 1, 1) := by decide +kernel
theorem dX12_prove_86 : decode cX12_prove 86 = .ok (.goto 61, 3) := by decide +kernel
theorem dX12_prove_89 : decode cX12_prove 89 = .ok (.aload_n 0, 1) := by decide +kernel
theorem dX12_prove_90 : decode cX12_prove 90 = .ok (.getfield 334, 3) := by decide +kernel
theorem dX12_prove_93 : decode cX12_prove 93 = .ok (.ifCond .le 52, 3) := by decide +kernel
theorem dX12_prove_96 : decode cX12_prove 96 = .ok (.aload_n 0, 1) := by decide +kernel
theorem dX12_prove_97 : decode cX12_prove 97 = .ok (.dup, 1) := by decide +kernel
theorem dX12_prove_98 : decode cX12_prove 98 = .ok (.getfield 334, 3) := by decide +kernel
theorem dX12_prove_101 : decode cX12_prove 101 = .ok (.iconst 1, 1) := by decide +kernel
theorem dX12_prove_102 : decode cX12_prove 102 = .ok (.isub, 1) := by decide +kernel
theorem dX12_prove_103 : decode cX12_prove 103 = .ok (.putfield 334, 3) := by decide +kernel
theorem dX12_prove_106 : decode cX12_prove 106 = .ok (.aload_n 0, 1) := by decide +kernel
theorem dX12_prove_107 : decode cX12_prove 107 = .ok (.getfield 83, 3) := by decide +kernel
theorem dX12_prove_110 : decode cX12_prove 110 = .ok (.aload_n 0, 1) := by decide +kernel
theorem dX12_prove_111 : decode cX12_prove 111 = .ok (.getfield 334, 3) := by decide +kernel
theorem dX12_prove_114 : decode cX12_prove 114 = .ok (.dup2, 1) := by decide +kernel
theorem dX12_prove_115 : decode cX12_prove 115 = .ok (.iaload, 1) := by decide +kernel
theorem dX12_prove_116 : decode cX12_prove 116 = .ok (.iload_n 1, 1) := by decide +kernel
theorem dX12_prove_117 : decode cX12_prove 117 = .ok (.ifCond .ne 7, 3) := by decide +kernel
theorem dX12_prove_120 : decode cX12_prove 120 = .ok (.iconst 1, 1) := by decide +kernel
theorem dX12_prove_121 : decode cX12_prove 121 = .ok (.goto 4, 3) := by decide +kernel
theorem dX12_prove_124 : decode cX12_prove 124 = .ok (.iconst 0, 1) := by decide +kernel
theorem dX12_prove_125 : decode cX12_prove 125 = .ok (.iadd, 1) := by decide +kernel
theorem dX12_prove_126 : decode cX12_prove 126 = .ok (.iastore, 1) := by decide +kernel
theorem dX12_prove_127 : decode cX12_prove 127 = .ok (.iload_n 1, 1) := by decide +kernel
theorem dX12_prove_128 : decode cX12_prove 128 = .ok (.ifCond .ne 7, 3) := by decide +kernel
theorem dX12_prove_131 : decode cX12_prove 131 = .ok (.iconst 5, 1) := by decide +kernel
theorem dX12_prove_132 : decode cX12_prove 132 = .ok (.goto 9, 3) := by decide +kernel
theorem dX12_prove_135 : decode cX12_prove 135 = .ok (.aload_n 0, 1) := by decide +kernel
theorem dX12_prove_136 : decode cX12_prove 136 = .ok (.iconst 2, 1) := by decide +kernel
theorem dX12_prove_137 : decode cX12_prove 137 = .ok (.iconst 0, 1) := by decide +kernel
theorem dX12_prove_138 : decode cX12_prove 138 = .ok (.invokevirtual 355, 3) := by decide +kernel
theorem dX12_prove_141 : decode cX12_prove 141 = .ok (.istore_n 1, 1) := by decide +kernel
theorem dX12_prove_142 : decode cX12_prove 142 = .ok (.goto 5, 3) := by decide +kernel
theorem dX12_prove_145 : decode cX12_prove 145 = .ok (.iconst 0, 1) := by decide +kernel
theorem dX12_prove_146 : decode cX12_prove 146 = .ok (.istore_n 2, 1) := by decide +kernel
theorem dX12_prove_147 : decode cX12_prove 147 = .ok (.iload_n 2, 1) := by decide +kernel
theorem dX12_prove_148 : decode cX12_prove 148 = .ok (.ifCond .eq 12, 3) := by decide +kernel
theorem dX12_prove_151 : decode cX12_prove 151 = .ok (.iload_n 1, 1) := by decide +kernel
theorem dX12_prove_152 : decode cX12_prove 152 = .ok (.iconst 3, 1) := by decide +kernel
theorem dX12_prove_153 : decode cX12_prove 153 = .ok (.if_icmp .eq 7, 3) := by decide +kernel
theorem dX12_prove_156 : decode cX12_prove 156 = .ok (.iconst 1, 1) := by decide +kernel
theorem dX12_prove_157 : decode cX12_prove 157 = .ok (.goto 4, 3) := by decide +kernel
theorem dX12_prove_160 : decode cX12_prove 160 = .ok (.iconst 0, 1) := by decide +kernel
theorem dX12_prove_161 : decode cX12_prove 161 = .ok (.istore_n 2, 1) := by decide +kernel
theorem dX12_prove_162 : decode cX12_prove 162 = .ok (.goto (-104), 3) := by decide +kernel
theorem dX12_prove_165 : decode cX12_prove 165 = .ok (.aload_n 0, 1) := by decide +kernel
theorem dX12_prove_166 : decode cX12_prove 166 = .ok (.iload_n 1, 1) := by decide +kernel
theorem dX12_prove_167 : decode cX12_prove 167 = .ok (.putfield 79, 3) := by decide +kernel
theorem dX12_prove_170 : decode cX12_prove 170 = .ok (.iload_n 1, 1) := by decide +kernel
theorem dX12_prove_171 : decode cX12_prove 171 = .ok (.ireturn, 1) := by decide +kernel
theorem dX12_why_0 : decode cX12_why 0 = .ok (.iload_n 1, 1) := by decide +kernel
theorem dX12_why_1 : decode cX12_why 1 = .ok (.iconst 0, 1) := by decide +kernel
theorem dX12_why_2 : decode cX12_why 2 = .ok (.bipush 9, 2) := by decide +kernel
theorem dX12_why_4 : decode cX12_why 4 = .ok (.invokestatic 96, 3) := by decide +kernel
theorem dX12_why_7 : decode cX12_why 7 = .ok (.ifCond .ne 6, 3) := by decide +kernel
theorem dX12_why_10 : decode cX12_why 10 = .ok (.bipush (-2), 2) := by decide +kernel
theorem dX12_why_12 : decode cX12_why 12 = .ok (.ireturn, 1) := by decide +kernel
theorem dX12_why_13 : decode cX12_why 13 = .ok (.aload_n 0, 1) := by decide +kernel
theorem dX12_why_14 : decode cX12_why 14 = .ok (.getfield 79, 3) := by decide +kernel
theorem dX12_why_17 : decode cX12_why 17 = .ok (.iconst 3, 1) := by decide +kernel
theorem dX12_why_18 : decode cX12_why 18 = .ok (.if_icmp .ne 14, 3) := by decide +kernel
theorem dX12_why_21 : decode cX12_why 21 = .ok (.iload_n 1, 1) := by decide +kernel
theorem dX12_why_22 : decode cX12_why 22 = .ok (.ifCond .ne 7, 3) := by decide +kernel
theorem dX12_why_25 : decode cX12_why 25 = .ok (.iconst 3, 1) := by decide +kernel
theorem dX12_why_26 : decode cX12_why 26 = .ok (.goto 5, 3) := by decide +kernel
theorem dX12_why_29 : decode cX12_why 29 = .ok (.bipush (-9), 2) := by decide +kernel
theorem dX12_why_31 : decode cX12_why 31 = .ok (.ireturn, 1) := by decide +kernel
theorem dX12_why_32 : decode cX12_why 32 = .ok (.aload_n 0, 1) := by decide +kernel
theorem dX12_why_33 : decode cX12_why 33 = .ok (.getfield 79, 3) := by decide +kernel
theorem dX12_why_36 : decode cX12_why 36 = .ok (.iconst 1, 1) := by decide +kernel
theorem dX12_why_37 : decode cX12_why 37 = .ok (.if_icmp .eq 14, 3) := by decide +kernel
theorem dX12_why_40 : decode cX12_why 40 = .ok (.aload_n 0, 1) := by decide +kernel
theorem dX12_why_41 : decode cX12_why 41 = .ok (.getfield 79, 3) := by decide +kernel
theorem dX12_why_44 : decode cX12_why 44 = .ok (.iconst 2, 1) := by decide +kernel
theorem dX12_why_45 : decode cX12_why 45 = .ok (.if_icmp .eq 6, 3) := by decide +kernel
theorem dX12_why_48 : decode cX12_why 48 = .ok (.bipush (-9), 2) := by decide +kernel
theorem dX12_why_50 : decode cX12_why 50 = .ok (.ireturn, 1) := by decide +kernel
theorem dX12_why_51 : decode cX12_why 51 = .ok (.iload_n 1, 1) := by decide +kernel
theorem dX12_why_52 : decode cX12_why 52 = .ok (.aload_n 0, 1) := by decide +kernel
theorem dX12_why_53 : decode cX12_why 53 = .ok (.getfield 337, 3) := by decide +kernel
theorem dX12_why_56 : decode cX12_why 56 = .ok (.if_icmp .ge 7, 3) := by decide +kernel
theorem dX12_why_59 : decode cX12_why 59 = .ok (.iconst 2, 1) := by decide +kernel
theorem dX12_why_60 : decode cX12_why 60 = .ok (.goto 41, 3) := by decide +kernel
theorem dX12_why_63 : decode cX12_why 63 = .ok (.iload_n 1, 1) := by decide +kernel
theorem dX12_why_64 : decode cX12_why 64 = .ok (.aload_n 0, 1) := by decide +kernel
theorem dX12_why_65 : decode cX12_why 65 = .ok (.getfield 337, 3) := by decide +kernel
theorem dX12_why_68 : decode cX12_why 68 = .ok (.if_icmp .ne 10, 3) := by decide +kernel
theorem dX12_why_71 : decode cX12_why 71 = .ok (.aload_n 0, 1) := by decide +kernel
theorem dX12_why_72 : decode cX12_why 72 = .ok (.getfield 340, 3) := by decide +kernel
theorem dX12_why_75 : decode cX12_why 75 = .ok (.goto 26, 3) := by decide +kernel
theorem dX12_why_78 : decode cX12_why 78 = .ok (.iload_n 1, 1) := by decide +kernel
theorem dX12_why_79 : decode cX12_why 79 = .ok (.aload_n 0, 1) := by decide +kernel
theorem dX12_why_80 : decode cX12_why 80 = .ok (.getfield 337, 3) := by decide +kernel
theorem dX12_why_83 : decode cX12_why 83 = .ok (.iconst 1, 1) := by decide +kernel
theorem dX12_why_84 : decode cX12_why 84 = .ok (.iadd, 1) := by decide +kernel
theorem dX12_why_85 : decode cX12_why 85 = .ok (.if_icmp .ne 14, 3) := by decide +kernel
theorem dX12_why_88 : decode cX12_why 88 = .ok (.aload_n 0, 1) := by decide +kernel
theorem dX12_why_89 : decode cX12_why 89 = .ok (.getfield 352, 3) := by decide +kernel
theorem dX12_why_92 : decode cX12_why 92 = .ok (.ifCond .eq 7, 3) := by decide +kernel
theorem dX12_why_95 : decode cX12_why 95 = .ok (.iconst 4, 1) := by decide +kernel
theorem dX12_why_96 : decode cX12_why 96 = .ok (.goto 5, 3) := by decide +kernel
theorem dX12_why_99 : decode cX12_why 99 = .ok (.bipush (-9), 2) := by decide +kernel
theorem dX12_why_101 : decode cX12_why 101 = .ok (.ireturn, 1) := by decide +kernel
theorem dX12_script_0 : decode cX12_script 0 = .ok (.iload_n 1, 1) := by decide +kernel
theorem dX12_script_1 : decode cX12_script 1 = .ok (.iconst 0, 1) := by decide +kernel
theorem dX12_script_2 : decode cX12_script 2 = .ok (.bipush 98, 2) := by decide +kernel
theorem dX12_script_4 : decode cX12_script 4 = .ok (.invokestatic 96, 3) := by decide +kernel
theorem dX12_script_7 : decode cX12_script 7 = .ok (.ifCond .eq 12, 3) := by decide +kernel
theorem dX12_script_10 : decode cX12_script 10 = .ok (.iload_n 2, 1) := by decide +kernel
theorem dX12_script_11 : decode cX12_script 11 = .ok (.iconst 0, 1) := by decide +kernel
theorem dX12_script_12 : decode cX12_script 12 = .ok (.iconst 1, 1) := by decide +kernel
theorem dX12_script_13 : decode cX12_script 13 = .ok (.invokestatic 96, 3) := by decide +kernel
theorem dX12_script_16 : decode cX12_script 16 = .ok (.ifCond .ne 6, 3) := by decide +kernel
theorem dX12_script_19 : decode cX12_script 19 = .ok (.bipush (-2), 2) := by decide +kernel
theorem dX12_script_21 : decode cX12_script 21 = .ok (.ireturn, 1) := by decide +kernel
theorem dX12_script_22 : decode cX12_script 22 = .ok (.iload_n 1, 1) := by decide +kernel
theorem dX12_script_23 : decode cX12_script 23 = .ok (.aload_n 0, 1) := by decide +kernel
theorem dX12_script_24 : decode cX12_script 24 = .ok (.getfield 174, 3) := by decide +kernel
theorem dX12_script_27 : decode cX12_script 27 = .ok (.if_icmp .lt 8, 3) := by decide +kernel
theorem dX12_script_30 : decode cX12_script 30 = .ok (.bipush (-9), 2) := by decide +kernel
theorem dX12_script_32 : decode cX12_script 32 = .ok (.goto 22, 3) := by decide +kernel
theorem dX12_script_35 : decode cX12_script 35 = .ok (.iload_n 2, 1) := by decide +kernel
theorem dX12_script_36 : decode cX12_script 36 = .ok (.ifCond .ne 12, 3) := by decide +kernel
theorem dX12_script_39 : decode cX12_script 39 = .ok (.aload_n 0, 1) := by decide +kernel
theorem dX12_script_40 : decode cX12_script 40 = .ok (.getfield 73, 3) := by decide +kernel
theorem dX12_script_43 : decode cX12_script 43 = .ok (.iload_n 1, 1) := by decide +kernel
theorem dX12_script_44 : decode cX12_script 44 = .ok (.iaload, 1) := by decide +kernel
theorem dX12_script_45 : decode cX12_script 45 = .ok (.goto 9, 3) := by decide +kernel
theorem dX12_script_48 : decode cX12_script 48 = .ok (.aload_n 0, 1) := by decide +kernel
theorem dX12_script_49 : decode cX12_script 49 = .ok (.getfield 76, 3) := by decide +kernel
theorem dX12_script_52 : decode cX12_script 52 = .ok (.iload_n 1, 1) := by decide +kernel
theorem dX12_script_53 : decode cX12_script 53 = .ok (.iaload, 1) := by decide +kernel
theorem dX12_script_54 : decode cX12_script 54 = .ok (.ireturn, 1) := by decide +kernel
theorem dX12_isKnown_0 : decode cX12_isKnown 0 = .ok (.iload_n 1, 1) := by decide +kernel
theorem dX12_isKnown_1 : decode cX12_isKnown 1 = .ok (.iconst 0, 1) := by decide +kernel
theorem dX12_isKnown_2 : decode cX12_isKnown 2 = .ok (.aload_n 0, 1) := by decide +kernel
theorem dX12_isKnown_3 : decode cX12_isKnown 3 = .ok (.getfield 171, 3) := by decide +kernel
theorem dX12_isKnown_6 : decode cX12_isKnown 6 = .ok (.iconst 1, 1) := by decide +kernel
theorem dX12_isKnown_7 : decode cX12_isKnown 7 = .ok (.isub, 1) := by decide +kernel
theorem dX12_isKnown_8 : decode cX12_isKnown 8 = .ok (.invokestatic 96, 3) := by decide +kernel
theorem dX12_isKnown_11 : decode cX12_isKnown 11 = .ok (.ireturn, 1) := by decide +kernel
theorem dX12_lemma_0 : decode cX12_lemma 0 = .ok (.aload_n 0, 1) := by decide +kernel
theorem dX12_lemma_1 : decode cX12_lemma 1 = .ok (.iload_n 1, 1) := by decide +kernel
theorem dX12_lemma_2 : decode cX12_lemma 2 = .ok (.invokevirtual 383, 3) := by decide +kernel
theorem dX12_lemma_5 : decode cX12_lemma 5 = .ok (.ifCond .ne 5, 3) := by decide +kernel
theorem dX12_lemma_8 : decode cX12_lemma 8 = .ok (.iconst (-1), 1) := by decide +kernel
theorem dX12_lemma_9 : decode cX12_lemma 9 = .ok (.ireturn, 1) := by decide +kernel
theorem dX12_lemma_10 : decode cX12_lemma 10 = .ok (.iload_n 2, 1) := by decide +kernel
theorem dX12_lemma_11 : decode cX12_lemma 11 = .ok (.iconst 0, 1) := by decide +kernel
theorem dX12_lemma_12 : decode cX12_lemma 12 = .ok (.iconst 1, 1) := by decide +kernel
theorem dX12_lemma_13 : decode cX12_lemma 13 = .ok (.invokestatic 96, 3) := by decide +kernel
theorem dX12_lemma_16 : decode cX12_lemma 16 = .ok (.ifCond .eq 19, 3) := by decide +kernel
theorem dX12_lemma_19 : decode cX12_lemma 19 = .ok (.iload_n 3, 1) := by decide +kernel
theorem dX12_lemma_20 : decode cX12_lemma 20 = .ok (.bipush (-9), 2) := by decide +kernel
theorem dX12_lemma_22 : decode cX12_lemma 22 = .ok (.if_icmp .eq 16, 3) := by decide +kernel
theorem dX12_lemma_25 : decode cX12_lemma 25 = .ok (.iload_n 3, 1) := by decide +kernel
theorem dX12_lemma_26 : decode cX12_lemma 26 = .ok (.iconst 0, 1) := by decide +kernel
theorem dX12_lemma_27 : decode cX12_lemma 27 = .ok (.bipush 39, 2) := by decide +kernel
theorem dX12_lemma_29 : decode cX12_lemma 29 = .ok (.invokestatic 96, 3) := by decide +kernel
theorem dX12_lemma_32 : decode cX12_lemma 32 = .ok (.ifCond .ne 6, 3) := by decide +kernel
theorem dX12_lemma_35 : decode cX12_lemma 35 = .ok (.bipush (-2), 2) := by decide +kernel
theorem dX12_lemma_37 : decode cX12_lemma 37 = .ok (.ireturn, 1) := by decide +kernel
theorem dX12_lemma_38 : decode cX12_lemma 38 = .ok (.aload_n 0, 1) := by decide +kernel
theorem dX12_lemma_39 : decode cX12_lemma 39 = .ok (.bipush 28, 2) := by decide +kernel
theorem dX12_lemma_41 : decode cX12_lemma 41 = .ok (.iconst 2, 1) := by decide +kernel
theorem dX12_lemma_42 : decode cX12_lemma 42 = .ok (.iload_n 1, 1) := by decide +kernel
theorem dX12_lemma_43 : decode cX12_lemma 43 = .ok (.imul, 1) := by decide +kernel
theorem dX12_lemma_44 : decode cX12_lemma 44 = .ok (.iadd, 1) := by decide +kernel
theorem dX12_lemma_45 : decode cX12_lemma 45 = .ok (.iload_n 2, 1) := by decide +kernel
theorem dX12_lemma_46 : decode cX12_lemma 46 = .ok (.iadd, 1) := by decide +kernel
theorem dX12_lemma_47 : decode cX12_lemma 47 = .ok (.iload_n 3, 1) := by decide +kernel
theorem dX12_lemma_48 : decode cX12_lemma 48 = .ok (.invokevirtual 168, 3) := by decide +kernel
theorem dX12_lemma_51 : decode cX12_lemma 51 = .ok (.ireturn, 1) := by decide +kernel
theorem dX12_tested_0 : decode cX12_tested 0 = .ok (.aload_n 0, 1) := by decide +kernel
theorem dX12_tested_1 : decode cX12_tested 1 = .ok (.iload_n 1, 1) := by decide +kernel
theorem dX12_tested_2 : decode cX12_tested 2 = .ok (.invokevirtual 383, 3) := by decide +kernel
theorem dX12_tested_5 : decode cX12_tested 5 = .ok (.ifCond .ne 5, 3) := by decide +kernel
theorem dX12_tested_8 : decode cX12_tested 8 = .ok (.iconst (-1), 1) := by decide +kernel
theorem dX12_tested_9 : decode cX12_tested 9 = .ok (.ireturn, 1) := by decide +kernel
theorem dX12_tested_10 : decode cX12_tested 10 = .ok (.iload_n 2, 1) := by decide +kernel
theorem dX12_tested_11 : decode cX12_tested 11 = .ok (.iconst 0, 1) := by decide +kernel
theorem dX12_tested_12 : decode cX12_tested 12 = .ok (.iconst 2, 1) := by decide +kernel
theorem dX12_tested_13 : decode cX12_tested 13 = .ok (.invokestatic 96, 3) := by decide +kernel
theorem dX12_tested_16 : decode cX12_tested 16 = .ok (.ifCond .ne 6, 3) := by decide +kernel
theorem dX12_tested_19 : decode cX12_tested 19 = .ok (.bipush (-2), 2) := by decide +kernel
theorem dX12_tested_21 : decode cX12_tested 21 = .ok (.ireturn, 1) := by decide +kernel
theorem dX12_tested_22 : decode cX12_tested 22 = .ok (.iconst 0, 1) := by decide +kernel
theorem dX12_tested_23 : decode cX12_tested 23 = .ok (.istore_n 3, 1) := by decide +kernel
theorem dX12_tested_24 : decode cX12_tested 24 = .ok (.iconst 0, 1) := by decide +kernel
theorem dX12_tested_25 : decode cX12_tested 25 = .ok (.istore 4, 2) := by decide +kernel
theorem dX12_tested_27 : decode cX12_tested 27 = .ok (.iload 4, 2) := by decide +kernel
theorem dX12_tested_29 : decode cX12_tested 29 = .ok (.bipush 64, 2) := by decide +kernel
theorem dX12_tested_31 : decode cX12_tested 31 = .ok (.if_icmp .ge 71, 3) := by decide +kernel
theorem dX12_tested_34 : decode cX12_tested 34 = .ok (.aload_n 0, 1) := by decide +kernel
theorem dX12_tested_35 : decode cX12_tested 35 = .ok (.bipush 28, 2) := by decide +kernel
theorem dX12_tested_37 : decode cX12_tested 37 = .ok (.iconst 2, 1) := by decide +kernel
theorem dX12_tested_38 : decode cX12_tested 38 = .ok (.iload_n 1, 1) := by decide +kernel
theorem dX12_tested_39 : decode cX12_tested 39 = .ok (.imul, 1) := by decide +kernel
theorem dX12_tested_40 : decode cX12_tested 40 = .ok (.iadd, 1) := by decide +kernel
theorem dX12_tested_41 : decode cX12_tested 41 = .ok (.bipush 28, 2) := by decide +kernel
theorem dX12_tested_43 : decode cX12_tested 43 = .ok (.iconst 2, 1) := by decide +kernel
theorem dX12_tested_44 : decode cX12_tested 44 = .ok (.iload_n 1, 1) := by decide +kernel
theorem dX12_tested_45 : decode cX12_tested 45 = .ok (.imul, 1) := by decide +kernel
theorem dX12_tested_46 : decode cX12_tested 46 = .ok (.iadd, 1) := by decide +kernel
theorem dX12_tested_47 : decode cX12_tested 47 = .ok (.iconst 1, 1) := by decide +kernel
theorem dX12_tested_48 : decode cX12_tested 48 = .ok (.iadd, 1) := by decide +kernel
theorem dX12_tested_49 : decode cX12_tested 49 = .ok (.iload 4, 2) := by decide +kernel
theorem dX12_tested_51 : decode cX12_tested 51 = .ok (.bipush 16, 2) := by decide +kernel
theorem dX12_tested_53 : decode cX12_tested 53 = .ok (.idiv, 1) := by decide +kernel
theorem dX12_tested_54 : decode cX12_tested 54 = .ok (.iload 4, 2) := by decide +kernel
theorem dX12_tested_56 : decode cX12_tested 56 = .ok (.iconst 4, 1) := by decide +kernel
theorem dX12_tested_57 : decode cX12_tested 57 = .ok (.idiv, 1) := by decide +kernel
theorem dX12_tested_58 : decode cX12_tested 58 = .ok (.iconst 4, 1) := by decide +kernel
theorem dX12_tested_59 : decode cX12_tested 59 = .ok (.irem, 1) := by decide +kernel
theorem dX12_tested_60 : decode cX12_tested 60 = .ok (.iload 4, 2) := by decide +kernel
theorem dX12_tested_62 : decode cX12_tested 62 = .ok (.iconst 4, 1) := by decide +kernel
theorem dX12_tested_63 : decode cX12_tested 63 = .ok (.irem, 1) := by decide +kernel
theorem dX12_tested_64 : decode cX12_tested 64 = .ok (.invokevirtual 207, 3) := by decide +kernel
theorem dX12_tested_67 : decode cX12_tested 67 = .ok (.istore 5, 2) := by decide +kernel
theorem dX12_tested_69 : decode cX12_tested 69 = .ok (.iload_n 3, 1) := by decide +kernel
theorem dX12_tested_70 : decode cX12_tested 70 = .ok (.iload 5, 2) := by decide +kernel
theorem dX12_tested_72 : decode cX12_tested 72 = .ok (.bipush (-9), 2) := by decide +kernel
theorem dX12_tested_74 : decode cX12_tested 74 = .ok (.if_icmp .ne 7, 3) := by decide +kernel
theorem dX12_tested_77 : decode cX12_tested 77 = .ok (.iconst 2, 1) := by decide +kernel
theorem dX12_tested_78 : decode cX12_tested 78 = .ok (.goto 7, 3) := by decide +kernel
theorem dX12_tested_81 : decode cX12_tested 81 = .ok (.iconst 1, 1) := by decide +kernel
theorem dX12_tested_82 : decode cX12_tested 82 = .ok (.iload 5, 2) := by decide +kernel
theorem dX12_tested_84 : decode cX12_tested 84 = .ok (.isub, 1) := by decide +kernel
theorem dX12_tested_85 : decode cX12_tested 85 = .ok (.iload_n 2, 1) := by decide +kernel
theorem dX12_tested_86 : decode cX12_tested 86 = .ok (.if_icmp .ne 7, 3) := by decide +kernel
theorem dX12_tested_89 : decode cX12_tested 89 = .ok (.iconst 1, 1) := by decide +kernel
theorem dX12_tested_90 : decode cX12_tested 90 = .ok (.goto 4, 3) := by decide +kernel
theorem dX12_tested_93 : decode cX12_tested 93 = .ok (.iconst 0, 1) := by decide +kernel
theorem dX12_tested_94 : decode cX12_tested 94 = .ok (.iadd, 1) := by decide +kernel
theorem dX12_tested_95 : decode cX12_tested 95 = .ok (.istore_n 3, 1) := by decide +kernel
theorem dX12_tested_96 : decode cX12_tested 96 = .ok (.iinc 4 1, 3) := by decide +kernel
theorem dX12_tested_99 : decode cX12_tested 99 = .ok (.goto (-72), 3) := by decide +kernel
theorem dX12_tested_102 : decode cX12_tested 102 = .ok (.iload_n 3, 1) := by decide +kernel
theorem dX12_tested_103 : decode cX12_tested 103 = .ok (.ireturn, 1) := by decide +kernel
theorem dX12_back_0 : decode cX12_back 0 = .ok (.aload_n 0, 1) := by decide +kernel
theorem dX12_back_1 : decode cX12_back 1 = .ok (.getfield 171, 3) := by decide +kernel
theorem dX12_back_4 : decode cX12_back 4 = .ok (.ifCond .ne 6, 3) := by decide +kernel
theorem dX12_back_7 : decode cX12_back 7 = .ok (.bipush (-3), 2) := by decide +kernel
theorem dX12_back_9 : decode cX12_back 9 = .ok (.ireturn, 1) := by decide +kernel
theorem dX12_back_10 : decode cX12_back 10 = .ok (.aload_n 0, 1) := by decide +kernel
theorem dX12_back_11 : decode cX12_back 11 = .ok (.dup, 1) := by decide +kernel
theorem dX12_back_12 : decode cX12_back 12 = .ok (.getfield 171, 3) := by decide +kernel
theorem dX12_back_15 : decode cX12_back 15 = .ok (.iconst 1, 1) := by decide +kernel
theorem dX12_back_16 : decode cX12_back 16 = .ok (.isub, 1) := by decide +kernel
theorem dX12_back_17 : decode cX12_back 17 = .ok (.putfield 171, 3) := by decide +kernel
theorem dX12_back_20 : decode cX12_back 20 = .ok (.aload_n 0, 1) := by decide +kernel
theorem dX12_back_21 : decode cX12_back 21 = .ok (.getfield 171, 3) := by decide +kernel
theorem dX12_back_24 : decode cX12_back 24 = .ok (.ireturn, 1) := by decide +kernel
theorem dX12_many_0 : decode cX12_many 0 = .ok (.iload_n 1, 1) := by decide +kernel
theorem dX12_many_1 : decode cX12_many 1 = .ok (.tableswitch 51 0 3 #[31, 36, 41, 46], 31) := by decide +kernel
theorem dX12_many_32 : decode cX12_many 32 = .ok (.aload_n 0, 1) := by decide +kernel
theorem dX12_many_33 : decode cX12_many 33 = .ok (.getfield 137, 3) := by decide +kernel
theorem dX12_many_36 : decode cX12_many 36 = .ok (.ireturn, 1) := by decide +kernel
theorem dX12_many_37 : decode cX12_many 37 = .ok (.aload_n 0, 1) := by decide +kernel
theorem dX12_many_38 : decode cX12_many 38 = .ok (.getfield 171, 3) := by decide +kernel
theorem dX12_many_41 : decode cX12_many 41 = .ok (.ireturn, 1) := by decide +kernel
theorem dX12_many_42 : decode cX12_many 42 = .ok (.aload_n 0, 1) := by decide +kernel
theorem dX12_many_43 : decode cX12_many 43 = .ok (.getfield 108, 3) := by decide +kernel
theorem dX12_many_46 : decode cX12_many 46 = .ok (.ireturn, 1) := by decide +kernel
theorem dX12_many_47 : decode cX12_many 47 = .ok (.aload_n 0, 1) := by decide +kernel
theorem dX12_many_48 : decode cX12_many 48 = .ok (.getfield 174, 3) := by decide +kernel
theorem dX12_many_51 : decode cX12_many 51 = .ok (.ireturn, 1) := by decide +kernel
theorem dX12_many_52 : decode cX12_many 52 = .ok (.bipush (-2), 2) := by decide +kernel
theorem dX12_many_54 : decode cX12_many 54 = .ok (.ireturn, 1) := by decide +kernel
