theorem dX0_levelling_0 : decode cX0_levelling 0 = .ok (.aload_n 0, 1) := by decide +kernel
theorem dX0_levelling_1 : decode cX0_levelling 1 = .ok (.getfield 9, 3) := by decide +kernel
theorem dX0_levelling_4 : decode cX0_levelling 4 = .ok (.iconst 2, 1) := by decide +kernel
theorem dX0_levelling_5 : decode cX0_levelling 5 = .ok (.iload_n 1, 1) := by decide +kernel
theorem dX0_levelling_6 : decode cX0_levelling 6 = .ok (.imul, 1) := by decide +kernel
theorem dX0_levelling_7 : decode cX0_levelling 7 = .ok (.iconst 1, 1) := by decide +kernel
theorem dX0_levelling_8 : decode cX0_levelling 8 = .ok (.iadd, 1) := by decide +kernel
theorem dX0_levelling_9 : decode cX0_levelling 9 = .ok (.iaload, 1) := by decide +kernel
theorem dX0_levelling_10 : decode cX0_levelling 10 = .ok (.aload_n 0, 1) := by decide +kernel
theorem dX0_levelling_11 : decode cX0_levelling 11 = .ok (.getfield 9, 3) := by decide +kernel
theorem dX0_levelling_14 : decode cX0_levelling 14 = .ok (.iconst 2, 1) := by decide +kernel
theorem dX0_levelling_15 : decode cX0_levelling 15 = .ok (.iload_n 1, 1) := by decide +kernel
theorem dX0_levelling_16 : decode cX0_levelling 16 = .ok (.imul, 1) := by decide +kernel
theorem dX0_levelling_17 : decode cX0_levelling 17 = .ok (.iaload, 1) := by decide +kernel
theorem dX0_levelling_18 : decode cX0_levelling 18 = .ok (.isub, 1) := by decide +kernel
theorem dX0_levelling_19 : decode cX0_levelling 19 = .ok (.istore_n 2, 1) := by decide +kernel
theorem dX0_levelling_20 : decode cX0_levelling 20 = .ok (.iload_n 2, 1) := by decide +kernel
theorem dX0_levelling_21 : decode cX0_levelling 21 = .ok (.invokestatic 15, 3) := by decide +kernel
theorem dX0_levelling_24 : decode cX0_levelling 24 = .ok (.istore_n 3, 1) := by decide +kernel
theorem dX0_levelling_25 : decode cX0_levelling 25 = .ok (.iconst (-1), 1) := by decide +kernel
theorem dX0_levelling_26 : decode cX0_levelling 26 = .ok (.istore 4, 2) := by decide +kernel
theorem dX0_levelling_28 : decode cX0_levelling 28 = .ok (.iconst 0, 1) := by decide +kernel
theorem dX0_levelling_29 : decode cX0_levelling 29 = .ok (.istore 5, 2) := by decide +kernel
theorem dX0_levelling_31 : decode cX0_levelling 31 = .ok (.iload 5, 2) := by decide +kernel
theorem dX0_levelling_33 : decode cX0_levelling 33 = .ok (.aload_n 0, 1) := by decide +kernel
theorem dX0_levelling_34 : decode cX0_levelling 34 = .ok (.getfield 21, 3) := by decide +kernel
theorem dX0_levelling_37 : decode cX0_levelling 37 = .ok (.if_icmp .ge 38, 3) := by decide +kernel
theorem dX0_levelling_40 : decode cX0_levelling 40 = .ok (.iload_n 2, 1) := by decide +kernel
theorem dX0_levelling_41 : decode cX0_levelling 41 = .ok (.aload_n 0, 1) := by decide +kernel
theorem dX0_levelling_42 : decode cX0_levelling 42 = .ok (.iload_n 1, 1) := by decide +kernel
theorem dX0_levelling_43 : decode cX0_levelling 43 = .ok (.iconst 1, 1) := by decide +kernel
theorem dX0_levelling_44 : decode cX0_levelling 44 = .ok (.iload 5, 2) := by decide +kernel
theorem dX0_levelling_46 : decode cX0_levelling 46 = .ok (.ishl, 1) := by decide +kernel
theorem dX0_levelling_47 : decode cX0_levelling 47 = .ok (.invokestatic 25, 3) := by decide +kernel
theorem dX0_levelling_50 : decode cX0_levelling 50 = .ok (.iadd, 1) := by decide +kernel
theorem dX0_levelling_51 : decode cX0_levelling 51 = .ok (.invokestatic 15, 3) := by decide +kernel
theorem dX0_levelling_54 : decode cX0_levelling 54 = .ok (.istore 6, 2) := by decide +kernel
theorem dX0_levelling_56 : decode cX0_levelling 56 = .ok (.iload 6, 2) := by decide +kernel
theorem dX0_levelling_58 : decode cX0_levelling 58 = .ok (.iload_n 3, 1) := by decide +kernel
theorem dX0_levelling_59 : decode cX0_levelling 59 = .ok (.if_icmp .ge 10, 3) := by decide +kernel
theorem dX0_levelling_62 : decode cX0_levelling 62 = .ok (.iload 5, 2) := by decide +kernel
theorem dX0_levelling_64 : decode cX0_levelling 64 = .ok (.istore 4, 2) := by decide +kernel
theorem dX0_levelling_66 : decode cX0_levelling 66 = .ok (.iload 6, 2) := by decide +kernel
theorem dX0_levelling_68 : decode cX0_levelling 68 = .ok (.istore_n 3, 1) := by decide +kernel
theorem dX0_levelling_69 : decode cX0_levelling 69 = .ok (.iinc 5 1, 3) := by decide +kernel
theorem dX0_levelling_72 : decode cX0_levelling 72 = .ok (.goto (-41), 3) := by decide +kernel
theorem dX0_levelling_75 : decode cX0_levelling 75 = .ok (.iload 4, 2) := by decide +kernel
theorem dX0_levelling_77 : decode cX0_levelling 77 = .ok (.ireturn, 1) := by decide +kernel
theorem dX0_shiftOf_0 : decode cX0_shiftOf 0 = .ok (.iconst 0, 1) := by decide +kernel
theorem dX0_shiftOf_1 : decode cX0_shiftOf 1 = .ok (.istore_n 3, 1) := by decide +kernel
theorem dX0_shiftOf_2 : decode cX0_shiftOf 2 = .ok (.iconst 0, 1) := by decide +kernel
theorem dX0_shiftOf_3 : decode cX0_shiftOf 3 = .ok (.istore 4, 2) := by decide +kernel
theorem dX0_shiftOf_5 : decode cX0_shiftOf 5 = .ok (.iload 4, 2) := by decide +kernel
theorem dX0_shiftOf_7 : decode cX0_shiftOf 7 = .ok (.aload_n 0, 1) := by decide +kernel
theorem dX0_shiftOf_8 : decode cX0_shiftOf 8 = .ok (.getfield 21, 3) := by decide +kernel
theorem dX0_shiftOf_11 : decode cX0_shiftOf 11 = .ok (.if_icmp .ge 76, 3) := by decide +kernel
theorem dX0_shiftOf_14 : decode cX0_shiftOf 14 = .ok (.iload_n 2, 1) := by decide +kernel
theorem dX0_shiftOf_15 : decode cX0_shiftOf 15 = .ok (.iload 4, 2) := by decide +kernel
theorem dX0_shiftOf_17 : decode cX0_shiftOf 17 = .ok (.ishr, 1) := by decide +kernel
theorem dX0_shiftOf_18 : decode cX0_shiftOf 18 = .ok (.iconst 1, 1) := by decide +kernel
theorem dX0_shiftOf_19 : decode cX0_shiftOf 19 = .ok (.iand, 1) := by decide +kernel
theorem dX0_shiftOf_20 : decode cX0_shiftOf 20 = .ok (.ifCond .ne 6, 3) := by decide +kernel
theorem dX0_shiftOf_23 : decode cX0_shiftOf 23 = .ok (.goto 58, 3) := by decide +kernel
theorem dX0_shiftOf_26 : decode cX0_shiftOf 26 = .ok (.aload_n 0, 1) := by decide +kernel
theorem dX0_shiftOf_27 : decode cX0_shiftOf 27 = .ok (.getfield 31, 3) := by decide +kernel
theorem dX0_shiftOf_30 : decode cX0_shiftOf 30 = .ok (.iload 4, 2) := by decide +kernel
theorem dX0_shiftOf_32 : decode cX0_shiftOf 32 = .ok (.iaload, 1) := by decide +kernel
theorem dX0_shiftOf_33 : decode cX0_shiftOf 33 = .ok (.iconst 2, 1) := by decide +kernel
theorem dX0_shiftOf_34 : decode cX0_shiftOf 34 = .ok (.iload_n 1, 1) := by decide +kernel
theorem dX0_shiftOf_35 : decode cX0_shiftOf 35 = .ok (.imul, 1) := by decide +kernel
theorem dX0_shiftOf_36 : decode cX0_shiftOf 36 = .ok (.if_icmp .ne 18, 3) := by decide +kernel
theorem dX0_shiftOf_39 : decode cX0_shiftOf 39 = .ok (.iload_n 3, 1) := by decide +kernel
theorem dX0_shiftOf_40 : decode cX0_shiftOf 40 = .ok (.iconst 2, 1) := by decide +kernel
theorem dX0_shiftOf_41 : decode cX0_shiftOf 41 = .ok (.aload_n 0, 1) := by decide +kernel
theorem dX0_shiftOf_42 : decode cX0_shiftOf 42 = .ok (.getfield 34, 3) := by decide +kernel
theorem dX0_shiftOf_45 : decode cX0_shiftOf 45 = .ok (.iload 4, 2) := by decide +kernel
theorem dX0_shiftOf_47 : decode cX0_shiftOf 47 = .ok (.iaload, 1) := by decide +kernel
theorem dX0_shiftOf_48 : decode cX0_shiftOf 48 = .ok (.imul, 1) := by decide +kernel
theorem dX0_shiftOf_49 : decode cX0_shiftOf 49 = .ok (.iadd, 1) := by decide +kernel
theorem dX0_shiftOf_50 : decode cX0_shiftOf 50 = .ok (.istore_n 3, 1) := by decide +kernel
theorem dX0_shiftOf_51 : decode cX0_shiftOf 51 = .ok (.goto 30, 3) := by decide +kernel
theorem dX0_shiftOf_54 : decode cX0_shiftOf 54 = .ok (.aload_n 0, 1) := by decide +kernel
theorem dX0_shiftOf_55 : decode cX0_shiftOf 55 = .ok (.getfield 31, 3) := by decide +kernel
theorem dX0_shiftOf_58 : decode cX0_shiftOf 58 = .ok (.iload 4, 2) := by decide +kernel
theorem dX0_shiftOf_60 : decode cX0_shiftOf 60 = .ok (.iaload, 1) := by decide +kernel
theorem dX0_shiftOf_61 : decode cX0_shiftOf 61 = .ok (.iconst 2, 1) := by decide +kernel
theorem dX0_shiftOf_62 : decode cX0_shiftOf 62 = .ok (.iload_n 1, 1) := by decide +kernel
theorem dX0_shiftOf_63 : decode cX0_shiftOf 63 = .ok (.imul, 1) := by decide +kernel
theorem dX0_shiftOf_64 : decode cX0_shiftOf 64 = .ok (.iconst 1, 1) := by decide +kernel
theorem dX0_shiftOf_65 : decode cX0_shiftOf 65 = .ok (.iadd, 1) := by decide +kernel
theorem dX0_shiftOf_66 : decode cX0_shiftOf 66 = .ok (.if_icmp .ne 15, 3) := by decide +kernel
theorem dX0_shiftOf_69 : decode cX0_shiftOf 69 = .ok (.iload_n 3, 1) := by decide +kernel
theorem dX0_shiftOf_70 : decode cX0_shiftOf 70 = .ok (.iconst 2, 1) := by decide +kernel
theorem dX0_shiftOf_71 : decode cX0_shiftOf 71 = .ok (.aload_n 0, 1) := by decide +kernel
theorem dX0_shiftOf_72 : decode cX0_shiftOf 72 = .ok (.getfield 34, 3) := by decide +kernel
theorem dX0_shiftOf_75 : decode cX0_shiftOf 75 = .ok (.iload 4, 2) := by decide +kernel
theorem dX0_shiftOf_77 : decode cX0_shiftOf 77 = .ok (.iaload, 1) := by decide +kernel
theorem dX0_shiftOf_78 : decode cX0_shiftOf 78 = .ok (.imul, 1) := by decide +kernel
theorem dX0_shiftOf_79 : decode cX0_shiftOf 79 = .ok (.isub, 1) := by decide +kernel
theorem dX0_shiftOf_80 : decode cX0_shiftOf 80 = .ok (.istore_n 3, 1) := by decide +kernel
theorem dX0_shiftOf_81 : decode cX0_shiftOf 81 = .ok (.iinc 4 1, 3) := by decide +kernel
theorem dX0_shiftOf_84 : decode cX0_shiftOf 84 = .ok (.goto (-79), 3) := by decide +kernel
theorem dX0_shiftOf_87 : decode cX0_shiftOf 87 = .ok (.iload_n 3, 1) := by decide +kernel
theorem dX0_shiftOf_88 : decode cX0_shiftOf 88 = .ok (.ireturn, 1) := by decide +kernel
theorem dX0_leastSet_0 : decode cX0_leastSet 0 = .ok (.aload_n 0, 1) := by decide +kernel
theorem dX0_leastSet_1 : decode cX0_leastSet 1 = .ok (.iconst 2, 1) := by decide +kernel
theorem dX0_leastSet_2 : decode cX0_leastSet 2 = .ok (.iload_n 1, 1) := by decide +kernel
theorem dX0_leastSet_3 : decode cX0_leastSet 3 = .ok (.imul, 1) := by decide +kernel
theorem dX0_leastSet_4 : decode cX0_leastSet 4 = .ok (.invokevirtual 37, 3) := by decide +kernel
theorem dX0_leastSet_7 : decode cX0_leastSet 7 = .ok (.aload_n 0, 1) := by decide +kernel
theorem dX0_leastSet_8 : decode cX0_leastSet 8 = .ok (.iconst 2, 1) := by decide +kernel
theorem dX0_leastSet_9 : decode cX0_leastSet 9 = .ok (.iload_n 1, 1) := by decide +kernel
theorem dX0_leastSet_10 : decode cX0_leastSet 10 = .ok (.imul, 1) := by decide +kernel
theorem dX0_leastSet_11 : decode cX0_leastSet 11 = .ok (.iconst 1, 1) := by decide +kernel
theorem dX0_leastSet_12 : decode cX0_leastSet 12 = .ok (.iadd, 1) := by decide +kernel
theorem dX0_leastSet_13 : decode cX0_leastSet 13 = .ok (.invokevirtual 37, 3) := by decide +kernel
theorem dX0_leastSet_16 : decode cX0_leastSet 16 = .ok (.ior, 1) := by decide +kernel
theorem dX0_leastSet_17 : decode cX0_leastSet 17 = .ok (.istore 4, 2) := by decide +kernel
theorem dX0_leastSet_19 : decode cX0_leastSet 19 = .ok (.aload_n 0, 1) := by decide +kernel
theorem dX0_leastSet_20 : decode cX0_leastSet 20 = .ok (.getfield 9, 3) := by decide +kernel
theorem dX0_leastSet_23 : decode cX0_leastSet 23 = .ok (.iconst 2, 1) := by decide +kernel
theorem dX0_leastSet_24 : decode cX0_leastSet 24 = .ok (.iload_n 1, 1) := by decide +kernel
theorem dX0_leastSet_25 : decode cX0_leastSet 25 = .ok (.imul, 1) := by decide +kernel
theorem dX0_leastSet_26 : decode cX0_leastSet 26 = .ok (.iconst 1, 1) := by decide +kernel
theorem dX0_leastSet_27 : decode cX0_leastSet 27 = .ok (.iadd, 1) := by decide +kernel
theorem dX0_leastSet_28 : decode cX0_leastSet 28 = .ok (.iaload, 1) := by decide +kernel
theorem dX0_leastSet_29 : decode cX0_leastSet 29 = .ok (.aload_n 0, 1) := by decide +kernel
theorem dX0_leastSet_30 : decode cX0_leastSet 30 = .ok (.getfield 9, 3) := by decide +kernel
theorem dX0_leastSet_33 : decode cX0_leastSet 33 = .ok (.iconst 2, 1) := by decide +kernel
theorem dX0_leastSet_34 : decode cX0_leastSet 34 = .ok (.iload_n 1, 1) := by decide +kernel
theorem dX0_leastSet_35 : decode cX0_leastSet 35 = .ok (.imul, 1) := by decide +kernel
theorem dX0_leastSet_36 : decode cX0_leastSet 36 = .ok (.iaload, 1) := by decide +kernel
theorem dX0_leastSet_37 : decode cX0_leastSet 37 = .ok (.isub, 1) := by decide +kernel
theorem dX0_leastSet_38 : decode cX0_leastSet 38 = .ok (.istore 5, 2) := by decide +kernel
theorem dX0_leastSet_40 : decode cX0_leastSet 40 = .ok (.iconst (-1), 1) := by decide +kernel
theorem dX0_leastSet_41 : decode cX0_leastSet 41 = .ok (.istore 6, 2) := by decide +kernel
theorem dX0_leastSet_43 : decode cX0_leastSet 43 = .ok (.iconst 0, 1) := by decide +kernel
theorem dX0_leastSet_44 : decode cX0_leastSet 44 = .ok (.istore 7, 2) := by decide +kernel
theorem dX0_leastSet_46 : decode cX0_leastSet 46 = .ok (.iconst 0, 1) := by decide +kernel
theorem dX0_leastSet_47 : decode cX0_leastSet 47 = .ok (.istore 8, 2) := by decide +kernel
theorem dX0_leastSet_49 : decode cX0_leastSet 49 = .ok (.iload 8, 2) := by decide +kernel
theorem dX0_leastSet_51 : decode cX0_leastSet 51 = .ok (.iload 4, 2) := by decide +kernel
theorem dX0_leastSet_53 : decode cX0_leastSet 53 = .ok (.if_icmp .gt 94, 3) := by decide +kernel
theorem dX0_leastSet_56 : decode cX0_leastSet 56 = .ok (.iload 8, 2) := by decide +kernel
theorem dX0_leastSet_58 : decode cX0_leastSet 58 = .ok (.iload 4, 2) := by decide +kernel
theorem dX0_leastSet_60 : decode cX0_leastSet 60 = .ok (.iand, 1) := by decide +kernel
theorem dX0_leastSet_61 : decode cX0_leastSet 61 = .ok (.iload 8, 2) := by decide +kernel
theorem dX0_leastSet_63 : decode cX0_leastSet 63 = .ok (.if_icmp .ne 26, 3) := by decide +kernel
theorem dX0_leastSet_66 : decode cX0_leastSet 66 = .ok (.aload_n 0, 1) := by decide +kernel
theorem dX0_leastSet_67 : decode cX0_leastSet 67 = .ok (.iconst 0, 1) := by decide +kernel
theorem dX0_leastSet_68 : decode cX0_leastSet 68 = .ok (.iload 5, 2) := by decide +kernel
theorem dX0_leastSet_70 : decode cX0_leastSet 70 = .ok (.aload_n 0, 1) := by decide +kernel
theorem dX0_leastSet_71 : decode cX0_leastSet 71 = .ok (.iload_n 1, 1) := by decide +kernel
theorem dX0_leastSet_72 : decode cX0_leastSet 72 = .ok (.iload 8, 2) := by decide +kernel
theorem dX0_leastSet_74 : decode cX0_leastSet 74 = .ok (.invokestatic 25, 3) := by decide +kernel
theorem dX0_leastSet_77 : decode cX0_leastSet 77 = .ok (.iadd, 1) := by decide +kernel
theorem dX0_leastSet_78 : decode cX0_leastSet 78 = .ok (.invokevirtual 40, 3) := by decide +kernel
theorem dX0_leastSet_81 : decode cX0_leastSet 81 = .ok (.iload_n 2, 1) := by decide +kernel
theorem dX0_leastSet_82 : decode cX0_leastSet 82 = .ok (.if_icmp .ne 7, 3) := by decide +kernel
theorem dX0_leastSet_85 : decode cX0_leastSet 85 = .ok (.iconst 1, 1) := by decide +kernel
theorem dX0_leastSet_86 : decode cX0_leastSet 86 = .ok (.goto 4, 3) := by decide +kernel
theorem dX0_leastSet_89 : decode cX0_leastSet 89 = .ok (.iconst 0, 1) := by decide +kernel
theorem dX0_leastSet_90 : decode cX0_leastSet 90 = .ok (.istore 9, 2) := by decide +kernel
theorem dX0_leastSet_92 : decode cX0_leastSet 92 = .ok (.iload 9, 2) := by decide +kernel
theorem dX0_leastSet_94 : decode cX0_leastSet 94 = .ok (.ifCond .ne 6, 3) := by decide +kernel
theorem dX0_leastSet_97 : decode cX0_leastSet 97 = .ok (.goto 44, 3) := by decide +kernel
theorem dX0_leastSet_100 : decode cX0_leastSet 100 = .ok (.iload_n 3, 1) := by decide +kernel
theorem dX0_leastSet_101 : decode cX0_leastSet 101 = .ok (.ifCond .eq 12, 3) := by decide +kernel
theorem dX0_leastSet_104 : decode cX0_leastSet 104 = .ok (.aload_n 0, 1) := by decide +kernel
theorem dX0_leastSet_105 : decode cX0_leastSet 105 = .ok (.iload 8, 2) := by decide +kernel
theorem dX0_leastSet_107 : decode cX0_leastSet 107 = .ok (.invokevirtual 44, 3) := by decide +kernel
theorem dX0_leastSet_110 : decode cX0_leastSet 110 = .ok (.goto 8, 3) := by decide +kernel
theorem dX0_leastSet_113 : decode cX0_leastSet 113 = .ok (.iload 8, 2) := by decide +kernel
theorem dX0_leastSet_115 : decode cX0_leastSet 115 = .ok (.invokestatic 47, 3) := by decide +kernel
theorem dX0_leastSet_118 : decode cX0_leastSet 118 = .ok (.istore 10, 2) := by decide +kernel
theorem dX0_leastSet_120 : decode cX0_leastSet 120 = .ok (.iload 6, 2) := by decide +kernel
theorem dX0_leastSet_122 : decode cX0_leastSet 122 = .ok (.iconst (-1), 1) := by decide +kernel
theorem dX0_leastSet_123 : decode cX0_leastSet 123 = .ok (.if_icmp .eq 10, 3) := by decide +kernel
theorem dX0_leastSet_126 : decode cX0_leastSet 126 = .ok (.iload 10, 2) := by decide +kernel
theorem dX0_leastSet_128 : decode cX0_leastSet 128 = .ok (.iload 7, 2) := by decide +kernel
theorem dX0_leastSet_130 : decode cX0_leastSet 130 = .ok (.if_icmp .ge 11, 3) := by decide +kernel
theorem dX0_leastSet_133 : decode cX0_leastSet 133 = .ok (.iload 8, 2) := by decide +kernel
theorem dX0_leastSet_135 : decode cX0_leastSet 135 = .ok (.istore 6, 2) := by decide +kernel
theorem dX0_leastSet_137 : decode cX0_leastSet 137 = .ok (.iload 10, 2) := by decide +kernel
theorem dX0_leastSet_139 : decode cX0_leastSet 139 = .ok (.istore 7, 2) := by decide +kernel
theorem dX0_leastSet_141 : decode cX0_leastSet 141 = .ok (.iinc 8 1, 3) := by decide +kernel
theorem dX0_leastSet_144 : decode cX0_leastSet 144 = .ok (.goto (-95), 3) := by decide +kernel
theorem dX0_leastSet_147 : decode cX0_leastSet 147 = .ok (.iload 6, 2) := by decide +kernel
theorem dX0_leastSet_149 : decode cX0_leastSet 149 = .ok (.ireturn, 1) := by decide +kernel
theorem dX0_restingChoices_0 : decode cX0_restingChoices 0 = .ok (.iconst 0, 1) := by decide +kernel
theorem dX0_restingChoices_1 : decode cX0_restingChoices 1 = .ok (.istore_n 2, 1) := by decide +kernel
theorem dX0_restingChoices_2 : decode cX0_restingChoices 2 = .ok (.iconst 0, 1) := by decide +kernel
theorem dX0_restingChoices_3 : decode cX0_restingChoices 3 = .ok (.istore_n 3, 1) := by decide +kernel
theorem dX0_restingChoices_4 : decode cX0_restingChoices 4 = .ok (.iload_n 3, 1) := by decide +kernel
theorem dX0_restingChoices_5 : decode cX0_restingChoices 5 = .ok (.iconst 3, 1) := by decide +kernel
theorem dX0_restingChoices_6 : decode cX0_restingChoices 6 = .ok (.if_icmp .ge 46, 3) := by decide +kernel
theorem dX0_restingChoices_9 : decode cX0_restingChoices 9 = .ok (.iconst 0, 1) := by decide +kernel
theorem dX0_restingChoices_10 : decode cX0_restingChoices 10 = .ok (.istore 4, 2) := by decide +kernel
theorem dX0_restingChoices_12 : decode cX0_restingChoices 12 = .ok (.iload 4, 2) := by decide +kernel
theorem dX0_restingChoices_14 : decode cX0_restingChoices 14 = .ok (.iconst 3, 1) := by decide +kernel
theorem dX0_restingChoices_15 : decode cX0_restingChoices 15 = .ok (.if_icmp .ge 31, 3) := by decide +kernel
theorem dX0_restingChoices_18 : decode cX0_restingChoices 18 = .ok (.aload_n 0, 1) := by decide +kernel
theorem dX0_restingChoices_19 : decode cX0_restingChoices 19 = .ok (.iload_n 1, 1) := by decide +kernel
theorem dX0_restingChoices_20 : decode cX0_restingChoices 20 = .ok (.iload_n 3, 1) := by decide +kernel
theorem dX0_restingChoices_21 : decode cX0_restingChoices 21 = .ok (.iload 4, 2) := by decide +kernel
theorem dX0_restingChoices_23 : decode cX0_restingChoices 23 = .ok (.invokestatic 52, 3) := by decide +kernel
theorem dX0_restingChoices_26 : decode cX0_restingChoices 26 = .ok (.ifCond .eq 14, 3) := by decide +kernel
theorem dX0_restingChoices_29 : decode cX0_restingChoices 29 = .ok (.iload_n 2, 1) := by decide +kernel
theorem dX0_restingChoices_30 : decode cX0_restingChoices 30 = .ok (.iconst 1, 1) := by decide +kernel
theorem dX0_restingChoices_31 : decode cX0_restingChoices 31 = .ok (.iconst 3, 1) := by decide +kernel
theorem dX0_restingChoices_32 : decode cX0_restingChoices 32 = .ok (.iload_n 3, 1) := by decide +kernel
theorem dX0_restingChoices_33 : decode cX0_restingChoices 33 = .ok (.imul, 1) := by decide +kernel
theorem dX0_restingChoices_34 : decode cX0_restingChoices 34 = .ok (.iload 4, 2) := by decide +kernel
theorem dX0_restingChoices_36 : decode cX0_restingChoices 36 = .ok (.iadd, 1) := by decide +kernel
theorem dX0_restingChoices_37 : decode cX0_restingChoices 37 = .ok (.ishl, 1) := by decide +kernel
theorem dX0_restingChoices_38 : decode cX0_restingChoices 38 = .ok (.ior, 1) := by decide +kernel
theorem dX0_restingChoices_39 : decode cX0_restingChoices 39 = .ok (.istore_n 2, 1) := by decide +kernel
theorem dX0_restingChoices_40 : decode cX0_restingChoices 40 = .ok (.iinc 4 1, 3) := by decide +kernel
theorem dX0_restingChoices_43 : decode cX0_restingChoices 43 = .ok (.goto (-31), 3) := by decide +kernel
theorem dX0_restingChoices_46 : decode cX0_restingChoices 46 = .ok (.iinc 3 1, 3) := by decide +kernel
theorem dX0_restingChoices_49 : decode cX0_restingChoices 49 = .ok (.goto (-45), 3) := by decide +kernel
theorem dX0_restingChoices_52 : decode cX0_restingChoices 52 = .ok (.iload_n 2, 1) := by decide +kernel
theorem dX0_restingChoices_53 : decode cX0_restingChoices 53 = .ok (.ireturn, 1) := by decide +kernel
theorem dX0_isResting_0 : decode cX0_isResting 0 = .ok (.aload_n 0, 1) := by decide +kernel
theorem dX0_isResting_1 : decode cX0_isResting 1 = .ok (.iload_n 1, 1) := by decide +kernel
theorem dX0_isResting_2 : decode cX0_isResting 2 = .ok (.iload_n 2, 1) := by decide +kernel
theorem dX0_isResting_3 : decode cX0_isResting 3 = .ok (.iload_n 3, 1) := by decide +kernel
theorem dX0_isResting_4 : decode cX0_isResting 4 = .ok (.invokestatic 56, 3) := by decide +kernel
theorem dX0_isResting_7 : decode cX0_isResting 7 = .ok (.iload_n 2, 1) := by decide +kernel
theorem dX0_isResting_8 : decode cX0_isResting 8 = .ok (.isub, 1) := by decide +kernel
theorem dX0_isResting_9 : decode cX0_isResting 9 = .ok (.istore 4, 2) := by decide +kernel
theorem dX0_isResting_11 : decode cX0_isResting 11 = .ok (.aload_n 0, 1) := by decide +kernel
theorem dX0_isResting_12 : decode cX0_isResting 12 = .ok (.iload_n 1, 1) := by decide +kernel
theorem dX0_isResting_13 : decode cX0_isResting 13 = .ok (.iload_n 2, 1) := by decide +kernel
theorem dX0_isResting_14 : decode cX0_isResting 14 = .ok (.iload_n 3, 1) := by decide +kernel
theorem dX0_isResting_15 : decode cX0_isResting 15 = .ok (.invokestatic 56, 3) := by decide +kernel
theorem dX0_isResting_18 : decode cX0_isResting 18 = .ok (.ineg, 1) := by decide +kernel
theorem dX0_isResting_19 : decode cX0_isResting 19 = .ok (.iload_n 3, 1) := by decide +kernel
theorem dX0_isResting_20 : decode cX0_isResting 20 = .ok (.isub, 1) := by decide +kernel
theorem dX0_isResting_21 : decode cX0_isResting 21 = .ok (.istore 5, 2) := by decide +kernel
theorem dX0_isResting_23 : decode cX0_isResting 23 = .ok (.iconst 0, 1) := by decide +kernel
theorem dX0_isResting_24 : decode cX0_isResting 24 = .ok (.istore 6, 2) := by decide +kernel
theorem dX0_isResting_26 : decode cX0_isResting 26 = .ok (.iload 6, 2) := by decide +kernel
theorem dX0_isResting_28 : decode cX0_isResting 28 = .ok (.iconst 3, 1) := by decide +kernel
theorem dX0_isResting_29 : decode cX0_isResting 29 = .ok (.if_icmp .ge 68, 3) := by decide +kernel
theorem dX0_isResting_32 : decode cX0_isResting 32 = .ok (.aload_n 0, 1) := by decide +kernel
theorem dX0_isResting_33 : decode cX0_isResting 33 = .ok (.iload_n 1, 1) := by decide +kernel
theorem dX0_isResting_34 : decode cX0_isResting 34 = .ok (.iload 6, 2) := by decide +kernel
theorem dX0_isResting_36 : decode cX0_isResting 36 = .ok (.iload_n 3, 1) := by decide +kernel
theorem dX0_isResting_37 : decode cX0_isResting 37 = .ok (.invokestatic 56, 3) := by decide +kernel
theorem dX0_isResting_40 : decode cX0_isResting 40 = .ok (.iload 6, 2) := by decide +kernel
theorem dX0_isResting_42 : decode cX0_isResting 42 = .ok (.isub, 1) := by decide +kernel
theorem dX0_isResting_43 : decode cX0_isResting 43 = .ok (.iload 4, 2) := by decide +kernel
theorem dX0_isResting_45 : decode cX0_isResting 45 = .ok (.if_icmp .le 7, 3) := by decide +kernel
theorem dX0_isResting_48 : decode cX0_isResting 48 = .ok (.iconst 1, 1) := by decide +kernel
theorem dX0_isResting_49 : decode cX0_isResting 49 = .ok (.goto 4, 3) := by decide +kernel
theorem dX0_isResting_52 : decode cX0_isResting 52 = .ok (.iconst 0, 1) := by decide +kernel
theorem dX0_isResting_53 : decode cX0_isResting 53 = .ok (.istore 7, 2) := by decide +kernel
theorem dX0_isResting_55 : decode cX0_isResting 55 = .ok (.aload_n 0, 1) := by decide +kernel
theorem dX0_isResting_56 : decode cX0_isResting 56 = .ok (.iload_n 1, 1) := by decide +kernel
theorem dX0_isResting_57 : decode cX0_isResting 57 = .ok (.iload_n 2, 1) := by decide +kernel
theorem dX0_isResting_58 : decode cX0_isResting 58 = .ok (.iload 6, 2) := by decide +kernel
theorem dX0_isResting_60 : decode cX0_isResting 60 = .ok (.invokestatic 56, 3) := by decide +kernel
theorem dX0_isResting_63 : decode cX0_isResting 63 = .ok (.ineg, 1) := by decide +kernel
theorem dX0_isResting_64 : decode cX0_isResting 64 = .ok (.iload 6, 2) := by decide +kernel
theorem dX0_isResting_66 : decode cX0_isResting 66 = .ok (.isub, 1) := by decide +kernel
theorem dX0_isResting_67 : decode cX0_isResting 67 = .ok (.iload 5, 2) := by decide +kernel
theorem dX0_isResting_69 : decode cX0_isResting 69 = .ok (.if_icmp .le 7, 3) := by decide +kernel
theorem dX0_isResting_72 : decode cX0_isResting 72 = .ok (.iconst 1, 1) := by decide +kernel
theorem dX0_isResting_73 : decode cX0_isResting 73 = .ok (.goto 4, 3) := by decide +kernel
theorem dX0_isResting_76 : decode cX0_isResting 76 = .ok (.iconst 0, 1) := by decide +kernel
theorem dX0_isResting_77 : decode cX0_isResting 77 = .ok (.istore 8, 2) := by decide +kernel
theorem dX0_isResting_79 : decode cX0_isResting 79 = .ok (.iload 7, 2) := by decide +kernel
theorem dX0_isResting_81 : decode cX0_isResting 81 = .ok (.ifCond .ne 8, 3) := by decide +kernel
theorem dX0_isResting_84 : decode cX0_isResting 84 = .ok (.iload 8, 2) := by decide +kernel
theorem dX0_isResting_86 : decode cX0_isResting 86 = .ok (.ifCond .eq 5, 3) := by decide +kernel
theorem dX0_isResting_89 : decode cX0_isResting 89 = .ok (.iconst 0, 1) := by decide +kernel
theorem dX0_isResting_90 : decode cX0_isResting 90 = .ok (.ireturn, 1) := by decide +kernel
theorem dX0_isResting_91 : decode cX0_isResting 91 = .ok (.iinc 6 1, 3) := by decide +kernel
theorem dX0_isResting_94 : decode cX0_isResting 94 = .ok (.goto (-68), 3) := by decide +kernel
theorem dX0_isResting_97 : decode cX0_isResting 97 = .ok (.iconst 1, 1) := by decide +kernel
theorem dX0_isResting_98 : decode cX0_isResting 98 = .ok (.ireturn, 1) := by decide +kernel
theorem dX0_tiltWith_0 : decode cX0_tiltWith 0 = .ok (.aload_n 0, 1) := by decide +kernel
theorem dX0_tiltWith_1 : decode cX0_tiltWith 1 = .ok (.aload_n 0, 1) := by decide +kernel
theorem dX0_tiltWith_2 : decode cX0_tiltWith 2 = .ok (.getfield 9, 3) := by decide +kernel
theorem dX0_tiltWith_5 : decode cX0_tiltWith 5 = .ok (.iconst 2, 1) := by decide +kernel
theorem dX0_tiltWith_6 : decode cX0_tiltWith 6 = .ok (.iload_n 1, 1) := by decide +kernel
theorem dX0_tiltWith_7 : decode cX0_tiltWith 7 = .ok (.imul, 1) := by decide +kernel
theorem dX0_tiltWith_8 : decode cX0_tiltWith 8 = .ok (.iaload, 1) := by decide +kernel
theorem dX0_tiltWith_9 : decode cX0_tiltWith 9 = .ok (.iload_n 2, 1) := by decide +kernel
theorem dX0_tiltWith_10 : decode cX0_tiltWith 10 = .ok (.aload_n 0, 1) := by decide +kernel
theorem dX0_tiltWith_11 : decode cX0_tiltWith 11 = .ok (.getfield 60, 3) := by decide +kernel
theorem dX0_tiltWith_14 : decode cX0_tiltWith 14 = .ok (.imul, 1) := by decide +kernel
theorem dX0_tiltWith_15 : decode cX0_tiltWith 15 = .ok (.iadd, 1) := by decide +kernel
theorem dX0_tiltWith_16 : decode cX0_tiltWith 16 = .ok (.aload_n 0, 1) := by decide +kernel
theorem dX0_tiltWith_17 : decode cX0_tiltWith 17 = .ok (.getfield 9, 3) := by decide +kernel
theorem dX0_tiltWith_20 : decode cX0_tiltWith 20 = .ok (.iconst 2, 1) := by decide +kernel
theorem dX0_tiltWith_21 : decode cX0_tiltWith 21 = .ok (.iload_n 1, 1) := by decide +kernel
theorem dX0_tiltWith_22 : decode cX0_tiltWith 22 = .ok (.imul, 1) := by decide +kernel
theorem dX0_tiltWith_23 : decode cX0_tiltWith 23 = .ok (.iconst 1, 1) := by decide +kernel
theorem dX0_tiltWith_24 : decode cX0_tiltWith 24 = .ok (.iadd, 1) := by decide +kernel
theorem dX0_tiltWith_25 : decode cX0_tiltWith 25 = .ok (.iaload, 1) := by decide +kernel
theorem dX0_tiltWith_26 : decode cX0_tiltWith 26 = .ok (.iload_n 3, 1) := by decide +kernel
theorem dX0_tiltWith_27 : decode cX0_tiltWith 27 = .ok (.aload_n 0, 1) := by decide +kernel
theorem dX0_tiltWith_28 : decode cX0_tiltWith 28 = .ok (.getfield 60, 3) := by decide +kernel
theorem dX0_tiltWith_31 : decode cX0_tiltWith 31 = .ok (.imul, 1) := by decide +kernel
theorem dX0_tiltWith_32 : decode cX0_tiltWith 32 = .ok (.iadd, 1) := by decide +kernel
theorem dX0_tiltWith_33 : decode cX0_tiltWith 33 = .ok (.invokevirtual 40, 3) := by decide +kernel
theorem dX0_tiltWith_36 : decode cX0_tiltWith 36 = .ok (.ireturn, 1) := by decide +kernel
theorem dX1_init_0 : decode cX1_init 0 = .ok (.aload_n 0, 1) := by decide +kernel
theorem dX1_init_1 : decode cX1_init 1 = .ok (.invokespecial 3, 3) := by decide +kernel
theorem dX1_init_4 : decode cX1_init 4 = .ok (.aload_n 0, 1) := by decide +kernel
theorem dX1_init_5 : decode cX1_init 5 = .ok (.iconst 0, 1) := by decide +kernel
theorem dX1_init_6 : decode cX1_init 6 = .ok (.putfield 9, 3) := by decide +kernel
theorem dX1_init_9 : decode cX1_init 9 = .ok (.aload_n 0, 1) := by decide +kernel
theorem dX1_init_10 : decode cX1_init 10 = .ok (.sipush 300, 3) := by decide +kernel
theorem dX1_init_13 : decode cX1_init 13 = .ok (.newarray .int, 2) := by decide +kernel
theorem dX1_init_15 : decode cX1_init 15 = .ok (.putfield 15, 3) := by decide +kernel
theorem dX1_init_18 : decode cX1_init 18 = .ok (.return_, 1) := by decide +kernel
theorem dX1_copyFrom_0 : decode cX1_copyFrom 0 = .ok (.aload_n 0, 1) := by decide +kernel
theorem dX1_copyFrom_1 : decode cX1_copyFrom 1 = .ok (.aload_n 1, 1) := by decide +kernel
theorem dX1_copyFrom_2 : decode cX1_copyFrom 2 = .ok (.getfield 9, 3) := by decide +kernel
theorem dX1_copyFrom_5 : decode cX1_copyFrom 5 = .ok (.putfield 9, 3) := by decide +kernel
theorem dX1_copyFrom_8 : decode cX1_copyFrom 8 = .ok (.aload_n 1, 1) := by decide +kernel
theorem dX1_copyFrom_9 : decode cX1_copyFrom 9 = .ok (.getfield 15, 3) := by decide +kernel
theorem dX1_copyFrom_12 : decode cX1_copyFrom 12 = .ok (.iconst 0, 1) := by decide +kernel
theorem dX1_copyFrom_13 : decode cX1_copyFrom 13 = .ok (.aload_n 0, 1) := by decide +kernel
theorem dX1_copyFrom_14 : decode cX1_copyFrom 14 = .ok (.getfield 15, 3) := by decide +kernel
theorem dX1_copyFrom_17 : decode cX1_copyFrom 17 = .ok (.iconst 0, 1) := by decide +kernel
theorem dX1_copyFrom_18 : decode cX1_copyFrom 18 = .ok (.sipush 300, 3) := by decide +kernel
theorem dX1_copyFrom_21 : decode cX1_copyFrom 21 = .ok (.invokestatic 19, 3) := by decide +kernel
theorem dX1_copyFrom_24 : decode cX1_copyFrom 24 = .ok (.return_, 1) := by decide +kernel
theorem dX1_addRow_0 : decode cX1_addRow 0 = .ok (.aload_n 0, 1) := by decide +kernel
theorem dX1_addRow_1 : decode cX1_addRow 1 = .ok (.getfield 9, 3) := by decide +kernel
theorem dX1_addRow_4 : decode cX1_addRow 4 = .ok (.bipush 60, 2) := by decide +kernel
theorem dX1_addRow_6 : decode cX1_addRow 6 = .ok (.if_icmp .lt 25, 3) := by decide +kernel
theorem dX1_addRow_9 : decode cX1_addRow 9 = .ok (.aload_n 0, 1) := by decide +kernel
theorem dX1_addRow_10 : decode cX1_addRow 10 = .ok (.getfield 15, 3) := by decide +kernel
theorem dX1_addRow_13 : decode cX1_addRow 13 = .ok (.iconst 5, 1) := by decide +kernel
theorem dX1_addRow_14 : decode cX1_addRow 14 = .ok (.aload_n 0, 1) := by decide +kernel
theorem dX1_addRow_15 : decode cX1_addRow 15 = .ok (.getfield 15, 3) := by decide +kernel
theorem dX1_addRow_18 : decode cX1_addRow 18 = .ok (.iconst 0, 1) := by decide +kernel
theorem dX1_addRow_19 : decode cX1_addRow 19 = .ok (.sipush 295, 3) := by decide +kernel
theorem dX1_addRow_22 : decode cX1_addRow 22 = .ok (.invokestatic 19, 3) := by decide +kernel
theorem dX1_addRow_25 : decode cX1_addRow 25 = .ok (.aload_n 0, 1) := by decide +kernel
theorem dX1_addRow_26 : decode cX1_addRow 26 = .ok (.bipush 59, 2) := by decide +kernel
theorem dX1_addRow_28 : decode cX1_addRow 28 = .ok (.putfield 9, 3) := by decide +kernel
theorem dX1_addRow_31 : decode cX1_addRow 31 = .ok (.aload_n 0, 1) := by decide +kernel
theorem dX1_addRow_32 : decode cX1_addRow 32 = .ok (.getfield 9, 3) := by decide +kernel
theorem dX1_addRow_35 : decode cX1_addRow 35 = .ok (.iconst 5, 1) := by decide +kernel
theorem dX1_addRow_36 : decode cX1_addRow 36 = .ok (.imul, 1) := by decide +kernel
theorem dX1_addRow_37 : decode cX1_addRow 37 = .ok (.istore 5, 2) := by decide +kernel
theorem dX1_addRow_39 : decode cX1_addRow 39 = .ok (.aload_n 0, 1) := by decide +kernel
theorem dX1_addRow_40 : decode cX1_addRow 40 = .ok (.getfield 15, 3) := by decide +kernel
theorem dX1_addRow_43 : decode cX1_addRow 43 = .ok (.iload 5, 2) := by decide +kernel
theorem dX1_addRow_45 : decode cX1_addRow 45 = .ok (.iload_n 1, 1) := by decide +kernel
theorem dX1_addRow_46 : decode cX1_addRow 46 = .ok (.iastore, 1) := by decide +kernel
theorem dX1_addRow_47 : decode cX1_addRow 47 = .ok (.aload_n 0, 1) := by decide +kernel
theorem dX1_addRow_48 : decode cX1_addRow 48 = .ok (.getfield 15, 3) := by decide +kernel
theorem dX1_addRow_51 : decode cX1_addRow 51 = .ok (.iload 5, 2) := by decide +kernel
theorem dX1_addRow_53 : decode cX1_addRow 53 = .ok (.iconst 1, 1) := by decide +kernel
theorem dX1_addRow_54 : decode cX1_addRow 54 = .ok (.iadd, 1) := by decide +kernel
theorem dX1_addRow_55 : decode cX1_addRow 55 = .ok (.iload_n 2, 1) := by decide +kernel
theorem dX1_addRow_56 : decode cX1_addRow 56 = .ok (.iastore, 1) := by decide +kernel
theorem dX1_addRow_57 : decode cX1_addRow 57 = .ok (.aload_n 0, 1) := by decide +kernel
theorem dX1_addRow_58 : decode cX1_addRow 58 = .ok (.getfield 15, 3) := by decide +kernel
theorem dX1_addRow_61 : decode cX1_addRow 61 = .ok (.iload 5, 2) := by decide +kernel
theorem dX1_addRow_63 : decode cX1_addRow 63 = .ok (.iconst 2, 1) := by decide +kernel
theorem dX1_addRow_64 : decode cX1_addRow 64 = .ok (.iadd, 1) := by decide +kernel
theorem dX1_addRow_65 : decode cX1_addRow 65 = .ok (.iload_n 3, 1) := by decide +kernel
theorem dX1_addRow_66 : decode cX1_addRow 66 = .ok (.iastore, 1) := by decide +kernel
theorem dX1_addRow_67 : decode cX1_addRow 67 = .ok (.aload_n 0, 1) := by decide +kernel
theorem dX1_addRow_68 : decode cX1_addRow 68 = .ok (.getfield 15, 3) := by decide +kernel
theorem dX1_addRow_71 : decode cX1_addRow 71 = .ok (.iload 5, 2) := by decide +kernel
theorem dX1_addRow_73 : decode cX1_addRow 73 = .ok (.iconst 3, 1) := by decide +kernel
theorem dX1_addRow_74 : decode cX1_addRow 74 = .ok (.iadd, 1) := by decide +kernel
theorem dX1_addRow_75 : decode cX1_addRow 75 = .ok (.iload 4, 2) := by decide +kernel
theorem dX1_addRow_77 : decode cX1_addRow 77 = .ok (.iastore, 1) := by decide +kernel
theorem dX1_addRow_78 : decode cX1_addRow 78 = .ok (.aload_n 0, 1) := by decide +kernel
theorem dX1_addRow_79 : decode cX1_addRow 79 = .ok (.getfield 15, 3) := by decide +kernel
theorem dX1_addRow_82 : decode cX1_addRow 82 = .ok (.iload 5, 2) := by decide +kernel
theorem dX1_addRow_84 : decode cX1_addRow 84 = .ok (.iconst 4, 1) := by decide +kernel
theorem dX1_addRow_85 : decode cX1_addRow 85 = .ok (.iadd, 1) := by decide +kernel
theorem dX1_addRow_86 : decode cX1_addRow 86 = .ok (.iload 4, 2) := by decide +kernel
theorem dX1_addRow_88 : decode cX1_addRow 88 = .ok (.iconst (-1), 1) := by decide +kernel
theorem dX1_addRow_89 : decode cX1_addRow 89 = .ok (.if_icmp .ne 7, 3) := by decide +kernel
theorem dX1_addRow_92 : decode cX1_addRow 92 = .ok (.iconst 1, 1) := by decide +kernel
theorem dX1_addRow_93 : decode cX1_addRow 93 = .ok (.goto 4, 3) := by decide +kernel
theorem dX1_addRow_96 : decode cX1_addRow 96 = .ok (.iconst 0, 1) := by decide +kernel
theorem dX1_addRow_97 : decode cX1_addRow 97 = .ok (.iastore, 1) := by decide +kernel
theorem dX1_addRow_98 : decode cX1_addRow 98 = .ok (.aload_n 0, 1) := by decide +kernel
theorem dX1_addRow_99 : decode cX1_addRow 99 = .ok (.dup, 1) := by decide +kernel
theorem dX1_addRow_100 : decode cX1_addRow 100 = .ok (.getfield 9, 3) := by decide +kernel
theorem dX1_addRow_103 : decode cX1_addRow 103 = .ok (.iconst 1, 1) := by decide +kernel
theorem dX1_addRow_104 : decode cX1_addRow 104 = .ok (.iadd, 1) := by decide +kernel
theorem dX1_addRow_105 : decode cX1_addRow 105 = .ok (.putfield 9, 3) := by decide +kernel
theorem dX1_addRow_108 : decode cX1_addRow 108 = .ok (.return_, 1) := by decide +kernel
theorem dX1_cell_0 : decode cX1_cell 0 = .ok (.iload_n 1, 1) := by decide +kernel
theorem dX1_cell_1 : decode cX1_cell 1 = .ok (.ifCond .lt 20, 3) := by decide +kernel
theorem dX1_cell_4 : decode cX1_cell 4 = .ok (.iload_n 1, 1) := by decide +kernel
theorem dX1_cell_5 : decode cX1_cell 5 = .ok (.aload_n 0, 1) := by decide +kernel
theorem dX1_cell_6 : decode cX1_cell 6 = .ok (.getfield 9, 3) := by decide +kernel
theorem dX1_cell_9 : decode cX1_cell 9 = .ok (.if_icmp .ge 12, 3) := by decide +kernel
theorem dX1_cell_12 : decode cX1_cell 12 = .ok (.iload_n 2, 1) := by decide +kernel
theorem dX1_cell_13 : decode cX1_cell 13 = .ok (.ifCond .lt 8, 3) := by decide +kernel
theorem dX1_cell_16 : decode cX1_cell 16 = .ok (.iload_n 2, 1) := by decide +kernel
theorem dX1_cell_17 : decode cX1_cell 17 = .ok (.iconst 5, 1) := by decide +kernel
theorem dX1_cell_18 : decode cX1_cell 18 = .ok (.if_icmp .lt 6, 3) := by decide +kernel
theorem dX1_cell_21 : decode cX1_cell 21 = .ok (.bipush (-2), 2) := by decide +kernel
theorem dX1_cell_23 : decode cX1_cell 23 = .ok (.ireturn, 1) := by decide +kernel
theorem dX1_cell_24 : decode cX1_cell 24 = .ok (.aload_n 0, 1) := by decide +kernel
theorem dX1_cell_25 : decode cX1_cell 25 = .ok (.getfield 15, 3) := by decide +kernel
theorem dX1_cell_28 : decode cX1_cell 28 = .ok (.aload_n 0, 1) := by decide +kernel
theorem dX1_cell_29 : decode cX1_cell 29 = .ok (.getfield 9, 3) := by decide +kernel
theorem dX1_cell_32 : decode cX1_cell 32 = .ok (.iconst 1, 1) := by decide +kernel
theorem dX1_cell_33 : decode cX1_cell 33 = .ok (.isub, 1) := by decide +kernel
theorem dX1_cell_34 : decode cX1_cell 34 = .ok (.iload_n 1, 1) := by decide +kernel
theorem dX1_cell_35 : decode cX1_cell 35 = .ok (.isub, 1) := by decide +kernel
theorem dX1_cell_36 : decode cX1_cell 36 = .ok (.iconst 5, 1) := by decide +kernel
theorem dX1_cell_37 : decode cX1_cell 37 = .ok (.imul, 1) := by decide +kernel
theorem dX1_cell_38 : decode cX1_cell 38 = .ok (.iload_n 2, 1) := by decide +kernel
theorem dX1_cell_39 : decode cX1_cell 39 = .ok (.iadd, 1) := by decide +kernel
theorem dX1_cell_40 : decode cX1_cell 40 = .ok (.iaload, 1) := by decide +kernel
theorem dX1_cell_41 : decode cX1_cell 41 = .ok (.ireturn, 1) := by decide +kernel
theorem dX1_rowsOf_0 : decode cX1_rowsOf 0 = .ok (.iconst 0, 1) := by decide +kernel
theorem dX1_rowsOf_1 : decode cX1_rowsOf 1 = .ok (.istore_n 2, 1) := by decide +kernel
theorem dX1_rowsOf_2 : decode cX1_rowsOf 2 = .ok (.iconst 0, 1) := by decide +kernel
theorem dX1_rowsOf_3 : decode cX1_rowsOf 3 = .ok (.istore_n 3, 1) := by decide +kernel
theorem dX1_rowsOf_4 : decode cX1_rowsOf 4 = .ok (.iload_n 3, 1) := by decide +kernel
theorem dX1_rowsOf_5 : decode cX1_rowsOf 5 = .ok (.aload_n 0, 1) := by decide +kernel
theorem dX1_rowsOf_6 : decode cX1_rowsOf 6 = .ok (.getfield 9, 3) := by decide +kernel
theorem dX1_rowsOf_9 : decode cX1_rowsOf 9 = .ok (.if_icmp .ge 22, 3) := by decide +kernel
theorem dX1_rowsOf_12 : decode cX1_rowsOf 12 = .ok (.aload_n 0, 1) := by decide +kernel
theorem dX1_rowsOf_13 : decode cX1_rowsOf 13 = .ok (.iload_n 3, 1) := by decide +kernel
theorem dX1_rowsOf_14 : decode cX1_rowsOf 14 = .ok (.iconst 1, 1) := by decide +kernel
theorem dX1_rowsOf_15 : decode cX1_rowsOf 15 = .ok (.invokevirtual 25, 3) := by decide +kernel
theorem dX1_rowsOf_18 : decode cX1_rowsOf 18 = .ok (.iload_n 1, 1) := by decide +kernel
theorem dX1_rowsOf_19 : decode cX1_rowsOf 19 = .ok (.if_icmp .ne 6, 3) := by decide +kernel
theorem dX1_rowsOf_22 : decode cX1_rowsOf 22 = .ok (.iinc 2 1, 3) := by decide +kernel
theorem dX1_rowsOf_25 : decode cX1_rowsOf 25 = .ok (.iinc 3 1, 3) := by decide +kernel
theorem dX1_rowsOf_28 : decode cX1_rowsOf 28 = .ok (.goto (-24), 3) := by decide +kernel
theorem dX1_rowsOf_31 : decode cX1_rowsOf 31 = .ok (.iload_n 2, 1) := by decide +kernel
theorem dX1_rowsOf_32 : decode cX1_rowsOf 32 = .ok (.ireturn, 1) := by decide +kernel
theorem dX1_latestWeekOf_0 : decode cX1_latestWeekOf 0 = .ok (.iconst 0, 1) := by decide +kernel
theorem dX1_latestWeekOf_1 : decode cX1_latestWeekOf 1 = .ok (.istore_n 2, 1) := by decide +kernel
theorem dX1_latestWeekOf_2 : decode cX1_latestWeekOf 2 = .ok (.iload_n 2, 1) := by decide +kernel
theorem dX1_latestWeekOf_3 : decode cX1_latestWeekOf 3 = .ok (.aload_n 0, 1) := by decide +kernel
theorem dX1_latestWeekOf_4 : decode cX1_latestWeekOf 4 = .ok (.getfield 9, 3) := by decide +kernel
theorem dX1_latestWeekOf_7 : decode cX1_latestWeekOf 7 = .ok (.if_icmp .ge 26, 3) := by decide +kernel
theorem dX1_latestWeekOf_10 : decode cX1_latestWeekOf 10 = .ok (.aload_n 0, 1) := by decide +kernel
theorem dX1_latestWeekOf_11 : decode cX1_latestWeekOf 11 = .ok (.iload_n 2, 1) := by decide +kernel
theorem dX1_latestWeekOf_12 : decode cX1_latestWeekOf 12 = .ok (.iconst 1, 1) := by decide +kernel
theorem dX1_latestWeekOf_13 : decode cX1_latestWeekOf 13 = .ok (.invokevirtual 25, 3) := by decide +kernel
theorem dX1_latestWeekOf_16 : decode cX1_latestWeekOf 16 = .ok (.iload_n 1, 1) := by decide +kernel
theorem dX1_latestWeekOf_17 : decode cX1_latestWeekOf 17 = .ok (.if_icmp .ne 10, 3) := by decide +kernel
theorem dX1_latestWeekOf_20 : decode cX1_latestWeekOf 20 = .ok (.aload_n 0, 1) := by decide +kernel
theorem dX1_latestWeekOf_21 : decode cX1_latestWeekOf 21 = .ok (.iload_n 2, 1) := by decide +kernel
theorem dX1_latestWeekOf_22 : decode cX1_latestWeekOf 22 = .ok (.iconst 0, 1) := by decide +kernel
theorem dX1_latestWeekOf_23 : decode cX1_latestWeekOf 23 = .ok (.invokevirtual 25, 3) := by decide +kernel
theorem dX1_latestWeekOf_26 : decode cX1_latestWeekOf 26 = .ok (.ireturn, 1) := by decide +kernel
theorem dX1_latestWeekOf_27 : decode cX1_latestWeekOf 27 = .ok (.iinc 2 1, 3) := by decide +kernel
theorem dX1_latestWeekOf_30 : decode cX1_latestWeekOf 30 = .ok (.goto (-28), 3) := by decide +kernel
theorem dX1_latestWeekOf_33 : decode cX1_latestWeekOf 33 = .ok (.iconst (-1), 1) := by decide +kernel
theorem dX1_latestWeekOf_34 : decode cX1_latestWeekOf 34 = .ok (.ireturn, 1) := by decide +kernel
theorem dX2_init_0 : decode cX2_init 0 = .ok (.aload_n 0, 1) := by decide +kernel
theorem dX2_init_1 : decode cX2_init 1 = .ok (.invokespecial 3, 3) := by decide +kernel
theorem dX2_init_4 : decode cX2_init 4 = .ok (.aload_n 0, 1) := by decide +kernel
theorem dX2_init_5 : decode cX2_init 5 = .ok (.iconst 0, 1) := by decide +kernel
theorem dX2_init_6 : decode cX2_init 6 = .ok (.putfield 9, 3) := by decide +kernel
theorem dX2_init_9 : decode cX2_init 9 = .ok (.aload_n 0, 1) := by decide +kernel
theorem dX2_init_10 : decode cX2_init 10 = .ok (.iconst 0, 1) := by decide +kernel
theorem dX2_init_11 : decode cX2_init 11 = .ok (.putfield 15, 3) := by decide +kernel
theorem dX2_init_14 : decode cX2_init 14 = .ok (.aload_n 0, 1) := by decide +kernel
theorem dX2_init_15 : decode cX2_init 15 = .ok (.sipush 1024, 3) := by decide +kernel
theorem dX2_init_18 : decode cX2_init 18 = .ok (.newarray .int, 2) := by decide +kernel
theorem dX2_init_20 : decode cX2_init 20 = .ok (.putfield 18, 3) := by decide +kernel
theorem dX2_init_23 : decode cX2_init 23 = .ok (.aload_n 0, 1) := by decide +kernel
theorem dX2_init_24 : decode cX2_init 24 = .ok (.bipush 11, 2) := by decide +kernel
theorem dX2_init_26 : decode cX2_init 26 = .ok (.newarray .int, 2) := by decide +kernel
theorem dX2_init_28 : decode cX2_init 28 = .ok (.putfield 22, 3) := by decide +kernel
theorem dX2_init_31 : decode cX2_init 31 = .ok (.return_, 1) := by decide +kernel
theorem dX2_isTold_0 : decode cX2_isTold 0 = .ok (.iload_n 1, 1) := by decide +kernel
theorem dX2_isTold_1 : decode cX2_isTold 1 = .ok (.iconst 2, 1) := by decide +kernel
theorem dX2_isTold_2 : decode cX2_isTold 2 = .ok (.irem, 1) := by decide +kernel
theorem dX2_isTold_3 : decode cX2_isTold 3 = .ok (.ifCond .ne 9, 3) := by decide +kernel
theorem dX2_isTold_6 : decode cX2_isTold 6 = .ok (.iload_n 1, 1) := by decide +kernel
theorem dX2_isTold_7 : decode cX2_isTold 7 = .ok (.bipush 40, 2) := by decide +kernel
theorem dX2_isTold_9 : decode cX2_isTold 9 = .ok (.if_icmp .le 5, 3) := by decide +kernel
theorem dX2_isTold_12 : decode cX2_isTold 12 = .ok (.iconst 0, 1) := by decide +kernel
theorem dX2_isTold_13 : decode cX2_isTold 13 = .ok (.ireturn, 1) := by decide +kernel
theorem dX2_isTold_14 : decode cX2_isTold 14 = .ok (.iconst 0, 1) := by decide +kernel
theorem dX2_isTold_15 : decode cX2_isTold 15 = .ok (.istore_n 2, 1) := by decide +kernel
theorem dX2_isTold_16 : decode cX2_isTold 16 = .ok (.iload_n 2, 1) := by decide +kernel
theorem dX2_isTold_17 : decode cX2_isTold 17 = .ok (.iconst 1, 1) := by decide +kernel
theorem dX2_isTold_18 : decode cX2_isTold 18 = .ok (.iadd, 1) := by decide +kernel
theorem dX2_isTold_19 : decode cX2_isTold 19 = .ok (.iload_n 1, 1) := by decide +kernel
theorem dX2_isTold_20 : decode cX2_isTold 20 = .ok (.if_icmp .ge 65, 3) := by decide +kernel
theorem dX2_isTold_23 : decode cX2_isTold 23 = .ok (.aload_n 0, 1) := by decide +kernel
theorem dX2_isTold_24 : decode cX2_isTold 24 = .ok (.iload_n 2, 1) := by decide +kernel
theorem dX2_isTold_25 : decode cX2_isTold 25 = .ok (.baload, 1) := by decide +kernel
theorem dX2_isTold_26 : decode cX2_isTold 26 = .ok (.ifCond .lt 15, 3) := by decide +kernel
theorem dX2_isTold_29 : decode cX2_isTold 29 = .ok (.aload_n 0, 1) := by decide +kernel
theorem dX2_isTold_30 : decode cX2_isTold 30 = .ok (.iload_n 2, 1) := by decide +kernel
theorem dX2_isTold_31 : decode cX2_isTold 31 = .ok (.baload, 1) := by decide +kernel
theorem dX2_isTold_32 : decode cX2_isTold 32 = .ok (.bipush 20, 2) := by decide +kernel
theorem dX2_isTold_34 : decode cX2_isTold 34 = .ok (.if_icmp .gt 7, 3) := by decide +kernel
theorem dX2_isTold_37 : decode cX2_isTold 37 = .ok (.iconst 1, 1) := by decide +kernel
theorem dX2_isTold_38 : decode cX2_isTold 38 = .ok (.goto 4, 3) := by decide +kernel
theorem dX2_isTold_41 : decode cX2_isTold 41 = .ok (.iconst 0, 1) := by decide +kernel
theorem dX2_isTold_42 : decode cX2_isTold 42 = .ok (.istore_n 3, 1) := by decide +kernel
theorem dX2_isTold_43 : decode cX2_isTold 43 = .ok (.aload_n 0, 1) := by decide +kernel
theorem dX2_isTold_44 : decode cX2_isTold 44 = .ok (.iload_n 2, 1) := by decide +kernel
theorem dX2_isTold_45 : decode cX2_isTold 45 = .ok (.iconst 1, 1) := by decide +kernel
theorem dX2_isTold_46 : decode cX2_isTold 46 = .ok (.iadd, 1) := by decide +kernel
theorem dX2_isTold_47 : decode cX2_isTold 47 = .ok (.baload, 1) := by decide +kernel
theorem dX2_isTold_48 : decode cX2_isTold 48 = .ok (.ifCond .lt 17, 3) := by decide +kernel
theorem dX2_isTold_51 : decode cX2_isTold 51 = .ok (.aload_n 0, 1) := by decide +kernel
theorem dX2_isTold_52 : decode cX2_isTold 52 = .ok (.iload_n 2, 1) := by decide +kernel
theorem dX2_isTold_53 : decode cX2_isTold 53 = .ok (.iconst 1, 1) := by decide +kernel
theorem dX2_isTold_54 : decode cX2_isTold 54 = .ok (.iadd, 1) := by decide +kernel
theorem dX2_isTold_55 : decode cX2_isTold 55 = .ok (.baload, 1) := by decide +kernel
theorem dX2_isTold_56 : decode cX2_isTold 56 = .ok (.bipush 10, 2) := by decide +kernel
theorem dX2_isTold_58 : decode cX2_isTold 58 = .ok (.if_icmp .gt 7, 3) := by decide +kernel
theorem dX2_isTold_61 : decode cX2_isTold 61 = .ok (.iconst 1, 1) := by decide +kernel
theorem dX2_isTold_62 : decode cX2_isTold 62 = .ok (.goto 4, 3) := by decide +kernel
theorem dX2_isTold_65 : decode cX2_isTold 65 = .ok (.iconst 0, 1) := by decide +kernel
theorem dX2_isTold_66 : decode cX2_isTold 66 = .ok (.istore 4, 2) := by decide +kernel
theorem dX2_isTold_68 : decode cX2_isTold 68 = .ok (.iload_n 3, 1) := by decide +kernel
theorem dX2_isTold_69 : decode cX2_isTold 69 = .ok (.ifCond .eq 8, 3) := by decide +kernel
theorem dX2_isTold_72 : decode cX2_isTold 72 = .ok (.iload 4, 2) := by decide +kernel
theorem dX2_isTold_74 : decode cX2_isTold 74 = .ok (.ifCond .ne 5, 3) := by decide +kernel
theorem dX2_isTold_77 : decode cX2_isTold 77 = .ok (.iconst 0, 1) := by decide +kernel
theorem dX2_isTold_78 : decode cX2_isTold 78 = .ok (.ireturn, 1) := by decide +kernel
theorem dX2_isTold_79 : decode cX2_isTold 79 = .ok (.iinc 2 2, 3) := by decide +kernel
theorem dX2_isTold_82 : decode cX2_isTold 82 = .ok (.goto (-66), 3) := by decide +kernel
theorem dX2_isTold_85 : decode cX2_isTold 85 = .ok (.iconst 1, 1) := by decide +kernel
theorem dX2_isTold_86 : decode cX2_isTold 86 = .ok (.ireturn, 1) := by decide +kernel
theorem dX2_search_0 : decode cX2_search 0 = .ok (.aload_n 1, 1) := by decide +kernel
theorem dX2_search_1 : decode cX2_search 1 = .ok (.invokevirtual 25, 3) := by decide +kernel
theorem dX2_search_4 : decode cX2_search 4 = .ok (.istore 5, 2) := by decide +kernel
theorem dX2_search_6 : decode cX2_search 6 = .ok (.aload_n 0, 1) := by decide +kernel
theorem dX2_search_7 : decode cX2_search 7 = .ok (.iconst 0, 1) := by decide +kernel
theorem dX2_search_8 : decode cX2_search 8 = .ok (.putfield 9, 3) := by decide +kernel
theorem dX2_search_11 : decode cX2_search 11 = .ok (.aload_n 0, 1) := by decide +kernel
theorem dX2_search_12 : decode cX2_search 12 = .ok (.iload 5, 2) := by decide +kernel
theorem dX2_search_14 : decode cX2_search 14 = .ok (.putfield 15, 3) := by decide +kernel
theorem dX2_search_17 : decode cX2_search 17 = .ok (.iconst 0, 1) := by decide +kernel
theorem dX2_search_18 : decode cX2_search 18 = .ok (.istore 6, 2) := by decide +kernel
theorem dX2_search_20 : decode cX2_search 20 = .ok (.iload 6, 2) := by decide +kernel
theorem dX2_search_22 : decode cX2_search 22 = .ok (.iload 5, 2) := by decide +kernel
theorem dX2_search_24 : decode cX2_search 24 = .ok (.if_icmp .gt 85, 3) := by decide +kernel
theorem dX2_search_27 : decode cX2_search 27 = .ok (.iload 6, 2) := by decide +kernel
theorem dX2_search_29 : decode cX2_search 29 = .ok (.iload 5, 2) := by decide +kernel
theorem dX2_search_31 : decode cX2_search 31 = .ok (.iand, 1) := by decide +kernel
theorem dX2_search_32 : decode cX2_search 32 = .ok (.iload 6, 2) := by decide +kernel
theorem dX2_search_34 : decode cX2_search 34 = .ok (.if_icmp .eq 6, 3) := by decide +kernel
theorem dX2_search_37 : decode cX2_search 37 = .ok (.goto 66, 3) := by decide +kernel
theorem dX2_search_40 : decode cX2_search 40 = .ok (.aload_n 1, 1) := by decide +kernel
theorem dX2_search_41 : decode cX2_search 41 = .ok (.iload 6, 2) := by decide +kernel
theorem dX2_search_43 : decode cX2_search 43 = .ok (.invokevirtual 31, 3) := by decide +kernel
theorem dX2_search_46 : decode cX2_search 46 = .ok (.istore 7, 2) := by decide +kernel
theorem dX2_search_48 : decode cX2_search 48 = .ok (.aload_n 1, 1) := by decide +kernel
theorem dX2_search_49 : decode cX2_search 49 = .ok (.iload_n 2, 1) := by decide +kernel
theorem dX2_search_50 : decode cX2_search 50 = .ok (.iload 7, 2) := by decide +kernel
theorem dX2_search_52 : decode cX2_search 52 = .ok (.aload_n 3, 1) := by decide +kernel
theorem dX2_search_53 : decode cX2_search 53 = .ok (.iload 4, 2) := by decide +kernel
theorem dX2_search_55 : decode cX2_search 55 = .ok (.invokestatic 35, 3) := by decide +kernel
theorem dX2_search_58 : decode cX2_search 58 = .ok (.ifCond .eq 45, 3) := by decide +kernel
theorem dX2_search_61 : decode cX2_search 61 = .ok (.aload_n 0, 1) := by decide +kernel
theorem dX2_search_62 : decode cX2_search 62 = .ok (.getfield 9, 3) := by decide +kernel
theorem dX2_search_65 : decode cX2_search 65 = .ok (.sipush 1024, 3) := by decide +kernel
theorem dX2_search_68 : decode cX2_search 68 = .ok (.if_icmp .ge 35, 3) := by decide +kernel
theorem dX2_search_71 : decode cX2_search 71 = .ok (.aload_n 0, 1) := by decide +kernel
theorem dX2_search_72 : decode cX2_search 72 = .ok (.getfield 18, 3) := by decide +kernel
theorem dX2_search_75 : decode cX2_search 75 = .ok (.aload_n 0, 1) := by decide +kernel
theorem dX2_search_76 : decode cX2_search 76 = .ok (.getfield 9, 3) := by decide +kernel
theorem dX2_search_79 : decode cX2_search 79 = .ok (.iload 7, 2) := by decide +kernel
theorem dX2_search_81 : decode cX2_search 81 = .ok (.iastore, 1) := by decide +kernel
theorem dX2_search_82 : decode cX2_search 82 = .ok (.aload_n 0, 1) := by decide +kernel
theorem dX2_search_83 : decode cX2_search 83 = .ok (.dup, 1) := by decide +kernel
theorem dX2_search_84 : decode cX2_search 84 = .ok (.getfield 9, 3) := by decide +kernel
theorem dX2_search_87 : decode cX2_search 87 = .ok (.iconst 1, 1) := by decide +kernel
theorem dX2_search_88 : decode cX2_search 88 = .ok (.iadd, 1) := by decide +kernel
theorem dX2_search_89 : decode cX2_search 89 = .ok (.putfield 9, 3) := by decide +kernel
theorem dX2_search_92 : decode cX2_search 92 = .ok (.aload_n 0, 1) := by decide +kernel
theorem dX2_search_93 : decode cX2_search 93 = .ok (.dup, 1) := by decide +kernel
theorem dX2_search_94 : decode cX2_search 94 = .ok (.getfield 15, 3) := by decide +kernel
theorem dX2_search_97 : decode cX2_search 97 = .ok (.iload 6, 2) := by decide +kernel
theorem dX2_search_99 : decode cX2_search 99 = .ok (.iand, 1) := by decide +kernel
theorem dX2_search_100 : decode cX2_search 100 = .ok (.putfield 15, 3) := by decide +kernel
theorem dX2_search_103 : decode cX2_search 103 = .ok (.iinc 6 1, 3) := by decide +kernel
theorem dX2_search_106 : decode cX2_search 106 = .ok (.goto (-86), 3) := by decide +kernel
theorem dX2_search_109 : decode cX2_search 109 = .ok (.aload_n 0, 1) := by decide +kernel
theorem dX2_search_110 : decode cX2_search 110 = .ok (.getfield 9, 3) := by decide +kernel
theorem dX2_search_113 : decode cX2_search 113 = .ok (.ifCond .ne 8, 3) := by decide +kernel
theorem dX2_search_116 : decode cX2_search 116 = .ok (.aload_n 0, 1) := by decide +kernel
theorem dX2_search_117 : decode cX2_search 117 = .ok (.iconst 0, 1) := by decide +kernel
theorem dX2_search_118 : decode cX2_search 118 = .ok (.putfield 15, 3) := by decide +kernel
theorem dX2_search_121 : decode cX2_search 121 = .ok (.return_, 1) := by decide +kernel
theorem dX2_agrees_0 : decode cX2_agrees 0 = .ok (.iconst 0, 1) := by decide +kernel
theorem dX2_agrees_1 : decode cX2_agrees 1 = .ok (.istore 5, 2) := by decide +kernel
theorem dX2_agrees_3 : decode cX2_agrees 3 = .ok (.iload 5, 2) := by decide +kernel
theorem dX2_agrees_5 : decode cX2_agrees 5 = .ok (.iconst 1, 1) := by decide +kernel
theorem dX2_agrees_6 : decode cX2_agrees 6 = .ok (.iadd, 1) := by decide +kernel
theorem dX2_agrees_7 : decode cX2_agrees 7 = .ok (.iload 4, 2) := by decide +kernel
theorem dX2_agrees_9 : decode cX2_agrees 9 = .ok (.if_icmp .ge 30, 3) := by decide +kernel
theorem dX2_agrees_12 : decode cX2_agrees 12 = .ok (.aload_n 0, 1) := by decide +kernel
theorem dX2_agrees_13 : decode cX2_agrees 13 = .ok (.iload_n 1, 1) := by decide +kernel
theorem dX2_agrees_14 : decode cX2_agrees 14 = .ok (.iload_n 2, 1) := by decide +kernel
theorem dX2_agrees_15 : decode cX2_agrees 15 = .ok (.aload_n 3, 1) := by decide +kernel
theorem dX2_agrees_16 : decode cX2_agrees 16 = .ok (.iload 5, 2) := by decide +kernel
theorem dX2_agrees_18 : decode cX2_agrees 18 = .ok (.baload, 1) := by decide +kernel
theorem dX2_agrees_19 : decode cX2_agrees 19 = .ok (.invokestatic 39, 3) := by decide +kernel
theorem dX2_agrees_22 : decode cX2_agrees 22 = .ok (.aload_n 3, 1) := by decide +kernel
theorem dX2_agrees_23 : decode cX2_agrees 23 = .ok (.iload 5, 2) := by decide +kernel
theorem dX2_agrees_25 : decode cX2_agrees 25 = .ok (.iconst 1, 1) := by decide +kernel
theorem dX2_agrees_26 : decode cX2_agrees 26 = .ok (.iadd, 1) := by decide +kernel
theorem dX2_agrees_27 : decode cX2_agrees 27 = .ok (.baload, 1) := by decide +kernel
theorem dX2_agrees_28 : decode cX2_agrees 28 = .ok (.if_icmp .eq 5, 3) := by decide +kernel
theorem dX2_agrees_31 : decode cX2_agrees 31 = .ok (.iconst 0, 1) := by decide +kernel
theorem dX2_agrees_32 : decode cX2_agrees 32 = .ok (.ireturn, 1) := by decide +kernel
theorem dX2_agrees_33 : decode cX2_agrees 33 = .ok (.iinc 5 2, 3) := by decide +kernel
theorem dX2_agrees_36 : decode cX2_agrees 36 = .ok (.goto (-33), 3) := by decide +kernel
theorem dX2_agrees_39 : decode cX2_agrees 39 = .ok (.iconst 1, 1) := by decide +kernel
theorem dX2_agrees_40 : decode cX2_agrees 40 = .ok (.ireturn, 1) := by decide +kernel
theorem dX2_heightWith_0 : decode cX2_heightWith 0 = .ok (.aload_n 0, 1) := by decide +kernel
theorem dX2_heightWith_1 : decode cX2_heightWith 1 = .ok (.getfield 43, 3) := by decide +kernel
theorem dX2_heightWith_4 : decode cX2_heightWith 4 = .ok (.iconst 2, 1) := by decide +kernel
theorem dX2_heightWith_5 : decode cX2_heightWith 5 = .ok (.iload_n 1, 1) := by decide +kernel
theorem dX2_heightWith_6 : decode cX2_heightWith 6 = .ok (.imul, 1) := by decide +kernel
theorem dX2_heightWith_7 : decode cX2_heightWith 7 = .ok (.iaload, 1) := by decide +kernel
theorem dX2_heightWith_8 : decode cX2_heightWith 8 = .ok (.iload_n 2, 1) := by decide +kernel
theorem dX2_heightWith_9 : decode cX2_heightWith 9 = .ok (.iadd, 1) := by decide +kernel
theorem dX2_heightWith_10 : decode cX2_heightWith 10 = .ok (.iconst 5, 1) := by decide +kernel
theorem dX2_heightWith_11 : decode cX2_heightWith 11 = .ok (.iload_n 3, 1) := by decide +kernel
theorem dX2_heightWith_12 : decode cX2_heightWith 12 = .ok (.imul, 1) := by decide +kernel
theorem dX2_heightWith_13 : decode cX2_heightWith 13 = .ok (.iadd, 1) := by decide +kernel
theorem dX2_heightWith_14 : decode cX2_heightWith 14 = .ok (.istore 4, 2) := by decide +kernel
theorem dX2_heightWith_16 : decode cX2_heightWith 16 = .ok (.iconst 5, 1) := by decide +kernel
theorem dX2_heightWith_17 : decode cX2_heightWith 17 = .ok (.aload_n 0, 1) := by decide +kernel
theorem dX2_heightWith_18 : decode cX2_heightWith 18 = .ok (.iload 4, 2) := by decide +kernel
theorem dX2_heightWith_20 : decode cX2_heightWith 20 = .ok (.aload_n 0, 1) := by decide +kernel
theorem dX2_heightWith_21 : decode cX2_heightWith 21 = .ok (.getfield 43, 3) := by decide +kernel
theorem dX2_heightWith_24 : decode cX2_heightWith 24 = .ok (.iconst 2, 1) := by decide +kernel
theorem dX2_heightWith_25 : decode cX2_heightWith 25 = .ok (.iload_n 1, 1) := by decide +kernel
theorem dX2_heightWith_26 : decode cX2_heightWith 26 = .ok (.imul, 1) := by decide +kernel
theorem dX2_heightWith_27 : decode cX2_heightWith 27 = .ok (.iconst 1, 1) := by decide +kernel
theorem dX2_heightWith_28 : decode cX2_heightWith 28 = .ok (.iadd, 1) := by decide +kernel
theorem dX2_heightWith_29 : decode cX2_heightWith 29 = .ok (.iaload, 1) := by decide +kernel
theorem dX2_heightWith_30 : decode cX2_heightWith 30 = .ok (.invokevirtual 46, 3) := by decide +kernel
theorem dX2_heightWith_33 : decode cX2_heightWith 33 = .ok (.iadd, 1) := by decide +kernel
theorem dX2_heightWith_34 : decode cX2_heightWith 34 = .ok (.ireturn, 1) := by decide +kernel
theorem dX2_bestAsk_0 : decode cX2_bestAsk 0 = .ok (.iconst (-1), 1) := by decide +kernel
theorem dX2_bestAsk_1 : decode cX2_bestAsk 1 = .ok (.istore_n 3, 1) := by decide +kernel
theorem dX2_bestAsk_2 : decode cX2_bestAsk 2 = .ok (.sipush 1025, 3) := by decide +kernel
theorem dX2_bestAsk_5 : decode cX2_bestAsk 5 = .ok (.istore 4, 2) := by decide +kernel
theorem dX2_bestAsk_7 : decode cX2_bestAsk 7 = .ok (.iconst 0, 1) := by decide +kernel
theorem dX2_bestAsk_8 : decode cX2_bestAsk 8 = .ok (.istore 5, 2) := by decide +kernel
theorem dX2_bestAsk_10 : decode cX2_bestAsk 10 = .ok (.iload 5, 2) := by decide +kernel
theorem dX2_bestAsk_12 : decode cX2_bestAsk 12 = .ok (.bipush 20, 2) := by decide +kernel
theorem dX2_bestAsk_14 : decode cX2_bestAsk 14 = .ok (.if_icmp .gt 33, 3) := by decide +kernel
theorem dX2_bestAsk_17 : decode cX2_bestAsk 17 = .ok (.aload_n 0, 1) := by decide +kernel
theorem dX2_bestAsk_18 : decode cX2_bestAsk 18 = .ok (.aload_n 1, 1) := by decide +kernel
theorem dX2_bestAsk_19 : decode cX2_bestAsk 19 = .ok (.iload_n 2, 1) := by decide +kernel
theorem dX2_bestAsk_20 : decode cX2_bestAsk 20 = .ok (.iload 5, 2) := by decide +kernel
theorem dX2_bestAsk_22 : decode cX2_bestAsk 22 = .ok (.invokevirtual 50, 3) := by decide +kernel
theorem dX2_bestAsk_25 : decode cX2_bestAsk 25 = .ok (.istore 6, 2) := by decide +kernel
theorem dX2_bestAsk_27 : decode cX2_bestAsk 27 = .ok (.iload 6, 2) := by decide +kernel
theorem dX2_bestAsk_29 : decode cX2_bestAsk 29 = .ok (.iload 4, 2) := by decide +kernel
theorem dX2_bestAsk_31 : decode cX2_bestAsk 31 = .ok (.if_icmp .ge 10, 3) := by decide +kernel
theorem dX2_bestAsk_34 : decode cX2_bestAsk 34 = .ok (.iload 5, 2) := by decide +kernel
theorem dX2_bestAsk_36 : decode cX2_bestAsk 36 = .ok (.istore_n 3, 1) := by decide +kernel
theorem dX2_bestAsk_37 : decode cX2_bestAsk 37 = .ok (.iload 6, 2) := by decide +kernel
theorem dX2_bestAsk_39 : decode cX2_bestAsk 39 = .ok (.istore 4, 2) := by decide +kernel
theorem dX2_bestAsk_41 : decode cX2_bestAsk 41 = .ok (.iinc 5 1, 3) := by decide +kernel
theorem dX2_bestAsk_44 : decode cX2_bestAsk 44 = .ok (.goto (-34), 3) := by decide +kernel
theorem dX2_bestAsk_47 : decode cX2_bestAsk 47 = .ok (.iload_n 3, 1) := by decide +kernel
theorem dX2_bestAsk_48 : decode cX2_bestAsk 48 = .ok (.ireturn, 1) := by decide +kernel
theorem dX2_greatestPart_0 : decode cX2_greatestPart 0 = .ok (.iconst 0, 1) := by decide +kernel
theorem dX2_greatestPart_1 : decode cX2_greatestPart 1 = .ok (.istore 4, 2) := by decide +kernel
theorem dX2_greatestPart_3 : decode cX2_greatestPart 3 = .ok (.iload 4, 2) := by decide +kernel
theorem dX2_greatestPart_5 : decode cX2_greatestPart 5 = .ok (.bipush 10, 2) := by decide +kernel
theorem dX2_greatestPart_7 : decode cX2_greatestPart 7 = .ok (.if_icmp .gt 17, 3) := by decide +kernel
theorem dX2_greatestPart_10 : decode cX2_greatestPart 10 = .ok (.aload_n 0, 1) := by decide +kernel
theorem dX2_greatestPart_11 : decode cX2_greatestPart 11 = .ok (.getfield 22, 3) := by decide +kernel
theorem dX2_greatestPart_14 : decode cX2_greatestPart 14 = .ok (.iload 4, 2) := by decide +kernel
theorem dX2_greatestPart_16 : decode cX2_greatestPart 16 = .ok (.iconst 0, 1) := by decide +kernel
theorem dX2_greatestPart_17 : decode cX2_greatestPart 17 = .ok (.iastore, 1) := by decide +kernel
theorem dX2_greatestPart_18 : decode cX2_greatestPart 18 = .ok (.iinc 4 1, 3) := by decide +kernel
theorem dX2_greatestPart_21 : decode cX2_greatestPart 21 = .ok (.goto (-18), 3) := by decide +kernel
theorem dX2_greatestPart_24 : decode cX2_greatestPart 24 = .ok (.iconst 0, 1) := by decide +kernel
theorem dX2_greatestPart_25 : decode cX2_greatestPart 25 = .ok (.istore 4, 2) := by decide +kernel
theorem dX2_greatestPart_27 : decode cX2_greatestPart 27 = .ok (.iconst 0, 1) := by decide +kernel
theorem dX2_greatestPart_28 : decode cX2_greatestPart 28 = .ok (.istore 5, 2) := by decide +kernel
theorem dX2_greatestPart_30 : decode cX2_greatestPart 30 = .ok (.iload 5, 2) := by decide +kernel
theorem dX2_greatestPart_32 : decode cX2_greatestPart 32 = .ok (.aload_n 0, 1) := by decide +kernel
theorem dX2_greatestPart_33 : decode cX2_greatestPart 33 = .ok (.getfield 9, 3) := by decide +kernel
theorem dX2_greatestPart_36 : decode cX2_greatestPart 36 = .ok (.if_icmp .ge 49, 3) := by decide +kernel
theorem dX2_greatestPart_39 : decode cX2_greatestPart 39 = .ok (.aload_n 1, 1) := by decide +kernel
theorem dX2_greatestPart_40 : decode cX2_greatestPart 40 = .ok (.iload_n 2, 1) := by decide +kernel
theorem dX2_greatestPart_41 : decode cX2_greatestPart 41 = .ok (.aload_n 0, 1) := by decide +kernel
theorem dX2_greatestPart_42 : decode cX2_greatestPart 42 = .ok (.getfield 18, 3) := by decide +kernel
theorem dX2_greatestPart_45 : decode cX2_greatestPart 45 = .ok (.iload 5, 2) := by decide +kernel
theorem dX2_greatestPart_47 : decode cX2_greatestPart 47 = .ok (.iaload, 1) := by decide +kernel
theorem dX2_greatestPart_48 : decode cX2_greatestPart 48 = .ok (.iload_n 3, 1) := by decide +kernel
theorem dX2_greatestPart_49 : decode cX2_greatestPart 49 = .ok (.invokestatic 39, 3) := by decide +kernel
theorem dX2_greatestPart_52 : decode cX2_greatestPart 52 = .ok (.istore 6, 2) := by decide +kernel
theorem dX2_greatestPart_54 : decode cX2_greatestPart 54 = .ok (.aload_n 0, 1) := by decide +kernel
theorem dX2_greatestPart_55 : decode cX2_greatestPart 55 = .ok (.getfield 22, 3) := by decide +kernel
theorem dX2_greatestPart_58 : decode cX2_greatestPart 58 = .ok (.iload 6, 2) := by decide +kernel
theorem dX2_greatestPart_60 : decode cX2_greatestPart 60 = .ok (.dup2, 1) := by decide +kernel
theorem dX2_greatestPart_61 : decode cX2_greatestPart 61 = .ok (.iaload, 1) := by decide +kernel
theorem dX2_greatestPart_62 : decode cX2_greatestPart 62 = .ok (.iconst 1, 1) := by decide +kernel
theorem dX2_greatestPart_63 : decode cX2_greatestPart 63 = .ok (.iadd, 1) := by decide +kernel
theorem dX2_greatestPart_64 : decode cX2_greatestPart 64 = .ok (.iastore, 1) := by decide +kernel
theorem dX2_greatestPart_65 : decode cX2_greatestPart 65 = .ok (.iload 4, 2) := by decide +kernel
theorem dX2_greatestPart_67 : decode cX2_greatestPart 67 = .ok (.aload_n 0, 1) := by decide +kernel
theorem dX2_greatestPart_68 : decode cX2_greatestPart 68 = .ok (.getfield 22, 3) := by decide +kernel
theorem dX2_greatestPart_71 : decode cX2_greatestPart 71 = .ok (.iload 6, 2) := by decide +kernel
theorem dX2_greatestPart_73 : decode cX2_greatestPart 73 = .ok (.iaload, 1) := by decide +kernel
theorem dX2_greatestPart_74 : decode cX2_greatestPart 74 = .ok (.invokestatic 54, 3) := by decide +kernel
theorem dX2_greatestPart_77 : decode cX2_greatestPart 77 = .ok (.istore 4, 2) := by decide +kernel
theorem dX2_greatestPart_79 : decode cX2_greatestPart 79 = .ok (.iinc 5 1, 3) := by decide +kernel
theorem dX2_greatestPart_82 : decode cX2_greatestPart 82 = .ok (.goto (-52), 3) := by decide +kernel
theorem dX2_greatestPart_85 : decode cX2_greatestPart 85 = .ok (.iload 4, 2) := by decide +kernel
theorem dX2_greatestPart_87 : decode cX2_greatestPart 87 = .ok (.ireturn, 1) := by decide +kernel
theorem dX3_init_0 : decode cX3_init 0 = .ok (.aload_n 0, 1) := by decide +kernel
theorem dX3_init_1 : decode cX3_init 1 = .ok (.invokespecial 3, 3) := by decide +kernel
theorem dX3_init_4 : decode cX3_init 4 = .ok (.aload_n 0, 1) := by decide +kernel
theorem dX3_init_5 : decode cX3_init 5 = .ok (.bipush 10, 2) := by decide +kernel
theorem dX3_init_7 : decode cX3_init 7 = .ok (.putfield 9, 3) := by decide +kernel
theorem dX3_init_10 : decode cX3_init 10 = .ok (.aload_n 0, 1) := by decide +kernel
theorem dX3_init_11 : decode cX3_init 11 = .ok (.iconst 3, 1) := by decide +kernel
theorem dX3_init_12 : decode cX3_init 12 = .ok (.putfield 15, 3) := by decide +kernel
theorem dX3_init_15 : decode cX3_init 15 = .ok (.aload_n 0, 1) := by decide +kernel
theorem dX3_init_16 : decode cX3_init 16 = .ok (.iconst 1, 1) := by decide +kernel
theorem dX3_init_17 : decode cX3_init 17 = .ok (.putfield 18, 3) := by decide +kernel
theorem dX3_init_20 : decode cX3_init 20 = .ok (.aload_n 0, 1) := by decide +kernel
theorem dX3_init_21 : decode cX3_init 21 = .ok (.iconst 5, 1) := by decide +kernel
theorem dX3_init_22 : decode cX3_init 22 = .ok (.newarray .int, 2) := by decide +kernel
theorem dX3_init_24 : decode cX3_init 24 = .ok (.putfield 21, 3) := by decide +kernel
theorem dX3_init_27 : decode cX3_init 27 = .ok (.aload_n 0, 1) := by decide +kernel
theorem dX3_init_28 : decode cX3_init 28 = .ok (.iconst 5, 1) := by decide +kernel
theorem dX3_init_29 : decode cX3_init 29 = .ok (.newarray .int, 2) := by decide +kernel
theorem dX3_init_31 : decode cX3_init 31 = .ok (.putfield 25, 3) := by decide +kernel
theorem dX3_init_34 : decode cX3_init 34 = .ok (.aload_n 0, 1) := by decide +kernel
theorem dX3_init_35 : decode cX3_init 35 = .ok (.iconst 5, 1) := by decide +kernel
theorem dX3_init_36 : decode cX3_init 36 = .ok (.newarray .boolean, 2) := by decide +kernel
theorem dX3_init_38 : decode cX3_init 38 = .ok (.putfield 28, 3) := by decide +kernel
theorem dX3_init_41 : decode cX3_init 41 = .ok (.aload_n 0, 1) := by decide +kernel
theorem dX3_init_42 : decode cX3_init 42 = .ok (.iconst 5, 1) := by decide +kernel
theorem dX3_init_43 : decode cX3_init 43 = .ok (.newarray .boolean, 2) := by decide +kernel
theorem dX3_init_45 : decode cX3_init 45 = .ok (.putfield 32, 3) := by decide +kernel
theorem dX3_init_48 : decode cX3_init 48 = .ok (.aload_n 0, 1) := by decide +kernel
theorem dX3_init_49 : decode cX3_init 49 = .ok (.bipush 10, 2) := by decide +kernel
theorem dX3_init_51 : decode cX3_init 51 = .ok (.newarray .int, 2) := by decide +kernel
theorem dX3_init_53 : decode cX3_init 53 = .ok (.putfield 35, 3) := by decide +kernel
theorem dX3_init_56 : decode cX3_init 56 = .ok (.aload_n 0, 1) := by decide +kernel
theorem dX3_init_57 : decode cX3_init 57 = .ok (.bipush 10, 2) := by decide +kernel
theorem dX3_init_59 : decode cX3_init 59 = .ok (.newarray .int, 2) := by decide +kernel
theorem dX3_init_61 : decode cX3_init 61 = .ok (.putfield 38, 3) := by decide +kernel
theorem dX3_init_64 : decode cX3_init 64 = .ok (.aload_n 0, 1) := by decide +kernel
theorem dX3_init_65 : decode cX3_init 65 = .ok (.bipush 10, 2) := by decide +kernel
theorem dX3_init_67 : decode cX3_init 67 = .ok (.newarray .int, 2) := by decide +kernel
theorem dX3_init_69 : decode cX3_init 69 = .ok (.putfield 41, 3) := by decide +kernel
theorem dX3_init_72 : decode cX3_init 72 = .ok (.aload_n 0, 1) := by decide +kernel
theorem dX3_init_73 : decode cX3_init 73 = .ok (.bipush 10, 2) := by decide +kernel
theorem dX3_init_75 : decode cX3_init 75 = .ok (.newarray .int, 2) := by decide +kernel
theorem dX3_init_77 : decode cX3_init 77 = .ok (.putfield 44, 3) := by decide +kernel
theorem dX3_init_80 : decode cX3_init 80 = .ok (.aload_n 0, 1) := by decide +kernel
theorem dX3_init_81 : decode cX3_init 81 = .ok (.bipush 10, 2) := by decide +kernel
theorem dX3_init_83 : decode cX3_init 83 = .ok (.newarray .int, 2) := by decide +kernel
theorem dX3_init_85 : decode cX3_init 85 = .ok (.putfield 47, 3) := by decide +kernel
theorem dX3_init_88 : decode cX3_init 88 = .ok (.aload_n 0, 1) := by decide +kernel
theorem dX3_init_89 : decode cX3_init 89 = .ok (.bipush 10, 2) := by decide +kernel
theorem dX3_init_91 : decode cX3_init 91 = .ok (.newarray .int, 2) := by decide +kernel
theorem dX3_init_93 : decode cX3_init 93 = .ok (.putfield 50, 3) := by decide +kernel
theorem dX3_init_96 : decode cX3_init 96 = .ok (.aload_n 0, 1) := by decide +kernel
theorem dX3_init_97 : decode cX3_init 97 = .ok (.bipush 10, 2) := by decide +kernel
theorem dX3_init_99 : decode cX3_init 99 = .ok (.newarray .int, 2) := by decide +kernel
theorem dX3_init_101 : decode cX3_init 101 = .ok (.putfield 53, 3) := by decide +kernel
theorem dX3_init_104 : decode cX3_init 104 = .ok (.return_, 1) := by decide +kernel
theorem dX3_copyFrom_0 : decode cX3_copyFrom 0 = .ok (.aload_n 0, 1) := by decide +kernel
theorem dX3_copyFrom_1 : decode cX3_copyFrom 1 = .ok (.aload_n 1, 1) := by decide +kernel
theorem dX3_copyFrom_2 : decode cX3_copyFrom 2 = .ok (.getfield 56, 3) := by decide +kernel
theorem dX3_copyFrom_5 : decode cX3_copyFrom 5 = .ok (.putfield 56, 3) := by decide +kernel
theorem dX3_copyFrom_8 : decode cX3_copyFrom 8 = .ok (.aload_n 0, 1) := by decide +kernel
theorem dX3_copyFrom_9 : decode cX3_copyFrom 9 = .ok (.aload_n 1, 1) := by decide +kernel
theorem dX3_copyFrom_10 : decode cX3_copyFrom 10 = .ok (.getfield 59, 3) := by decide +kernel
theorem dX3_copyFrom_13 : decode cX3_copyFrom 13 = .ok (.putfield 59, 3) := by decide +kernel
theorem dX3_copyFrom_16 : decode cX3_copyFrom 16 = .ok (.aload_n 0, 1) := by decide +kernel
theorem dX3_copyFrom_17 : decode cX3_copyFrom 17 = .ok (.aload_n 1, 1) := by decide +kernel
theorem dX3_copyFrom_18 : decode cX3_copyFrom 18 = .ok (.getfield 62, 3) := by decide +kernel
theorem dX3_copyFrom_21 : decode cX3_copyFrom 21 = .ok (.putfield 62, 3) := by decide +kernel
theorem dX3_copyFrom_24 : decode cX3_copyFrom 24 = .ok (.aload_n 0, 1) := by decide +kernel
theorem dX3_copyFrom_25 : decode cX3_copyFrom 25 = .ok (.aload_n 1, 1) := by decide +kernel
theorem dX3_copyFrom_26 : decode cX3_copyFrom 26 = .ok (.getfield 9, 3) := by decide +kernel
theorem dX3_copyFrom_29 : decode cX3_copyFrom 29 = .ok (.putfield 9, 3) := by decide +kernel
theorem dX3_copyFrom_32 : decode cX3_copyFrom 32 = .ok (.aload_n 0, 1) := by decide +kernel
theorem dX3_copyFrom_33 : decode cX3_copyFrom 33 = .ok (.aload_n 1, 1) := by decide +kernel
theorem dX3_copyFrom_34 : decode cX3_copyFrom 34 = .ok (.getfield 65, 3) := by decide +kernel
theorem dX3_copyFrom_37 : decode cX3_copyFrom 37 = .ok (.putfield 65, 3) := by decide +kernel
theorem dX3_copyFrom_40 : decode cX3_copyFrom 40 = .ok (.aload_n 0, 1) := by decide +kernel
theorem dX3_copyFrom_41 : decode cX3_copyFrom 41 = .ok (.aload_n 1, 1) := by decide +kernel
theorem dX3_copyFrom_42 : decode cX3_copyFrom 42 = .ok (.getfield 68, 3) := by decide +kernel
theorem dX3_copyFrom_45 : decode cX3_copyFrom 45 = .ok (.putfield 68, 3) := by decide +kernel
theorem dX3_copyFrom_48 : decode cX3_copyFrom 48 = .ok (.aload_n 0, 1) := by decide +kernel
theorem dX3_copyFrom_49 : decode cX3_copyFrom 49 = .ok (.aload_n 1, 1) := by decide +kernel
theorem dX3_copyFrom_50 : decode cX3_copyFrom 50 = .ok (.getfield 15, 3) := by decide +kernel
theorem dX3_copyFrom_53 : decode cX3_copyFrom 53 = .ok (.putfield 15, 3) := by decide +kernel
theorem dX3_copyFrom_56 : decode cX3_copyFrom 56 = .ok (.aload_n 0, 1) := by decide +kernel
theorem dX3_copyFrom_57 : decode cX3_copyFrom 57 = .ok (.aload_n 1, 1) := by decide +kernel
theorem dX3_copyFrom_58 : decode cX3_copyFrom 58 = .ok (.getfield 71, 3) := by decide +kernel
theorem dX3_copyFrom_61 : decode cX3_copyFrom 61 = .ok (.putfield 71, 3) := by decide +kernel
theorem dX3_copyFrom_64 : decode cX3_copyFrom 64 = .ok (.aload_n 0, 1) := by decide +kernel
theorem dX3_copyFrom_65 : decode cX3_copyFrom 65 = .ok (.aload_n 1, 1) := by decide +kernel
theorem dX3_copyFrom_66 : decode cX3_copyFrom 66 = .ok (.getfield 18, 3) := by decide +kernel
theorem dX3_copyFrom_69 : decode cX3_copyFrom 69 = .ok (.putfield 18, 3) := by decide +kernel
theorem dX3_copyFrom_72 : decode cX3_copyFrom 72 = .ok (.iconst 0, 1) := by decide +kernel
theorem dX3_copyFrom_73 : decode cX3_copyFrom 73 = .ok (.istore_n 2, 1) := by decide +kernel
theorem dX3_copyFrom_74 : decode cX3_copyFrom 74 = .ok (.iload_n 2, 1) := by decide +kernel
theorem dX3_copyFrom_75 : decode cX3_copyFrom 75 = .ok (.iconst 5, 1) := by decide +kernel
theorem dX3_copyFrom_76 : decode cX3_copyFrom 76 = .ok (.if_icmp .ge 33, 3) := by decide +kernel
theorem dX3_copyFrom_79 : decode cX3_copyFrom 79 = .ok (.aload_n 0, 1) := by decide +kernel
theorem dX3_copyFrom_80 : decode cX3_copyFrom 80 = .ok (.getfield 28, 3) := by decide +kernel
theorem dX3_copyFrom_83 : decode cX3_copyFrom 83 = .ok (.iload_n 2, 1) := by decide +kernel
theorem dX3_copyFrom_84 : decode cX3_copyFrom 84 = .ok (.aload_n 1, 1) := by decide +kernel
theorem dX3_copyFrom_85 : decode cX3_copyFrom 85 = .ok (.getfield 28, 3) := by decide +kernel
theorem dX3_copyFrom_88 : decode cX3_copyFrom 88 = .ok (.iload_n 2, 1) := by decide +kernel
theorem dX3_copyFrom_89 : decode cX3_copyFrom 89 = .ok (.baload, 1) := by decide +kernel
theorem dX3_copyFrom_90 : decode cX3_copyFrom 90 = .ok (.bastore, 1) := by decide +kernel
theorem dX3_copyFrom_91 : decode cX3_copyFrom 91 = .ok (.aload_n 0, 1) := by decide +kernel
theorem dX3_copyFrom_92 : decode cX3_copyFrom 92 = .ok (.getfield 32, 3) := by decide +kernel
theorem dX3_copyFrom_95 : decode cX3_copyFrom 95 = .ok (.iload_n 2, 1) := by decide +kernel
theorem dX3_copyFrom_96 : decode cX3_copyFrom 96 = .ok (.aload_n 1, 1) := by decide +kernel
theorem dX3_copyFrom_97 : decode cX3_copyFrom 97 = .ok (.getfield 32, 3) := by decide +kernel
theorem dX3_copyFrom_100 : decode cX3_copyFrom 100 = .ok (.iload_n 2, 1) := by decide +kernel
theorem dX3_copyFrom_101 : decode cX3_copyFrom 101 = .ok (.baload, 1) := by decide +kernel
theorem dX3_copyFrom_102 : decode cX3_copyFrom 102 = .ok (.bastore, 1) := by decide +kernel
theorem dX3_copyFrom_103 : decode cX3_copyFrom 103 = .ok (.iinc 2 1, 3) := by decide +kernel
theorem dX3_copyFrom_106 : decode cX3_copyFrom 106 = .ok (.goto (-32), 3) := by decide +kernel
theorem dX3_copyFrom_109 : decode cX3_copyFrom 109 = .ok (.aload_n 1, 1) := by decide +kernel
theorem dX3_copyFrom_110 : decode cX3_copyFrom 110 = .ok (.getfield 21, 3) := by decide +kernel
theorem dX3_copyFrom_113 : decode cX3_copyFrom 113 = .ok (.iconst 0, 1) := by decide +kernel
theorem dX3_copyFrom_114 : decode cX3_copyFrom 114 = .ok (.aload_n 0, 1) := by decide +kernel
theorem dX3_copyFrom_115 : decode cX3_copyFrom 115 = .ok (.getfield 21, 3) := by decide +kernel
theorem dX3_copyFrom_118 : decode cX3_copyFrom 118 = .ok (.iconst 0, 1) := by decide +kernel
theorem dX3_copyFrom_119 : decode cX3_copyFrom 119 = .ok (.iconst 5, 1) := by decide +kernel
theorem dX3_copyFrom_120 : decode cX3_copyFrom 120 = .ok (.invokestatic 74, 3) := by decide +kernel
theorem dX3_copyFrom_123 : decode cX3_copyFrom 123 = .ok (.aload_n 1, 1) := by decide +kernel
theorem dX3_copyFrom_124 : decode cX3_copyFrom 124 = .ok (.getfield 25, 3) := by decide +kernel
theorem dX3_copyFrom_127 : decode cX3_copyFrom 127 = .ok (.iconst 0, 1) := by decide +kernel
theorem dX3_copyFrom_128 : decode cX3_copyFrom 128 = .ok (.aload_n 0, 1) := by decide +kernel
theorem dX3_copyFrom_129 : decode cX3_copyFrom 129 = .ok (.getfield 25, 3) := by decide +kernel
theorem dX3_copyFrom_132 : decode cX3_copyFrom 132 = .ok (.iconst 0, 1) := by decide +kernel
theorem dX3_copyFrom_133 : decode cX3_copyFrom 133 = .ok (.iconst 5, 1) := by decide +kernel
theorem dX3_copyFrom_134 : decode cX3_copyFrom 134 = .ok (.invokestatic 74, 3) := by decide +kernel
theorem dX3_copyFrom_137 : decode cX3_copyFrom 137 = .ok (.aload_n 1, 1) := by decide +kernel
theorem dX3_copyFrom_138 : decode cX3_copyFrom 138 = .ok (.getfield 35, 3) := by decide +kernel
theorem dX3_copyFrom_141 : decode cX3_copyFrom 141 = .ok (.iconst 0, 1) := by decide +kernel
theorem dX3_copyFrom_142 : decode cX3_copyFrom 142 = .ok (.aload_n 0, 1) := by decide +kernel
theorem dX3_copyFrom_143 : decode cX3_copyFrom 143 = .ok (.getfield 35, 3) := by decide +kernel
theorem dX3_copyFrom_146 : decode cX3_copyFrom 146 = .ok (.iconst 0, 1) := by decide +kernel
theorem dX3_copyFrom_147 : decode cX3_copyFrom 147 = .ok (.bipush 10, 2) := by decide +kernel
theorem dX3_copyFrom_149 : decode cX3_copyFrom 149 = .ok (.invokestatic 74, 3) := by decide +kernel
theorem dX3_copyFrom_152 : decode cX3_copyFrom 152 = .ok (.aload_n 1, 1) := by decide +kernel
theorem dX3_copyFrom_153 : decode cX3_copyFrom 153 = .ok (.getfield 38, 3) := by decide +kernel
theorem dX3_copyFrom_156 : decode cX3_copyFrom 156 = .ok (.iconst 0, 1) := by decide +kernel
theorem dX3_copyFrom_157 : decode cX3_copyFrom 157 = .ok (.aload_n 0, 1) := by decide +kernel
theorem dX3_copyFrom_158 : decode cX3_copyFrom 158 = .ok (.getfield 38, 3) := by decide +kernel
theorem dX3_copyFrom_161 : decode cX3_copyFrom 161 = .ok (.iconst 0, 1) := by decide +kernel
theorem dX3_copyFrom_162 : decode cX3_copyFrom 162 = .ok (.bipush 10, 2) := by decide +kernel
theorem dX3_copyFrom_164 : decode cX3_copyFrom 164 = .ok (.invokestatic 74, 3) := by decide +kernel
theorem dX3_copyFrom_167 : decode cX3_copyFrom 167 = .ok (.aload_n 1, 1) := by decide +kernel
theorem dX3_copyFrom_168 : decode cX3_copyFrom 168 = .ok (.getfield 41, 3) := by decide +kernel
theorem dX3_copyFrom_171 : decode cX3_copyFrom 171 = .ok (.iconst 0, 1) := by decide +kernel
theorem dX3_copyFrom_172 : decode cX3_copyFrom 172 = .ok (.aload_n 0, 1) := by decide +kernel
theorem dX3_copyFrom_173 : decode cX3_copyFrom 173 = .ok (.getfield 41, 3) := by decide +kernel
theorem dX3_copyFrom_176 : decode cX3_copyFrom 176 = .ok (.iconst 0, 1) := by decide +kernel
theorem dX3_copyFrom_177 : decode cX3_copyFrom 177 = .ok (.bipush 10, 2) := by decide +kernel
theorem dX3_copyFrom_179 : decode cX3_copyFrom 179 = .ok (.invokestatic 74, 3) := by decide +kernel
theorem dX3_copyFrom_182 : decode cX3_copyFrom 182 = .ok (.aload_n 1, 1) := by decide +kernel
theorem dX3_copyFrom_183 : decode cX3_copyFrom 183 = .ok (.getfield 44, 3) := by decide +kernel
theorem dX3_copyFrom_186 : decode cX3_copyFrom 186 = .ok (.iconst 0, 1) := by decide +kernel
theorem dX3_copyFrom_187 : decode cX3_copyFrom 187 = .ok (.aload_n 0, 1) := by decide +kernel
theorem dX3_copyFrom_188 : decode cX3_copyFrom 188 = .ok (.getfield 44, 3) := by decide +kernel
theorem dX3_copyFrom_191 : decode cX3_copyFrom 191 = .ok (.iconst 0, 1) := by decide +kernel
theorem dX3_copyFrom_192 : decode cX3_copyFrom 192 = .ok (.bipush 10, 2) := by decide +kernel
theorem dX3_copyFrom_194 : decode cX3_copyFrom 194 = .ok (.invokestatic 74, 3) := by decide +kernel
theorem dX3_copyFrom_197 : decode cX3_copyFrom 197 = .ok (.aload_n 1, 1) := by decide +kernel
theorem dX3_copyFrom_198 : decode cX3_copyFrom 198 = .ok (.getfield 47, 3) := by decide +kernel
theorem dX3_copyFrom_201 : decode cX3_copyFrom 201 = .ok (.iconst 0, 1) := by decide +kernel
theorem dX3_copyFrom_202 : decode cX3_copyFrom 202 = .ok (.aload_n 0, 1) := by decide +kernel
theorem dX3_copyFrom_203 : decode cX3_copyFrom 203 = .ok (.getfield 47, 3) := by decide +kernel
theorem dX3_copyFrom_206 : decode cX3_copyFrom 206 = .ok (.iconst 0, 1) := by decide +kernel
theorem dX3_copyFrom_207 : decode cX3_copyFrom 207 = .ok (.bipush 10, 2) := by decide +kernel
theorem dX3_copyFrom_209 : decode cX3_copyFrom 209 = .ok (.invokestatic 74, 3) := by decide +kernel
theorem dX3_copyFrom_212 : decode cX3_copyFrom 212 = .ok (.aload_n 1, 1) := by decide +kernel
theorem dX3_copyFrom_213 : decode cX3_copyFrom 213 = .ok (.getfield 50, 3) := by decide +kernel
theorem dX3_copyFrom_216 : decode cX3_copyFrom 216 = .ok (.iconst 0, 1) := by decide +kernel
theorem dX3_copyFrom_217 : decode cX3_copyFrom 217 = .ok (.aload_n 0, 1) := by decide +kernel
theorem dX3_copyFrom_218 : decode cX3_copyFrom 218 = .ok (.getfield 50, 3) := by decide +kernel
theorem dX3_copyFrom_221 : decode cX3_copyFrom 221 = .ok (.iconst 0, 1) := by decide +kernel
theorem dX3_copyFrom_222 : decode cX3_copyFrom 222 = .ok (.bipush 10, 2) := by decide +kernel
theorem dX3_copyFrom_224 : decode cX3_copyFrom 224 = .ok (.invokestatic 74, 3) := by decide +kernel
theorem dX3_copyFrom_227 : decode cX3_copyFrom 227 = .ok (.aload_n 1, 1) := by decide +kernel
theorem dX3_copyFrom_228 : decode cX3_copyFrom 228 = .ok (.getfield 53, 3) := by decide +kernel
theorem dX3_copyFrom_231 : decode cX3_copyFrom 231 = .ok (.iconst 0, 1) := by decide +kernel
theorem dX3_copyFrom_232 : decode cX3_copyFrom 232 = .ok (.aload_n 0, 1) := by decide +kernel
theorem dX3_copyFrom_233 : decode cX3_copyFrom 233 = .ok (.getfield 53, 3) := by decide +kernel
theorem dX3_copyFrom_236 : decode cX3_copyFrom 236 = .ok (.iconst 0, 1) := by decide +kernel
theorem dX3_copyFrom_237 : decode cX3_copyFrom 237 = .ok (.bipush 10, 2) := by decide +kernel
theorem dX3_copyFrom_239 : decode cX3_copyFrom 239 = .ok (.invokestatic 74, 3) := by decide +kernel
theorem dX3_copyFrom_242 : decode cX3_copyFrom 242 = .ok (.return_, 1) := by decide +kernel
theorem dX3_houses_0 : decode cX3_houses 0 = .ok (.iconst 2, 1) := by decide +kernel
theorem dX3_houses_1 : decode cX3_houses 1 = .ok (.aload_n 0, 1) := by decide +kernel
theorem dX3_houses_2 : decode cX3_houses 2 = .ok (.getfield 56, 3) := by decide +kernel
theorem dX3_houses_5 : decode cX3_houses 5 = .ok (.imul, 1) := by decide +kernel
theorem dX3_houses_6 : decode cX3_houses 6 = .ok (.ireturn, 1) := by decide +kernel
theorem dX3_addPlank_0 : decode cX3_addPlank 0 = .ok (.aload_n 0, 1) := by decide +kernel
theorem dX3_addPlank_1 : decode cX3_addPlank 1 = .ok (.getfield 56, 3) := by decide +kernel
theorem dX3_addPlank_4 : decode cX3_addPlank 4 = .ok (.iconst 5, 1) := by decide +kernel
theorem dX3_addPlank_5 : decode cX3_addPlank 5 = .ok (.if_icmp .lt 4, 3) := by decide +kernel
theorem dX3_addPlank_8 : decode cX3_addPlank 8 = .ok (.return_, 1) := by decide +kernel
theorem dX3_addPlank_9 : decode cX3_addPlank 9 = .ok (.aload_n 0, 1) := by decide +kernel
theorem dX3_addPlank_10 : decode cX3_addPlank 10 = .ok (.getfield 21, 3) := by decide +kernel
theorem dX3_addPlank_13 : decode cX3_addPlank 13 = .ok (.aload_n 0, 1) := by decide +kernel
theorem dX3_addPlank_14 : decode cX3_addPlank 14 = .ok (.getfield 56, 3) := by decide +kernel
theorem dX3_addPlank_17 : decode cX3_addPlank 17 = .ok (.iload_n 1, 1) := by decide +kernel
theorem dX3_addPlank_18 : decode cX3_addPlank 18 = .ok (.iastore, 1) := by decide +kernel
theorem dX3_addPlank_19 : decode cX3_addPlank 19 = .ok (.aload_n 0, 1) := by decide +kernel
theorem dX3_addPlank_20 : decode cX3_addPlank 20 = .ok (.getfield 25, 3) := by decide +kernel
theorem dX3_addPlank_23 : decode cX3_addPlank 23 = .ok (.aload_n 0, 1) := by decide +kernel
theorem dX3_addPlank_24 : decode cX3_addPlank 24 = .ok (.getfield 56, 3) := by decide +kernel
theorem dX3_addPlank_27 : decode cX3_addPlank 27 = .ok (.iload_n 2, 1) := by decide +kernel
theorem dX3_addPlank_28 : decode cX3_addPlank 28 = .ok (.iastore, 1) := by decide +kernel
theorem dX3_addPlank_29 : decode cX3_addPlank 29 = .ok (.aload_n 0, 1) := by decide +kernel
theorem dX3_addPlank_30 : decode cX3_addPlank 30 = .ok (.getfield 28, 3) := by decide +kernel
theorem dX3_addPlank_33 : decode cX3_addPlank 33 = .ok (.aload_n 0, 1) := by decide +kernel
theorem dX3_addPlank_34 : decode cX3_addPlank 34 = .ok (.getfield 56, 3) := by decide +kernel
theorem dX3_addPlank_37 : decode cX3_addPlank 37 = .ok (.iconst 0, 1) := by decide +kernel
theorem dX3_addPlank_38 : decode cX3_addPlank 38 = .ok (.bastore, 1) := by decide +kernel
theorem dX3_addPlank_39 : decode cX3_addPlank 39 = .ok (.aload_n 0, 1) := by decide +kernel
theorem dX3_addPlank_40 : decode cX3_addPlank 40 = .ok (.getfield 32, 3) := by decide +kernel
theorem dX3_addPlank_43 : decode cX3_addPlank 43 = .ok (.aload_n 0, 1) := by decide +kernel
theorem dX3_addPlank_44 : decode cX3_addPlank 44 = .ok (.getfield 56, 3) := by decide +kernel
theorem dX3_addPlank_47 : decode cX3_addPlank 47 = .ok (.iconst 0, 1) := by decide +kernel
theorem dX3_addPlank_48 : decode cX3_addPlank 48 = .ok (.bastore, 1) := by decide +kernel
theorem dX3_addPlank_49 : decode cX3_addPlank 49 = .ok (.iconst 2, 1) := by decide +kernel
theorem dX3_addPlank_50 : decode cX3_addPlank 50 = .ok (.aload_n 0, 1) := by decide +kernel
theorem dX3_addPlank_51 : decode cX3_addPlank 51 = .ok (.getfield 56, 3) := by decide +kernel
theorem dX3_addPlank_54 : decode cX3_addPlank 54 = .ok (.imul, 1) := by decide +kernel
theorem dX3_addPlank_55 : decode cX3_addPlank 55 = .ok (.istore_n 3, 1) := by decide +kernel
theorem dX3_addPlank_56 : decode cX3_addPlank 56 = .ok (.iload_n 3, 1) := by decide +kernel
theorem dX3_addPlank_57 : decode cX3_addPlank 57 = .ok (.iconst 2, 1) := by decide +kernel
theorem dX3_addPlank_58 : decode cX3_addPlank 58 = .ok (.aload_n 0, 1) := by decide +kernel
theorem dX3_addPlank_59 : decode cX3_addPlank 59 = .ok (.getfield 56, 3) := by decide +kernel
theorem dX3_addPlank_62 : decode cX3_addPlank 62 = .ok (.imul, 1) := by decide +kernel
theorem dX3_addPlank_63 : decode cX3_addPlank 63 = .ok (.iconst 2, 1) := by decide +kernel
theorem dX3_addPlank_64 : decode cX3_addPlank 64 = .ok (.iadd, 1) := by decide +kernel
theorem dX3_addPlank_65 : decode cX3_addPlank 65 = .ok (.if_icmp .ge 24, 3) := by decide +kernel
theorem dX3_addPlank_68 : decode cX3_addPlank 68 = .ok (.aload_n 0, 1) := by decide +kernel
theorem dX3_addPlank_69 : decode cX3_addPlank 69 = .ok (.getfield 35, 3) := by decide +kernel
theorem dX3_addPlank_72 : decode cX3_addPlank 72 = .ok (.iload_n 3, 1) := by decide +kernel
theorem dX3_addPlank_73 : decode cX3_addPlank 73 = .ok (.bipush 100, 2) := by decide +kernel
theorem dX3_addPlank_75 : decode cX3_addPlank 75 = .ok (.iastore, 1) := by decide +kernel
theorem dX3_addPlank_76 : decode cX3_addPlank 76 = .ok (.aload_n 0, 1) := by decide +kernel
theorem dX3_addPlank_77 : decode cX3_addPlank 77 = .ok (.getfield 38, 3) := by decide +kernel
theorem dX3_addPlank_80 : decode cX3_addPlank 80 = .ok (.iload_n 3, 1) := by decide +kernel
theorem dX3_addPlank_81 : decode cX3_addPlank 81 = .ok (.iconst 0, 1) := by decide +kernel
theorem dX3_addPlank_82 : decode cX3_addPlank 82 = .ok (.iastore, 1) := by decide +kernel
theorem dX3_addPlank_83 : decode cX3_addPlank 83 = .ok (.iinc 3 1, 3) := by decide +kernel
theorem dX3_addPlank_86 : decode cX3_addPlank 86 = .ok (.goto (-30), 3) := by decide +kernel
theorem dX3_addPlank_89 : decode cX3_addPlank 89 = .ok (.aload_n 0, 1) := by decide +kernel
theorem dX3_addPlank_90 : decode cX3_addPlank 90 = .ok (.dup, 1) := by decide +kernel
theorem dX3_addPlank_91 : decode cX3_addPlank 91 = .ok (.getfield 56, 3) := by decide +kernel
theorem dX3_addPlank_94 : decode cX3_addPlank 94 = .ok (.iconst 1, 1) := by decide +kernel
theorem dX3_addPlank_95 : decode cX3_addPlank 95 = .ok (.iadd, 1) := by decide +kernel
theorem dX3_addPlank_96 : decode cX3_addPlank 96 = .ok (.putfield 56, 3) := by decide +kernel
theorem dX3_addPlank_99 : decode cX3_addPlank 99 = .ok (.return_, 1) := by decide +kernel
theorem dX3_addThing_0 : decode cX3_addThing 0 = .ok (.aload_n 0, 1) := by decide +kernel
theorem dX3_addThing_1 : decode cX3_addThing 1 = .ok (.getfield 59, 3) := by decide +kernel
theorem dX3_addThing_4 : decode cX3_addThing 4 = .ok (.bipush 10, 2) := by decide +kernel
theorem dX3_addThing_6 : decode cX3_addThing 6 = .ok (.if_icmp .lt 4, 3) := by decide +kernel
theorem dX3_addThing_9 : decode cX3_addThing 9 = .ok (.return_, 1) := by decide +kernel
theorem dX3_addThing_10 : decode cX3_addThing 10 = .ok (.aload_n 0, 1) := by decide +kernel
theorem dX3_addThing_11 : decode cX3_addThing 11 = .ok (.getfield 41, 3) := by decide +kernel
theorem dX3_addThing_14 : decode cX3_addThing 14 = .ok (.aload_n 0, 1) := by decide +kernel
theorem dX3_addThing_15 : decode cX3_addThing 15 = .ok (.getfield 59, 3) := by decide +kernel
theorem dX3_addThing_18 : decode cX3_addThing 18 = .ok (.iload_n 1, 1) := by decide +kernel
theorem dX3_addThing_19 : decode cX3_addThing 19 = .ok (.iastore, 1) := by decide +kernel
theorem dX3_addThing_20 : decode cX3_addThing 20 = .ok (.aload_n 0, 1) := by decide +kernel
theorem dX3_addThing_21 : decode cX3_addThing 21 = .ok (.getfield 44, 3) := by decide +kernel
theorem dX3_addThing_24 : decode cX3_addThing 24 = .ok (.aload_n 0, 1) := by decide +kernel
theorem dX3_addThing_25 : decode cX3_addThing 25 = .ok (.getfield 59, 3) := by decide +kernel
theorem dX3_addThing_28 : decode cX3_addThing 28 = .ok (.iload_n 2, 1) := by decide +kernel
theorem dX3_addThing_29 : decode cX3_addThing 29 = .ok (.iastore, 1) := by decide +kernel
theorem dX3_addThing_30 : decode cX3_addThing 30 = .ok (.aload_n 0, 1) := by decide +kernel
theorem dX3_addThing_31 : decode cX3_addThing 31 = .ok (.getfield 47, 3) := by decide +kernel
theorem dX3_addThing_34 : decode cX3_addThing 34 = .ok (.aload_n 0, 1) := by decide +kernel
theorem dX3_addThing_35 : decode cX3_addThing 35 = .ok (.getfield 59, 3) := by decide +kernel
theorem dX3_addThing_38 : decode cX3_addThing 38 = .ok (.iload_n 3, 1) := by decide +kernel
theorem dX3_addThing_39 : decode cX3_addThing 39 = .ok (.iastore, 1) := by decide +kernel
theorem dX3_addThing_40 : decode cX3_addThing 40 = .ok (.aload_n 0, 1) := by decide +kernel
theorem dX3_addThing_41 : decode cX3_addThing 41 = .ok (.dup, 1) := by decide +kernel
theorem dX3_addThing_42 : decode cX3_addThing 42 = .ok (.getfield 59, 3) := by decide +kernel
theorem dX3_addThing_45 : decode cX3_addThing 45 = .ok (.iconst 1, 1) := by decide +kernel
theorem dX3_addThing_46 : decode cX3_addThing 46 = .ok (.iadd, 1) := by decide +kernel
theorem dX3_addThing_47 : decode cX3_addThing 47 = .ok (.putfield 59, 3) := by decide +kernel
theorem dX3_addThing_50 : decode cX3_addThing 50 = .ok (.return_, 1) := by decide +kernel
theorem dX3_weigh_0 : decode cX3_weigh 0 = .ok (.iconst 0, 1) := by decide +kernel
theorem dX3_weigh_1 : decode cX3_weigh 1 = .ok (.istore_n 1, 1) := by decide +kernel
theorem dX3_weigh_2 : decode cX3_weigh 2 = .ok (.iload_n 1, 1) := by decide +kernel
theorem dX3_weigh_3 : decode cX3_weigh 3 = .ok (.aload_n 0, 1) := by decide +kernel
theorem dX3_weigh_4 : decode cX3_weigh 4 = .ok (.invokevirtual 80, 3) := by decide +kernel
theorem dX3_weigh_7 : decode cX3_weigh 7 = .ok (.if_icmp .ge 28, 3) := by decide +kernel
theorem dX3_weigh_10 : decode cX3_weigh 10 = .ok (.aload_n 0, 1) := by decide +kernel
theorem dX3_weigh_11 : decode cX3_weigh 11 = .ok (.getfield 50, 3) := by decide +kernel
theorem dX3_weigh_14 : decode cX3_weigh 14 = .ok (.iload_n 1, 1) := by decide +kernel
theorem dX3_weigh_15 : decode cX3_weigh 15 = .ok (.aload_n 0, 1) := by decide +kernel
theorem dX3_weigh_16 : decode cX3_weigh 16 = .ok (.getfield 62, 3) := by decide +kernel
theorem dX3_weigh_19 : decode cX3_weigh 19 = .ok (.iconst 5, 1) := by decide +kernel
theorem dX3_weigh_20 : decode cX3_weigh 20 = .ok (.aload_n 0, 1) := by decide +kernel
theorem dX3_weigh_21 : decode cX3_weigh 21 = .ok (.getfield 38, 3) := by decide +kernel
theorem dX3_weigh_24 : decode cX3_weigh 24 = .ok (.iload_n 1, 1) := by decide +kernel
theorem dX3_weigh_25 : decode cX3_weigh 25 = .ok (.iaload, 1) := by decide +kernel
theorem dX3_weigh_26 : decode cX3_weigh 26 = .ok (.imul, 1) := by decide +kernel
theorem dX3_weigh_27 : decode cX3_weigh 27 = .ok (.iadd, 1) := by decide +kernel
theorem dX3_weigh_28 : decode cX3_weigh 28 = .ok (.iastore, 1) := by decide +kernel
theorem dX3_weigh_29 : decode cX3_weigh 29 = .ok (.iinc 1 1, 3) := by decide +kernel
theorem dX3_weigh_32 : decode cX3_weigh 32 = .ok (.goto (-30), 3) := by decide +kernel
theorem dX3_weigh_35 : decode cX3_weigh 35 = .ok (.iconst 0, 1) := by decide +kernel
theorem dX3_weigh_36 : decode cX3_weigh 36 = .ok (.istore_n 1, 1) := by decide +kernel
theorem dX3_weigh_37 : decode cX3_weigh 37 = .ok (.iload_n 1, 1) := by decide +kernel
theorem dX3_weigh_38 : decode cX3_weigh 38 = .ok (.aload_n 0, 1) := by decide +kernel
theorem dX3_weigh_39 : decode cX3_weigh 39 = .ok (.getfield 59, 3) := by decide +kernel
theorem dX3_weigh_42 : decode cX3_weigh 42 = .ok (.if_icmp .ge 43, 3) := by decide +kernel
theorem dX3_weigh_45 : decode cX3_weigh 45 = .ok (.aload_n 0, 1) := by decide +kernel
theorem dX3_weigh_46 : decode cX3_weigh 46 = .ok (.getfield 47, 3) := by decide +kernel
theorem dX3_weigh_49 : decode cX3_weigh 49 = .ok (.iload_n 1, 1) := by decide +kernel
theorem dX3_weigh_50 : decode cX3_weigh 50 = .ok (.iaload, 1) := by decide +kernel
theorem dX3_weigh_51 : decode cX3_weigh 51 = .ok (.istore_n 2, 1) := by decide +kernel
theorem dX3_weigh_52 : decode cX3_weigh 52 = .ok (.iload_n 2, 1) := by decide +kernel
theorem dX3_weigh_53 : decode cX3_weigh 53 = .ok (.ifCond .lt 26, 3) := by decide +kernel
theorem dX3_weigh_56 : decode cX3_weigh 56 = .ok (.iload_n 2, 1) := by decide +kernel
theorem dX3_weigh_57 : decode cX3_weigh 57 = .ok (.aload_n 0, 1) := by decide +kernel
theorem dX3_weigh_58 : decode cX3_weigh 58 = .ok (.invokevirtual 80, 3) := by decide +kernel
theorem dX3_weigh_61 : decode cX3_weigh 61 = .ok (.if_icmp .ge 18, 3) := by decide +kernel
theorem dX3_weigh_64 : decode cX3_weigh 64 = .ok (.aload_n 0, 1) := by decide +kernel
theorem dX3_weigh_65 : decode cX3_weigh 65 = .ok (.getfield 50, 3) := by decide +kernel
theorem dX3_weigh_68 : decode cX3_weigh 68 = .ok (.iload_n 2, 1) := by decide +kernel
theorem dX3_weigh_69 : decode cX3_weigh 69 = .ok (.dup2, 1) := by decide +kernel
theorem dX3_weigh_70 : decode cX3_weigh 70 = .ok (.iaload, 1) := by decide +kernel
theorem dX3_weigh_71 : decode cX3_weigh 71 = .ok (.aload_n 0, 1) := by decide +kernel
theorem dX3_weigh_72 : decode cX3_weigh 72 = .ok (.getfield 41, 3) := by decide +kernel
theorem dX3_weigh_75 : decode cX3_weigh 75 = .ok (.iload_n 1, 1) := by decide +kernel
theorem dX3_weigh_76 : decode cX3_weigh 76 = .ok (.iaload, 1) := by decide +kernel
theorem dX3_weigh_77 : decode cX3_weigh 77 = .ok (.iadd, 1) := by decide +kernel
theorem dX3_weigh_78 : decode cX3_weigh 78 = .ok (.iastore, 1) := by decide +kernel
theorem dX3_weigh_79 : decode cX3_weigh 79 = .ok (.iinc 1 1, 3) := by decide +kernel
theorem dX3_weigh_82 : decode cX3_weigh 82 = .ok (.goto (-45), 3) := by decide +kernel
theorem dX3_weigh_85 : decode cX3_weigh 85 = .ok (.iconst 0, 1) := by decide +kernel
theorem dX3_weigh_86 : decode cX3_weigh 86 = .ok (.istore_n 1, 1) := by decide +kernel
theorem dX3_weigh_87 : decode cX3_weigh 87 = .ok (.iload_n 1, 1) := by decide +kernel
theorem dX3_weigh_88 : decode cX3_weigh 88 = .ok (.aload_n 0, 1) := by decide +kernel
theorem dX3_weigh_89 : decode cX3_weigh 89 = .ok (.getfield 56, 3) := by decide +kernel
theorem dX3_weigh_92 : decode cX3_weigh 92 = .ok (.if_icmp .ge 65, 3) := by decide +kernel
theorem dX3_weigh_95 : decode cX3_weigh 95 = .ok (.aload_n 0, 1) := by decide +kernel
theorem dX3_weigh_96 : decode cX3_weigh 96 = .ok (.iload_n 1, 1) := by decide +kernel
theorem dX3_weigh_97 : decode cX3_weigh 97 = .ok (.invokevirtual 84, 3) := by decide +kernel
theorem dX3_weigh_100 : decode cX3_weigh 100 = .ok (.istore_n 2, 1) := by decide +kernel
theorem dX3_weigh_101 : decode cX3_weigh 101 = .ok (.aload_n 0, 1) := by decide +kernel
theorem dX3_weigh_102 : decode cX3_weigh 102 = .ok (.getfield 53, 3) := by decide +kernel
theorem dX3_weigh_105 : decode cX3_weigh 105 = .ok (.iconst 2, 1) := by decide +kernel
theorem dX3_weigh_106 : decode cX3_weigh 106 = .ok (.iload_n 1, 1) := by decide +kernel
theorem dX3_weigh_107 : decode cX3_weigh 107 = .ok (.imul, 1) := by decide +kernel
theorem dX3_weigh_108 : decode cX3_weigh 108 = .ok (.aload_n 0, 1) := by decide +kernel
theorem dX3_weigh_109 : decode cX3_weigh 109 = .ok (.getfield 32, 3) := by decide +kernel
theorem dX3_weigh_112 : decode cX3_weigh 112 = .ok (.iload_n 1, 1) := by decide +kernel
theorem dX3_weigh_113 : decode cX3_weigh 113 = .ok (.baload, 1) := by decide +kernel
theorem dX3_weigh_114 : decode cX3_weigh 114 = .ok (.ifCond .eq 7, 3) := by decide +kernel
theorem dX3_weigh_117 : decode cX3_weigh 117 = .ok (.iconst 0, 1) := by decide +kernel
theorem dX3_weigh_118 : decode cX3_weigh 118 = .ok (.goto 6, 3) := by decide +kernel
theorem dX3_weigh_121 : decode cX3_weigh 121 = .ok (.iconst 5, 1) := by decide +kernel
theorem dX3_weigh_122 : decode cX3_weigh 122 = .ok (.iload_n 2, 1) := by decide +kernel
theorem dX3_weigh_123 : decode cX3_weigh 123 = .ok (.iadd, 1) := by decide +kernel
theorem dX3_weigh_124 : decode cX3_weigh 124 = .ok (.iastore, 1) := by decide +kernel
theorem dX3_weigh_125 : decode cX3_weigh 125 = .ok (.aload_n 0, 1) := by decide +kernel
theorem dX3_weigh_126 : decode cX3_weigh 126 = .ok (.getfield 53, 3) := by decide +kernel
theorem dX3_weigh_129 : decode cX3_weigh 129 = .ok (.iconst 2, 1) := by decide +kernel
theorem dX3_weigh_130 : decode cX3_weigh 130 = .ok (.iload_n 1, 1) := by decide +kernel
theorem dX3_weigh_131 : decode cX3_weigh 131 = .ok (.imul, 1) := by decide +kernel
theorem dX3_weigh_132 : decode cX3_weigh 132 = .ok (.iconst 1, 1) := by decide +kernel
theorem dX3_weigh_133 : decode cX3_weigh 133 = .ok (.iadd, 1) := by decide +kernel
theorem dX3_weigh_134 : decode cX3_weigh 134 = .ok (.aload_n 0, 1) := by decide +kernel
theorem dX3_weigh_135 : decode cX3_weigh 135 = .ok (.getfield 32, 3) := by decide +kernel
theorem dX3_weigh_138 : decode cX3_weigh 138 = .ok (.iload_n 1, 1) := by decide +kernel
theorem dX3_weigh_139 : decode cX3_weigh 139 = .ok (.baload, 1) := by decide +kernel
theorem dX3_weigh_140 : decode cX3_weigh 140 = .ok (.ifCond .eq 7, 3) := by decide +kernel
theorem dX3_weigh_143 : decode cX3_weigh 143 = .ok (.iconst 0, 1) := by decide +kernel
theorem dX3_weigh_144 : decode cX3_weigh 144 = .ok (.goto 6, 3) := by decide +kernel
theorem dX3_weigh_147 : decode cX3_weigh 147 = .ok (.iconst 5, 1) := by decide +kernel
theorem dX3_weigh_148 : decode cX3_weigh 148 = .ok (.iload_n 2, 1) := by decide +kernel
theorem dX3_weigh_149 : decode cX3_weigh 149 = .ok (.isub, 1) := by decide +kernel
theorem dX3_weigh_150 : decode cX3_weigh 150 = .ok (.iastore, 1) := by decide +kernel
theorem dX3_weigh_151 : decode cX3_weigh 151 = .ok (.iinc 1 1, 3) := by decide +kernel
theorem dX3_weigh_154 : decode cX3_weigh 154 = .ok (.goto (-67), 3) := by decide +kernel
theorem dX3_weigh_157 : decode cX3_weigh 157 = .ok (.return_, 1) := by decide +kernel
theorem dX3_tiltOf_0 : decode cX3_tiltOf 0 = .ok (.aload_n 0, 1) := by decide +kernel
theorem dX3_tiltOf_1 : decode cX3_tiltOf 1 = .ok (.getfield 28, 3) := by decide +kernel
theorem dX3_tiltOf_4 : decode cX3_tiltOf 4 = .ok (.iload_n 1, 1) := by decide +kernel
theorem dX3_tiltOf_5 : decode cX3_tiltOf 5 = .ok (.baload, 1) := by decide +kernel
theorem dX3_tiltOf_6 : decode cX3_tiltOf 6 = .ok (.ifCond .eq 7, 3) := by decide +kernel
theorem dX3_tiltOf_9 : decode cX3_tiltOf 9 = .ok (.iconst 0, 1) := by decide +kernel
theorem dX3_tiltOf_10 : decode cX3_tiltOf 10 = .ok (.goto 25, 3) := by decide +kernel
theorem dX3_tiltOf_13 : decode cX3_tiltOf 13 = .ok (.aload_n 0, 1) := by decide +kernel
theorem dX3_tiltOf_14 : decode cX3_tiltOf 14 = .ok (.aload_n 0, 1) := by decide +kernel
theorem dX3_tiltOf_15 : decode cX3_tiltOf 15 = .ok (.getfield 50, 3) := by decide +kernel
theorem dX3_tiltOf_18 : decode cX3_tiltOf 18 = .ok (.iconst 2, 1) := by decide +kernel
theorem dX3_tiltOf_19 : decode cX3_tiltOf 19 = .ok (.iload_n 1, 1) := by decide +kernel
theorem dX3_tiltOf_20 : decode cX3_tiltOf 20 = .ok (.imul, 1) := by decide +kernel
theorem dX3_tiltOf_21 : decode cX3_tiltOf 21 = .ok (.iaload, 1) := by decide +kernel
theorem dX3_tiltOf_22 : decode cX3_tiltOf 22 = .ok (.aload_n 0, 1) := by decide +kernel
theorem dX3_tiltOf_23 : decode cX3_tiltOf 23 = .ok (.getfield 50, 3) := by decide +kernel
theorem dX3_tiltOf_26 : decode cX3_tiltOf 26 = .ok (.iconst 2, 1) := by decide +kernel
theorem dX3_tiltOf_27 : decode cX3_tiltOf 27 = .ok (.iload_n 1, 1) := by decide +kernel
theorem dX3_tiltOf_28 : decode cX3_tiltOf 28 = .ok (.imul, 1) := by decide +kernel
theorem dX3_tiltOf_29 : decode cX3_tiltOf 29 = .ok (.iconst 1, 1) := by decide +kernel
theorem dX3_tiltOf_30 : decode cX3_tiltOf 30 = .ok (.iadd, 1) := by decide +kernel
theorem dX3_tiltOf_31 : decode cX3_tiltOf 31 = .ok (.iaload, 1) := by decide +kernel
theorem dX3_tiltOf_32 : decode cX3_tiltOf 32 = .ok (.invokevirtual 88, 3) := by decide +kernel
theorem dX3_tiltOf_35 : decode cX3_tiltOf 35 = .ok (.ireturn, 1) := by decide +kernel
theorem dX3_leaning_0 : decode cX3_leaning 0 = .ok (.aload_n 0, 1) := by decide +kernel
theorem dX3_leaning_1 : decode cX3_leaning 1 = .ok (.getfield 9, 3) := by decide +kernel
theorem dX3_leaning_4 : decode cX3_leaning 4 = .ok (.ifCond .le 14, 3) := by decide +kernel
theorem dX3_leaning_7 : decode cX3_leaning 7 = .ok (.iload_n 2, 1) := by decide +kernel
theorem dX3_leaning_8 : decode cX3_leaning 8 = .ok (.iload_n 1, 1) := by decide +kernel
theorem dX3_leaning_9 : decode cX3_leaning 9 = .ok (.isub, 1) := by decide +kernel
theorem dX3_leaning_10 : decode cX3_leaning 10 = .ok (.aload_n 0, 1) := by decide +kernel
theorem dX3_leaning_11 : decode cX3_leaning 11 = .ok (.getfield 9, 3) := by decide +kernel
theorem dX3_leaning_14 : decode cX3_leaning 14 = .ok (.idiv, 1) := by decide +kernel
theorem dX3_leaning_15 : decode cX3_leaning 15 = .ok (.goto 4, 3) := by decide +kernel
theorem dX3_leaning_18 : decode cX3_leaning 18 = .ok (.iconst 0, 1) := by decide +kernel
theorem dX3_leaning_19 : decode cX3_leaning 19 = .ok (.istore_n 3, 1) := by decide +kernel
theorem dX3_leaning_20 : decode cX3_leaning 20 = .ok (.bipush (-5), 2) := by decide +kernel
theorem dX3_leaning_22 : decode cX3_leaning 22 = .ok (.iconst 5, 1) := by decide +kernel
theorem dX3_leaning_23 : decode cX3_leaning 23 = .ok (.iload_n 3, 1) := by decide +kernel
theorem dX3_leaning_24 : decode cX3_leaning 24 = .ok (.invokestatic 92, 3) := by decide +kernel
theorem dX3_leaning_27 : decode cX3_leaning 27 = .ok (.invokestatic 97, 3) := by decide +kernel
theorem dX3_leaning_30 : decode cX3_leaning 30 = .ok (.ireturn, 1) := by decide +kernel
theorem dX3_isLevel_0 : decode cX3_isLevel 0 = .ok (.aload_n 0, 1) := by decide +kernel
theorem dX3_isLevel_1 : decode cX3_isLevel 1 = .ok (.getfield 53, 3) := by decide +kernel
theorem dX3_isLevel_4 : decode cX3_isLevel 4 = .ok (.iconst 2, 1) := by decide +kernel
theorem dX3_isLevel_5 : decode cX3_isLevel 5 = .ok (.iload_n 1, 1) := by decide +kernel
theorem dX3_isLevel_6 : decode cX3_isLevel 6 = .ok (.imul, 1) := by decide +kernel
theorem dX3_isLevel_7 : decode cX3_isLevel 7 = .ok (.iaload, 1) := by decide +kernel
theorem dX3_isLevel_8 : decode cX3_isLevel 8 = .ok (.iconst 5, 1) := by decide +kernel
theorem dX3_isLevel_9 : decode cX3_isLevel 9 = .ok (.if_icmp .ne 7, 3) := by decide +kernel
theorem dX3_isLevel_12 : decode cX3_isLevel 12 = .ok (.iconst 1, 1) := by decide +kernel
theorem dX3_isLevel_13 : decode cX3_isLevel 13 = .ok (.goto 4, 3) := by decide +kernel
theorem dX3_isLevel_16 : decode cX3_isLevel 16 = .ok (.iconst 0, 1) := by decide +kernel
theorem dX3_isLevel_17 : decode cX3_isLevel 17 = .ok (.ireturn, 1) := by decide +kernel
theorem dX3_bearsMore_0 : decode cX3_bearsMore 0 = .ok (.aload_n 0, 1) := by decide +kernel
theorem dX3_bearsMore_1 : decode cX3_bearsMore 1 = .ok (.getfield 21, 3) := by decide +kernel
theorem dX3_bearsMore_4 : decode cX3_bearsMore 4 = .ok (.iload_n 1, 1) := by decide +kernel
theorem dX3_bearsMore_5 : decode cX3_bearsMore 5 = .ok (.iaload, 1) := by decide +kernel
theorem dX3_bearsMore_6 : decode cX3_bearsMore 6 = .ok (.aload_n 0, 1) := by decide +kernel
theorem dX3_bearsMore_7 : decode cX3_bearsMore 7 = .ok (.getfield 25, 3) := by decide +kernel
theorem dX3_bearsMore_10 : decode cX3_bearsMore 10 = .ok (.iload_n 1, 1) := by decide +kernel
theorem dX3_bearsMore_11 : decode cX3_bearsMore 11 = .ok (.iaload, 1) := by decide +kernel
theorem dX3_bearsMore_12 : decode cX3_bearsMore 12 = .ok (.isub, 1) := by decide +kernel
theorem dX3_bearsMore_13 : decode cX3_bearsMore 13 = .ok (.aload_n 0, 1) := by decide +kernel
theorem dX3_bearsMore_14 : decode cX3_bearsMore 14 = .ok (.getfield 50, 3) := by decide +kernel
theorem dX3_bearsMore_17 : decode cX3_bearsMore 17 = .ok (.iconst 2, 1) := by decide +kernel
theorem dX3_bearsMore_18 : decode cX3_bearsMore 18 = .ok (.iload_n 1, 1) := by decide +kernel
theorem dX3_bearsMore_19 : decode cX3_bearsMore 19 = .ok (.imul, 1) := by decide +kernel
theorem dX3_bearsMore_20 : decode cX3_bearsMore 20 = .ok (.iaload, 1) := by decide +kernel
theorem dX3_bearsMore_21 : decode cX3_bearsMore 21 = .ok (.isub, 1) := by decide +kernel
theorem dX3_bearsMore_22 : decode cX3_bearsMore 22 = .ok (.aload_n 0, 1) := by decide +kernel
theorem dX3_bearsMore_23 : decode cX3_bearsMore 23 = .ok (.getfield 50, 3) := by decide +kernel
theorem dX3_bearsMore_26 : decode cX3_bearsMore 26 = .ok (.iconst 2, 1) := by decide +kernel
theorem dX3_bearsMore_27 : decode cX3_bearsMore 27 = .ok (.iload_n 1, 1) := by decide +kernel
theorem dX3_bearsMore_28 : decode cX3_bearsMore 28 = .ok (.imul, 1) := by decide +kernel
theorem dX3_bearsMore_29 : decode cX3_bearsMore 29 = .ok (.iconst 1, 1) := by decide +kernel
theorem dX3_bearsMore_30 : decode cX3_bearsMore 30 = .ok (.iadd, 1) := by decide +kernel
theorem dX3_bearsMore_31 : decode cX3_bearsMore 31 = .ok (.iaload, 1) := by decide +kernel
theorem dX3_bearsMore_32 : decode cX3_bearsMore 32 = .ok (.isub, 1) := by decide +kernel
theorem dX3_bearsMore_33 : decode cX3_bearsMore 33 = .ok (.ireturn, 1) := by decide +kernel
theorem dX3_fact_0 : decode cX3_fact 0 = .ok (.iload_n 1, 1) := by decide +kernel
theorem dX3_fact_1 : decode cX3_fact 1 = .ok (.tableswitch 167 302 323 #[151, 167, 167, 167, 167, 167, 167, 167, 167, 167, 167, 167, 167, 167, 167, 167, 103, 119, 135, 137, 144, 158], 103) := by decide +kernel
theorem dX3_fact_104 : decode cX3_fact 104 = .ok (.aload_n 0, 1) := by decide +kernel
theorem dX3_fact_105 : decode cX3_fact 105 = .ok (.getfield 53, 3) := by decide +kernel
theorem dX3_fact_108 : decode cX3_fact 108 = .ok (.iload_n 2, 1) := by decide +kernel
theorem dX3_fact_109 : decode cX3_fact 109 = .ok (.iaload, 1) := by decide +kernel
theorem dX3_fact_110 : decode cX3_fact 110 = .ok (.iconst 5, 1) := by decide +kernel
theorem dX3_fact_111 : decode cX3_fact 111 = .ok (.if_icmp .le 7, 3) := by decide +kernel
theorem dX3_fact_114 : decode cX3_fact 114 = .ok (.iconst 1, 1) := by decide +kernel
theorem dX3_fact_115 : decode cX3_fact 115 = .ok (.goto 4, 3) := by decide +kernel
theorem dX3_fact_118 : decode cX3_fact 118 = .ok (.iconst 0, 1) := by decide +kernel
theorem dX3_fact_119 : decode cX3_fact 119 = .ok (.ireturn, 1) := by decide +kernel
theorem dX3_fact_120 : decode cX3_fact 120 = .ok (.aload_n 0, 1) := by decide +kernel
theorem dX3_fact_121 : decode cX3_fact 121 = .ok (.getfield 53, 3) := by decide +kernel
theorem dX3_fact_124 : decode cX3_fact 124 = .ok (.iload_n 2, 1) := by decide +kernel
theorem dX3_fact_125 : decode cX3_fact 125 = .ok (.iaload, 1) := by decide +kernel
theorem dX3_fact_126 : decode cX3_fact 126 = .ok (.iconst 5, 1) := by decide +kernel
theorem dX3_fact_127 : decode cX3_fact 127 = .ok (.if_icmp .ne 7, 3) := by decide +kernel
theorem dX3_fact_130 : decode cX3_fact 130 = .ok (.iconst 1, 1) := by decide +kernel
theorem dX3_fact_131 : decode cX3_fact 131 = .ok (.goto 4, 3) := by decide +kernel
theorem dX3_fact_134 : decode cX3_fact 134 = .ok (.iconst 0, 1) := by decide +kernel
theorem dX3_fact_135 : decode cX3_fact 135 = .ok (.ireturn, 1) := by decide +kernel
theorem dX3_fact_136 : decode cX3_fact 136 = .ok (.iload_n 2, 1) := by decide +kernel
theorem dX3_fact_137 : decode cX3_fact 137 = .ok (.ireturn, 1) := by decide +kernel
theorem dX3_fact_138 : decode cX3_fact 138 = .ok (.aload_n 0, 1) := by decide +kernel
theorem dX3_fact_139 : decode cX3_fact 139 = .ok (.getfield 53, 3) := by decide +kernel
theorem dX3_fact_142 : decode cX3_fact 142 = .ok (.iload_n 2, 1) := by decide +kernel
theorem dX3_fact_143 : decode cX3_fact 143 = .ok (.iaload, 1) := by decide +kernel
theorem dX3_fact_144 : decode cX3_fact 144 = .ok (.ireturn, 1) := by decide +kernel
theorem dX3_fact_145 : decode cX3_fact 145 = .ok (.aload_n 0, 1) := by decide +kernel
theorem dX3_fact_146 : decode cX3_fact 146 = .ok (.getfield 50, 3) := by decide +kernel
theorem dX3_fact_149 : decode cX3_fact 149 = .ok (.iload_n 2, 1) := by decide +kernel
theorem dX3_fact_150 : decode cX3_fact 150 = .ok (.iaload, 1) := by decide +kernel
theorem dX3_fact_151 : decode cX3_fact 151 = .ok (.ireturn, 1) := by decide +kernel
theorem dX3_fact_152 : decode cX3_fact 152 = .ok (.aload_n 0, 1) := by decide +kernel
theorem dX3_fact_153 : decode cX3_fact 153 = .ok (.getfield 38, 3) := by decide +kernel
theorem dX3_fact_156 : decode cX3_fact 156 = .ok (.iload_n 2, 1) := by decide +kernel
theorem dX3_fact_157 : decode cX3_fact 157 = .ok (.iaload, 1) := by decide +kernel
theorem dX3_fact_158 : decode cX3_fact 158 = .ok (.ireturn, 1) := by decide +kernel
theorem dX3_fact_159 : decode cX3_fact 159 = .ok (.aload_n 0, 1) := by decide +kernel
theorem dX3_fact_160 : decode cX3_fact 160 = .ok (.getfield 25, 3) := by decide +kernel
theorem dX3_fact_163 : decode cX3_fact 163 = .ok (.iload_n 2, 1) := by decide +kernel
theorem dX3_fact_164 : decode cX3_fact 164 = .ok (.iconst 2, 1) := by decide +kernel
theorem dX3_fact_165 : decode cX3_fact 165 = .ok (.idiv, 1) := by decide +kernel
theorem dX3_fact_166 : decode cX3_fact 166 = .ok (.iaload, 1) := by decide +kernel
theorem dX3_fact_167 : decode cX3_fact 167 = .ok (.ireturn, 1) := by decide +kernel
theorem dX3_fact_168 : decode cX3_fact 168 = .ok (.aload_n 0, 1) := by decide +kernel
theorem dX3_fact_169 : decode cX3_fact 169 = .ok (.getfield 71, 3) := by decide +kernel
theorem dX3_fact_172 : decode cX3_fact 172 = .ok (.ireturn, 1) := by decide +kernel
theorem dX3_paysBy_0 : decode cX3_paysBy 0 = .ok (.aload_n 0, 1) := by decide +kernel
theorem dX3_paysBy_1 : decode cX3_paysBy 1 = .ok (.getfield 15, 3) := by decide +kernel
theorem dX3_paysBy_4 : decode cX3_paysBy 4 = .ok (.aload_n 0, 1) := by decide +kernel
theorem dX3_paysBy_5 : decode cX3_paysBy 5 = .ok (.getfield 53, 3) := by decide +kernel
theorem dX3_paysBy_8 : decode cX3_paysBy 8 = .ok (.iload_n 2, 1) := by decide +kernel
theorem dX3_paysBy_9 : decode cX3_paysBy 9 = .ok (.iaload, 1) := by decide +kernel
theorem dX3_paysBy_10 : decode cX3_paysBy 10 = .ok (.imul, 1) := by decide +kernel
theorem dX3_paysBy_11 : decode cX3_paysBy 11 = .ok (.aload_n 1, 1) := by decide +kernel
theorem dX3_paysBy_12 : decode cX3_paysBy 12 = .ok (.sipush 312, 3) := by decide +kernel
theorem dX3_paysBy_15 : decode cX3_paysBy 15 = .ok (.aload_n 0, 1) := by decide +kernel
theorem dX3_paysBy_16 : decode cX3_paysBy 16 = .ok (.iload_n 2, 1) := by decide +kernel
theorem dX3_paysBy_17 : decode cX3_paysBy 17 = .ok (.invokevirtual 100, 3) := by decide +kernel
theorem dX3_paysBy_20 : decode cX3_paysBy 20 = .ok (.iadd, 1) := by decide +kernel
theorem dX3_paysBy_21 : decode cX3_paysBy 21 = .ok (.ireturn, 1) := by decide +kernel
theorem dX3_luresBy_0 : decode cX3_luresBy 0 = .ok (.aload_n 1, 1) := by decide +kernel
theorem dX3_luresBy_1 : decode cX3_luresBy 1 = .ok (.sipush 313, 3) := by decide +kernel
theorem dX3_luresBy_4 : decode cX3_luresBy 4 = .ok (.aload_n 0, 1) := by decide +kernel
theorem dX3_luresBy_5 : decode cX3_luresBy 5 = .ok (.iload_n 2, 1) := by decide +kernel
theorem dX3_luresBy_6 : decode cX3_luresBy 6 = .ok (.invokevirtual 100, 3) := by decide +kernel
theorem dX3_luresBy_9 : decode cX3_luresBy 9 = .ok (.aload_n 0, 1) := by decide +kernel
theorem dX3_luresBy_10 : decode cX3_luresBy 10 = .ok (.iload_n 2, 1) := by decide +kernel
theorem dX3_luresBy_11 : decode cX3_luresBy 11 = .ok (.invokevirtual 106, 3) := by decide +kernel
theorem dX3_luresBy_14 : decode cX3_luresBy 14 = .ok (.iadd, 1) := by decide +kernel
theorem dX3_luresBy_15 : decode cX3_luresBy 15 = .ok (.ireturn, 1) := by decide +kernel
theorem dX3_agesBy_0 : decode cX3_agesBy 0 = .ok (.iconst 1, 1) := by decide +kernel
theorem dX3_agesBy_1 : decode cX3_agesBy 1 = .ok (.aload_n 1, 1) := by decide +kernel
theorem dX3_agesBy_2 : decode cX3_agesBy 2 = .ok (.sipush 311, 3) := by decide +kernel
theorem dX3_agesBy_5 : decode cX3_agesBy 5 = .ok (.aload_n 0, 1) := by decide +kernel
theorem dX3_agesBy_6 : decode cX3_agesBy 6 = .ok (.iconst 2, 1) := by decide +kernel
theorem dX3_agesBy_7 : decode cX3_agesBy 7 = .ok (.iload_n 2, 1) := by decide +kernel
theorem dX3_agesBy_8 : decode cX3_agesBy 8 = .ok (.imul, 1) := by decide +kernel
theorem dX3_agesBy_9 : decode cX3_agesBy 9 = .ok (.invokevirtual 100, 3) := by decide +kernel
theorem dX3_agesBy_12 : decode cX3_agesBy 12 = .ok (.iadd, 1) := by decide +kernel
theorem dX3_agesBy_13 : decode cX3_agesBy 13 = .ok (.ireturn, 1) := by decide +kernel
theorem dX3_thingsIn_0 : decode cX3_thingsIn 0 = .ok (.iconst 0, 1) := by decide +kernel
theorem dX3_thingsIn_1 : decode cX3_thingsIn 1 = .ok (.istore_n 2, 1) := by decide +kernel
theorem dX3_thingsIn_2 : decode cX3_thingsIn 2 = .ok (.iconst 0, 1) := by decide +kernel
theorem dX3_thingsIn_3 : decode cX3_thingsIn 3 = .ok (.istore_n 3, 1) := by decide +kernel
theorem dX3_thingsIn_4 : decode cX3_thingsIn 4 = .ok (.iload_n 3, 1) := by decide +kernel
theorem dX3_thingsIn_5 : decode cX3_thingsIn 5 = .ok (.aload_n 0, 1) := by decide +kernel
theorem dX3_thingsIn_6 : decode cX3_thingsIn 6 = .ok (.getfield 59, 3) := by decide +kernel
theorem dX3_thingsIn_9 : decode cX3_thingsIn 9 = .ok (.if_icmp .ge 25, 3) := by decide +kernel
theorem dX3_thingsIn_12 : decode cX3_thingsIn 12 = .ok (.aload_n 0, 1) := by decide +kernel
theorem dX3_thingsIn_13 : decode cX3_thingsIn 13 = .ok (.getfield 47, 3) := by decide +kernel
theorem dX3_thingsIn_16 : decode cX3_thingsIn 16 = .ok (.iload_n 3, 1) := by decide +kernel
theorem dX3_thingsIn_17 : decode cX3_thingsIn 17 = .ok (.iaload, 1) := by decide +kernel
theorem dX3_thingsIn_18 : decode cX3_thingsIn 18 = .ok (.iload_n 1, 1) := by decide +kernel
theorem dX3_thingsIn_19 : decode cX3_thingsIn 19 = .ok (.if_icmp .ne 9, 3) := by decide +kernel
theorem dX3_thingsIn_22 : decode cX3_thingsIn 22 = .ok (.iload_n 2, 1) := by decide +kernel
theorem dX3_thingsIn_23 : decode cX3_thingsIn 23 = .ok (.iconst 1, 1) := by decide +kernel
theorem dX3_thingsIn_24 : decode cX3_thingsIn 24 = .ok (.iload_n 3, 1) := by decide +kernel
theorem dX3_thingsIn_25 : decode cX3_thingsIn 25 = .ok (.ishl, 1) := by decide +kernel
theorem dX3_thingsIn_26 : decode cX3_thingsIn 26 = .ok (.ior, 1) := by decide +kernel
theorem dX3_thingsIn_27 : decode cX3_thingsIn 27 = .ok (.istore_n 2, 1) := by decide +kernel
theorem dX3_thingsIn_28 : decode cX3_thingsIn 28 = .ok (.iinc 3 1, 3) := by decide +kernel
theorem dX3_thingsIn_31 : decode cX3_thingsIn 31 = .ok (.goto (-27), 3) := by decide +kernel
theorem dX3_thingsIn_34 : decode cX3_thingsIn 34 = .ok (.iload_n 2, 1) := by decide +kernel
theorem dX3_thingsIn_35 : decode cX3_thingsIn 35 = .ok (.ireturn, 1) := by decide +kernel
theorem dX3_goneThings_0 : decode cX3_goneThings 0 = .ok (.aload_n 0, 1) := by decide +kernel
theorem dX3_goneThings_1 : decode cX3_goneThings 1 = .ok (.iconst (-1), 1) := by decide +kernel
theorem dX3_goneThings_2 : decode cX3_goneThings 2 = .ok (.invokevirtual 109, 3) := by decide +kernel
theorem dX3_goneThings_5 : decode cX3_goneThings 5 = .ok (.ireturn, 1) := by decide +kernel
theorem dX3_worthIn_0 : decode cX3_worthIn 0 = .ok (.iconst 0, 1) := by decide +kernel
theorem dX3_worthIn_1 : decode cX3_worthIn 1 = .ok (.istore_n 2, 1) := by decide +kernel
theorem dX3_worthIn_2 : decode cX3_worthIn 2 = .ok (.iconst 0, 1) := by decide +kernel
theorem dX3_worthIn_3 : decode cX3_worthIn 3 = .ok (.istore_n 3, 1) := by decide +kernel
theorem dX3_worthIn_4 : decode cX3_worthIn 4 = .ok (.iload_n 3, 1) := by decide +kernel
theorem dX3_worthIn_5 : decode cX3_worthIn 5 = .ok (.aload_n 0, 1) := by decide +kernel
theorem dX3_worthIn_6 : decode cX3_worthIn 6 = .ok (.getfield 59, 3) := by decide +kernel
theorem dX3_worthIn_9 : decode cX3_worthIn 9 = .ok (.if_icmp .ge 28, 3) := by decide +kernel
theorem dX3_worthIn_12 : decode cX3_worthIn 12 = .ok (.aload_n 0, 1) := by decide +kernel
theorem dX3_worthIn_13 : decode cX3_worthIn 13 = .ok (.getfield 47, 3) := by decide +kernel
theorem dX3_worthIn_16 : decode cX3_worthIn 16 = .ok (.iload_n 3, 1) := by decide +kernel
theorem dX3_worthIn_17 : decode cX3_worthIn 17 = .ok (.iaload, 1) := by decide +kernel
theorem dX3_worthIn_18 : decode cX3_worthIn 18 = .ok (.iload_n 1, 1) := by decide +kernel
theorem dX3_worthIn_19 : decode cX3_worthIn 19 = .ok (.if_icmp .ne 12, 3) := by decide +kernel
theorem dX3_worthIn_22 : decode cX3_worthIn 22 = .ok (.iload_n 2, 1) := by decide +kernel
theorem dX3_worthIn_23 : decode cX3_worthIn 23 = .ok (.aload_n 0, 1) := by decide +kernel
theorem dX3_worthIn_24 : decode cX3_worthIn 24 = .ok (.getfield 44, 3) := by decide +kernel
theorem dX3_worthIn_27 : decode cX3_worthIn 27 = .ok (.iload_n 3, 1) := by decide +kernel
theorem dX3_worthIn_28 : decode cX3_worthIn 28 = .ok (.iaload, 1) := by decide +kernel
theorem dX3_worthIn_29 : decode cX3_worthIn 29 = .ok (.iadd, 1) := by decide +kernel
theorem dX3_worthIn_30 : decode cX3_worthIn 30 = .ok (.istore_n 2, 1) := by decide +kernel
theorem dX3_worthIn_31 : decode cX3_worthIn 31 = .ok (.iinc 3 1, 3) := by decide +kernel
theorem dX3_worthIn_34 : decode cX3_worthIn 34 = .ok (.goto (-30), 3) := by decide +kernel
theorem dX3_worthIn_37 : decode cX3_worthIn 37 = .ok (.iload_n 2, 1) := by decide +kernel
theorem dX3_worthIn_38 : decode cX3_worthIn 38 = .ok (.ireturn, 1) := by decide +kernel
theorem dX3_weightOf_0 : decode cX3_weightOf 0 = .ok (.iconst 0, 1) := by decide +kernel
theorem dX3_weightOf_1 : decode cX3_weightOf 1 = .ok (.istore_n 2, 1) := by decide +kernel
theorem dX3_weightOf_2 : decode cX3_weightOf 2 = .ok (.iconst 0, 1) := by decide +kernel
theorem dX3_weightOf_3 : decode cX3_weightOf 3 = .ok (.istore_n 3, 1) := by decide +kernel
theorem dX3_weightOf_4 : decode cX3_weightOf 4 = .ok (.iload_n 3, 1) := by decide +kernel
theorem dX3_weightOf_5 : decode cX3_weightOf 5 = .ok (.aload_n 0, 1) := by decide +kernel
theorem dX3_weightOf_6 : decode cX3_weightOf 6 = .ok (.getfield 59, 3) := by decide +kernel
theorem dX3_weightOf_9 : decode cX3_weightOf 9 = .ok (.if_icmp .ge 26, 3) := by decide +kernel
theorem dX3_weightOf_12 : decode cX3_weightOf 12 = .ok (.iload_n 1, 1) := by decide +kernel
theorem dX3_weightOf_13 : decode cX3_weightOf 13 = .ok (.iload_n 3, 1) := by decide +kernel
theorem dX3_weightOf_14 : decode cX3_weightOf 14 = .ok (.ishr, 1) := by decide +kernel
theorem dX3_weightOf_15 : decode cX3_weightOf 15 = .ok (.iconst 1, 1) := by decide +kernel
theorem dX3_weightOf_16 : decode cX3_weightOf 16 = .ok (.iand, 1) := by decide +kernel
theorem dX3_weightOf_17 : decode cX3_weightOf 17 = .ok (.ifCond .eq 12, 3) := by decide +kernel
theorem dX3_weightOf_20 : decode cX3_weightOf 20 = .ok (.iload_n 2, 1) := by decide +kernel
theorem dX3_weightOf_21 : decode cX3_weightOf 21 = .ok (.aload_n 0, 1) := by decide +kernel
theorem dX3_weightOf_22 : decode cX3_weightOf 22 = .ok (.getfield 41, 3) := by decide +kernel
theorem dX3_weightOf_25 : decode cX3_weightOf 25 = .ok (.iload_n 3, 1) := by decide +kernel
theorem dX3_weightOf_26 : decode cX3_weightOf 26 = .ok (.iaload, 1) := by decide +kernel
theorem dX3_weightOf_27 : decode cX3_weightOf 27 = .ok (.iadd, 1) := by decide +kernel
theorem dX3_weightOf_28 : decode cX3_weightOf 28 = .ok (.istore_n 2, 1) := by decide +kernel
theorem dX3_weightOf_29 : decode cX3_weightOf 29 = .ok (.iinc 3 1, 3) := by decide +kernel
theorem dX3_weightOf_32 : decode cX3_weightOf 32 = .ok (.goto (-28), 3) := by decide +kernel
theorem dX3_weightOf_35 : decode cX3_weightOf 35 = .ok (.iload_n 2, 1) := by decide +kernel
theorem dX3_weightOf_36 : decode cX3_weightOf 36 = .ok (.ireturn, 1) := by decide +kernel
theorem dX3_brokenPlanks_0 : decode cX3_brokenPlanks 0 = .ok (.iconst 0, 1) := by decide +kernel
theorem dX3_brokenPlanks_1 : decode cX3_brokenPlanks 1 = .ok (.istore_n 1, 1) := by decide +kernel
theorem dX3_brokenPlanks_2 : decode cX3_brokenPlanks 2 = .ok (.iconst 0, 1) := by decide +kernel
theorem dX3_brokenPlanks_3 : decode cX3_brokenPlanks 3 = .ok (.istore_n 2, 1) := by decide +kernel
theorem dX3_brokenPlanks_4 : decode cX3_brokenPlanks 4 = .ok (.iload_n 2, 1) := by decide +kernel
theorem dX3_brokenPlanks_5 : decode cX3_brokenPlanks 5 = .ok (.aload_n 0, 1) := by decide +kernel
theorem dX3_brokenPlanks_6 : decode cX3_brokenPlanks 6 = .ok (.getfield 56, 3) := by decide +kernel
theorem dX3_brokenPlanks_9 : decode cX3_brokenPlanks 9 = .ok (.if_icmp .ge 24, 3) := by decide +kernel
theorem dX3_brokenPlanks_12 : decode cX3_brokenPlanks 12 = .ok (.aload_n 0, 1) := by decide +kernel
theorem dX3_brokenPlanks_13 : decode cX3_brokenPlanks 13 = .ok (.getfield 32, 3) := by decide +kernel
theorem dX3_brokenPlanks_16 : decode cX3_brokenPlanks 16 = .ok (.iload_n 2, 1) := by decide +kernel
theorem dX3_brokenPlanks_17 : decode cX3_brokenPlanks 17 = .ok (.baload, 1) := by decide +kernel
theorem dX3_brokenPlanks_18 : decode cX3_brokenPlanks 18 = .ok (.ifCond .eq 9, 3) := by decide +kernel
theorem dX3_brokenPlanks_21 : decode cX3_brokenPlanks 21 = .ok (.iload_n 1, 1) := by decide +kernel
theorem dX3_brokenPlanks_22 : decode cX3_brokenPlanks 22 = .ok (.iconst 1, 1) := by decide +kernel
theorem dX3_brokenPlanks_23 : decode cX3_brokenPlanks 23 = .ok (.iload_n 2, 1) := by decide +kernel
theorem dX3_brokenPlanks_24 : decode cX3_brokenPlanks 24 = .ok (.ishl, 1) := by decide +kernel
theorem dX3_brokenPlanks_25 : decode cX3_brokenPlanks 25 = .ok (.ior, 1) := by decide +kernel
theorem dX3_brokenPlanks_26 : decode cX3_brokenPlanks 26 = .ok (.istore_n 1, 1) := by decide +kernel
theorem dX3_brokenPlanks_27 : decode cX3_brokenPlanks 27 = .ok (.iinc 2 1, 3) := by decide +kernel
theorem dX3_brokenPlanks_30 : decode cX3_brokenPlanks 30 = .ok (.goto (-26), 3) := by decide +kernel
theorem dX3_brokenPlanks_33 : decode cX3_brokenPlanks 33 = .ok (.iload_n 1, 1) := by decide +kernel
theorem dX3_brokenPlanks_34 : decode cX3_brokenPlanks 34 = .ok (.ireturn, 1) := by decide +kernel
theorem dX3_purseSum_0 : decode cX3_purseSum 0 = .ok (.iconst 0, 1) := by decide +kernel
theorem dX3_purseSum_1 : decode cX3_purseSum 1 = .ok (.istore_n 1, 1) := by decide +kernel
theorem dX3_purseSum_2 : decode cX3_purseSum 2 = .ok (.iconst 0, 1) := by decide +kernel
theorem dX3_purseSum_3 : decode cX3_purseSum 3 = .ok (.istore_n 2, 1) := by decide +kernel
theorem dX3_purseSum_4 : decode cX3_purseSum 4 = .ok (.iload_n 2, 1) := by decide +kernel
theorem dX3_purseSum_5 : decode cX3_purseSum 5 = .ok (.aload_n 0, 1) := by decide +kernel
theorem dX3_purseSum_6 : decode cX3_purseSum 6 = .ok (.invokevirtual 80, 3) := by decide +kernel
theorem dX3_purseSum_9 : decode cX3_purseSum 9 = .ok (.if_icmp .ge 18, 3) := by decide +kernel
theorem dX3_purseSum_12 : decode cX3_purseSum 12 = .ok (.iload_n 1, 1) := by decide +kernel
theorem dX3_purseSum_13 : decode cX3_purseSum 13 = .ok (.aload_n 0, 1) := by decide +kernel
theorem dX3_purseSum_14 : decode cX3_purseSum 14 = .ok (.getfield 35, 3) := by decide +kernel
theorem dX3_purseSum_17 : decode cX3_purseSum 17 = .ok (.iload_n 2, 1) := by decide +kernel
theorem dX3_purseSum_18 : decode cX3_purseSum 18 = .ok (.iaload, 1) := by decide +kernel
theorem dX3_purseSum_19 : decode cX3_purseSum 19 = .ok (.iadd, 1) := by decide +kernel
theorem dX3_purseSum_20 : decode cX3_purseSum 20 = .ok (.istore_n 1, 1) := by decide +kernel
theorem dX3_purseSum_21 : decode cX3_purseSum 21 = .ok (.iinc 2 1, 3) := by decide +kernel
theorem dX3_purseSum_24 : decode cX3_purseSum 24 = .ok (.goto (-20), 3) := by decide +kernel
theorem dX3_purseSum_27 : decode cX3_purseSum 27 = .ok (.iload_n 1, 1) := by decide +kernel
theorem dX3_purseSum_28 : decode cX3_purseSum 28 = .ok (.ireturn, 1) := by decide +kernel
theorem dX3_hasEmptyPurse_0 : decode cX3_hasEmptyPurse 0 = .ok (.iconst 0, 1) := by decide +kernel
theorem dX3_hasEmptyPurse_1 : decode cX3_hasEmptyPurse 1 = .ok (.istore_n 1, 1) := by decide +kernel
theorem dX3_hasEmptyPurse_2 : decode cX3_hasEmptyPurse 2 = .ok (.iload_n 1, 1) := by decide +kernel
theorem dX3_hasEmptyPurse_3 : decode cX3_hasEmptyPurse 3 = .ok (.aload_n 0, 1) := by decide +kernel
theorem dX3_hasEmptyPurse_4 : decode cX3_hasEmptyPurse 4 = .ok (.invokevirtual 80, 3) := by decide +kernel
theorem dX3_hasEmptyPurse_7 : decode cX3_hasEmptyPurse 7 = .ok (.if_icmp .ge 20, 3) := by decide +kernel
theorem dX3_hasEmptyPurse_10 : decode cX3_hasEmptyPurse 10 = .ok (.aload_n 0, 1) := by decide +kernel
theorem dX3_hasEmptyPurse_11 : decode cX3_hasEmptyPurse 11 = .ok (.getfield 35, 3) := by decide +kernel
theorem dX3_hasEmptyPurse_14 : decode cX3_hasEmptyPurse 14 = .ok (.iload_n 1, 1) := by decide +kernel
theorem dX3_hasEmptyPurse_15 : decode cX3_hasEmptyPurse 15 = .ok (.iaload, 1) := by decide +kernel
theorem dX3_hasEmptyPurse_16 : decode cX3_hasEmptyPurse 16 = .ok (.ifCond .ne 5, 3) := by decide +kernel
theorem dX3_hasEmptyPurse_19 : decode cX3_hasEmptyPurse 19 = .ok (.iconst 1, 1) := by decide +kernel
theorem dX3_hasEmptyPurse_20 : decode cX3_hasEmptyPurse 20 = .ok (.ireturn, 1) := by decide +kernel
theorem dX3_hasEmptyPurse_21 : decode cX3_hasEmptyPurse 21 = .ok (.iinc 1 1, 3) := by decide +kernel
theorem dX3_hasEmptyPurse_24 : decode cX3_hasEmptyPurse 24 = .ok (.goto (-22), 3) := by decide +kernel
theorem dX3_hasEmptyPurse_27 : decode cX3_hasEmptyPurse 27 = .ok (.iconst 0, 1) := by decide +kernel
theorem dX3_hasEmptyPurse_28 : decode cX3_hasEmptyPurse 28 = .ok (.ireturn, 1) := by decide +kernel
theorem dX3_shareOf_0 : decode cX3_shareOf 0 = .ok (.iconst 0, 1) := by decide +kernel
theorem dX3_shareOf_1 : decode cX3_shareOf 1 = .ok (.istore_n 2, 1) := by decide +kernel
theorem dX3_shareOf_2 : decode cX3_shareOf 2 = .ok (.iconst 0, 1) := by decide +kernel
theorem dX3_shareOf_3 : decode cX3_shareOf 3 = .ok (.istore_n 3, 1) := by decide +kernel
theorem dX3_shareOf_4 : decode cX3_shareOf 4 = .ok (.iload_n 3, 1) := by decide +kernel
theorem dX3_shareOf_5 : decode cX3_shareOf 5 = .ok (.aload_n 0, 1) := by decide +kernel
theorem dX3_shareOf_6 : decode cX3_shareOf 6 = .ok (.invokevirtual 80, 3) := by decide +kernel
theorem dX3_shareOf_9 : decode cX3_shareOf 9 = .ok (.if_icmp .ge 24, 3) := by decide +kernel
theorem dX3_shareOf_12 : decode cX3_shareOf 12 = .ok (.iload_n 2, 1) := by decide +kernel
theorem dX3_shareOf_13 : decode cX3_shareOf 13 = .ok (.iconst 0, 1) := by decide +kernel
theorem dX3_shareOf_14 : decode cX3_shareOf 14 = .ok (.iconst 5, 1) := by decide +kernel
theorem dX3_shareOf_15 : decode cX3_shareOf 15 = .ok (.aload_n 0, 1) := by decide +kernel
theorem dX3_shareOf_16 : decode cX3_shareOf 16 = .ok (.getfield 53, 3) := by decide +kernel
theorem dX3_shareOf_19 : decode cX3_shareOf 19 = .ok (.iload_n 3, 1) := by decide +kernel
theorem dX3_shareOf_20 : decode cX3_shareOf 20 = .ok (.iaload, 1) := by decide +kernel
theorem dX3_shareOf_21 : decode cX3_shareOf 21 = .ok (.isub, 1) := by decide +kernel
theorem dX3_shareOf_22 : decode cX3_shareOf 22 = .ok (.invokestatic 97, 3) := by decide +kernel
theorem dX3_shareOf_25 : decode cX3_shareOf 25 = .ok (.iadd, 1) := by decide +kernel
theorem dX3_shareOf_26 : decode cX3_shareOf 26 = .ok (.istore_n 2, 1) := by decide +kernel
theorem dX3_shareOf_27 : decode cX3_shareOf 27 = .ok (.iinc 3 1, 3) := by decide +kernel
theorem dX3_shareOf_30 : decode cX3_shareOf 30 = .ok (.goto (-26), 3) := by decide +kernel
theorem dX3_shareOf_33 : decode cX3_shareOf 33 = .ok (.iload_n 2, 1) := by decide +kernel
theorem dX3_shareOf_34 : decode cX3_shareOf 34 = .ok (.ifCond .le 23, 3) := by decide +kernel
theorem dX3_shareOf_37 : decode cX3_shareOf 37 = .ok (.bipush 100, 2) := by decide +kernel
theorem dX3_shareOf_39 : decode cX3_shareOf 39 = .ok (.iconst 0, 1) := by decide +kernel
theorem dX3_shareOf_40 : decode cX3_shareOf 40 = .ok (.iconst 5, 1) := by decide +kernel
theorem dX3_shareOf_41 : decode cX3_shareOf 41 = .ok (.aload_n 0, 1) := by decide +kernel
theorem dX3_shareOf_42 : decode cX3_shareOf 42 = .ok (.getfield 53, 3) := by decide +kernel
theorem dX3_shareOf_45 : decode cX3_shareOf 45 = .ok (.iload_n 1, 1) := by decide +kernel
theorem dX3_shareOf_46 : decode cX3_shareOf 46 = .ok (.iaload, 1) := by decide +kernel
theorem dX3_shareOf_47 : decode cX3_shareOf 47 = .ok (.isub, 1) := by decide +kernel
theorem dX3_shareOf_48 : decode cX3_shareOf 48 = .ok (.invokestatic 97, 3) := by decide +kernel
theorem dX3_shareOf_51 : decode cX3_shareOf 51 = .ok (.imul, 1) := by decide +kernel
theorem dX3_shareOf_52 : decode cX3_shareOf 52 = .ok (.iload_n 2, 1) := by decide +kernel
theorem dX3_shareOf_53 : decode cX3_shareOf 53 = .ok (.idiv, 1) := by decide +kernel
theorem dX3_shareOf_54 : decode cX3_shareOf 54 = .ok (.goto 4, 3) := by decide +kernel
theorem dX3_shareOf_57 : decode cX3_shareOf 57 = .ok (.iconst 0, 1) := by decide +kernel
theorem dX3_shareOf_58 : decode cX3_shareOf 58 = .ok (.ireturn, 1) := by decide +kernel
theorem dX3_corkOf_0 : decode cX3_corkOf 0 = .ok (.iload_n 1, 1) := by decide +kernel
theorem dX3_corkOf_1 : decode cX3_corkOf 1 = .ok (.iconst 2, 1) := by decide +kernel
theorem dX3_corkOf_2 : decode cX3_corkOf 2 = .ok (.idiv, 1) := by decide +kernel
theorem dX3_corkOf_3 : decode cX3_corkOf 3 = .ok (.istore_n 2, 1) := by decide +kernel
theorem dX3_corkOf_4 : decode cX3_corkOf 4 = .ok (.aload_n 0, 1) := by decide +kernel
theorem dX3_corkOf_5 : decode cX3_corkOf 5 = .ok (.getfield 32, 3) := by decide +kernel
theorem dX3_corkOf_8 : decode cX3_corkOf 8 = .ok (.iload_n 2, 1) := by decide +kernel
theorem dX3_corkOf_9 : decode cX3_corkOf 9 = .ok (.baload, 1) := by decide +kernel
theorem dX3_corkOf_10 : decode cX3_corkOf 10 = .ok (.ifCond .eq 5, 3) := by decide +kernel
theorem dX3_corkOf_13 : decode cX3_corkOf 13 = .ok (.iconst 0, 1) := by decide +kernel
theorem dX3_corkOf_14 : decode cX3_corkOf 14 = .ok (.ireturn, 1) := by decide +kernel
theorem dX3_corkOf_15 : decode cX3_corkOf 15 = .ok (.iload_n 1, 1) := by decide +kernel
theorem dX3_corkOf_16 : decode cX3_corkOf 16 = .ok (.iconst 2, 1) := by decide +kernel
theorem dX3_corkOf_17 : decode cX3_corkOf 17 = .ok (.irem, 1) := by decide +kernel
theorem dX3_corkOf_18 : decode cX3_corkOf 18 = .ok (.ifCond .ne 9, 3) := by decide +kernel
theorem dX3_corkOf_21 : decode cX3_corkOf 21 = .ok (.iload_n 1, 1) := by decide +kernel
theorem dX3_corkOf_22 : decode cX3_corkOf 22 = .ok (.iconst 1, 1) := by decide +kernel
theorem dX3_corkOf_23 : decode cX3_corkOf 23 = .ok (.iadd, 1) := by decide +kernel
theorem dX3_corkOf_24 : decode cX3_corkOf 24 = .ok (.goto 6, 3) := by decide +kernel
theorem dX3_corkOf_27 : decode cX3_corkOf 27 = .ok (.iload_n 1, 1) := by decide +kernel
theorem dX3_corkOf_28 : decode cX3_corkOf 28 = .ok (.iconst 1, 1) := by decide +kernel
theorem dX3_corkOf_29 : decode cX3_corkOf 29 = .ok (.isub, 1) := by decide +kernel
theorem dX3_corkOf_30 : decode cX3_corkOf 30 = .ok (.istore_n 3, 1) := by decide +kernel
theorem dX3_corkOf_31 : decode cX3_corkOf 31 = .ok (.aload_n 0, 1) := by decide +kernel
theorem dX3_corkOf_32 : decode cX3_corkOf 32 = .ok (.getfield 28, 3) := by decide +kernel
theorem dX3_corkOf_35 : decode cX3_corkOf 35 = .ok (.iload_n 2, 1) := by decide +kernel
theorem dX3_corkOf_36 : decode cX3_corkOf 36 = .ok (.baload, 1) := by decide +kernel
theorem dX3_corkOf_37 : decode cX3_corkOf 37 = .ok (.ifCond .eq 7, 3) := by decide +kernel
theorem dX3_corkOf_40 : decode cX3_corkOf 40 = .ok (.iconst 5, 1) := by decide +kernel
theorem dX3_corkOf_41 : decode cX3_corkOf 41 = .ok (.goto 19, 3) := by decide +kernel
theorem dX3_corkOf_44 : decode cX3_corkOf 44 = .ok (.iconst 5, 1) := by decide +kernel
theorem dX3_corkOf_45 : decode cX3_corkOf 45 = .ok (.aload_n 0, 1) := by decide +kernel
theorem dX3_corkOf_46 : decode cX3_corkOf 46 = .ok (.aload_n 0, 1) := by decide +kernel
theorem dX3_corkOf_47 : decode cX3_corkOf 47 = .ok (.getfield 62, 3) := by decide +kernel
theorem dX3_corkOf_50 : decode cX3_corkOf 50 = .ok (.aload_n 0, 1) := by decide +kernel
theorem dX3_corkOf_51 : decode cX3_corkOf 51 = .ok (.getfield 50, 3) := by decide +kernel
theorem dX3_corkOf_54 : decode cX3_corkOf 54 = .ok (.iload_n 3, 1) := by decide +kernel
theorem dX3_corkOf_55 : decode cX3_corkOf 55 = .ok (.iaload, 1) := by decide +kernel
theorem dX3_corkOf_56 : decode cX3_corkOf 56 = .ok (.invokevirtual 88, 3) := by decide +kernel
theorem dX3_corkOf_59 : decode cX3_corkOf 59 = .ok (.iadd, 1) := by decide +kernel
theorem dX3_corkOf_60 : decode cX3_corkOf 60 = .ok (.ireturn, 1) := by decide +kernel
theorem dX3_draw_0 : decode cX3_draw 0 = .ok (.aload_n 0, 1) := by decide +kernel
theorem dX3_draw_1 : decode cX3_draw 1 = .ok (.ldc 112, 2) := by decide +kernel
theorem dX3_draw_3 : decode cX3_draw 3 = .ok (.aload_n 0, 1) := by decide +kernel
theorem dX3_draw_4 : decode cX3_draw 4 = .ok (.getfield 18, 3) := by decide +kernel
theorem dX3_draw_7 : decode cX3_draw 7 = .ok (.imul, 1) := by decide +kernel
theorem dX3_draw_8 : decode cX3_draw 8 = .ok (.sipush 12345, 3) := by decide +kernel
theorem dX3_draw_11 : decode cX3_draw 11 = .ok (.iadd, 1) := by decide +kernel
theorem dX3_draw_12 : decode cX3_draw 12 = .ok (.putfield 18, 3) := by decide +kernel
theorem dX3_draw_15 : decode cX3_draw 15 = .ok (.aload_n 0, 1) := by decide +kernel
theorem dX3_draw_16 : decode cX3_draw 16 = .ok (.getfield 18, 3) := by decide +kernel
theorem dX3_draw_19 : decode cX3_draw 19 = .ok (.bipush 16, 2) := by decide +kernel
theorem dX3_draw_21 : decode cX3_draw 21 = .ok (.iushr, 1) := by decide +kernel
theorem dX3_draw_22 : decode cX3_draw 22 = .ok (.sipush 32767, 3) := by decide +kernel
theorem dX3_draw_25 : decode cX3_draw 25 = .ok (.iand, 1) := by decide +kernel
theorem dX3_draw_26 : decode cX3_draw 26 = .ok (.ireturn, 1) := by decide +kernel
theorem dX3_passWeek_0 : decode cX3_passWeek 0 = .ok (.aload_n 0, 1) := by decide +kernel
theorem dX3_passWeek_1 : decode cX3_passWeek 1 = .ok (.invokevirtual 113, 3) := by decide +kernel
theorem dX3_passWeek_4 : decode cX3_passWeek 4 = .ok (.bipush 100, 2) := by decide +kernel
theorem dX3_passWeek_6 : decode cX3_passWeek 6 = .ok (.irem, 1) := by decide +kernel
theorem dX3_passWeek_7 : decode cX3_passWeek 7 = .ok (.aload_n 0, 1) := by decide +kernel
theorem dX3_passWeek_8 : decode cX3_passWeek 8 = .ok (.getfield 65, 3) := by decide +kernel
theorem dX3_passWeek_11 : decode cX3_passWeek 11 = .ok (.if_icmp .ge 27, 3) := by decide +kernel
theorem dX3_passWeek_14 : decode cX3_passWeek 14 = .ok (.aload_n 0, 1) := by decide +kernel
theorem dX3_passWeek_15 : decode cX3_passWeek 15 = .ok (.bipush 99, 2) := by decide +kernel
theorem dX3_passWeek_17 : decode cX3_passWeek 17 = .ok (.aload_n 0, 1) := by decide +kernel
theorem dX3_passWeek_18 : decode cX3_passWeek 18 = .ok (.getfield 62, 3) := by decide +kernel
theorem dX3_passWeek_21 : decode cX3_passWeek 21 = .ok (.aload_n 0, 1) := by decide +kernel
theorem dX3_passWeek_22 : decode cX3_passWeek 22 = .ok (.invokevirtual 113, 3) := by decide +kernel
theorem dX3_passWeek_25 : decode cX3_passWeek 25 = .ok (.bipush 10, 2) := by decide +kernel
theorem dX3_passWeek_27 : decode cX3_passWeek 27 = .ok (.irem, 1) := by decide +kernel
theorem dX3_passWeek_28 : decode cX3_passWeek 28 = .ok (.iadd, 1) := by decide +kernel
theorem dX3_passWeek_29 : decode cX3_passWeek 29 = .ok (.invokestatic 92, 3) := by decide +kernel
theorem dX3_passWeek_32 : decode cX3_passWeek 32 = .ok (.putfield 62, 3) := by decide +kernel
theorem dX3_passWeek_35 : decode cX3_passWeek 35 = .ok (.goto 13, 3) := by decide +kernel
theorem dX3_passWeek_38 : decode cX3_passWeek 38 = .ok (.aload_n 0, 1) := by decide +kernel
theorem dX3_passWeek_39 : decode cX3_passWeek 39 = .ok (.dup, 1) := by decide +kernel
theorem dX3_passWeek_40 : decode cX3_passWeek 40 = .ok (.getfield 62, 3) := by decide +kernel
theorem dX3_passWeek_43 : decode cX3_passWeek 43 = .ok (.iconst 2, 1) := by decide +kernel
theorem dX3_passWeek_44 : decode cX3_passWeek 44 = .ok (.idiv, 1) := by decide +kernel
theorem dX3_passWeek_45 : decode cX3_passWeek 45 = .ok (.putfield 62, 3) := by decide +kernel
theorem dX3_passWeek_48 : decode cX3_passWeek 48 = .ok (.aload_n 0, 1) := by decide +kernel
theorem dX3_passWeek_49 : decode cX3_passWeek 49 = .ok (.invokevirtual 116, 3) := by decide +kernel
theorem dX3_passWeek_52 : decode cX3_passWeek 52 = .ok (.iconst 0, 1) := by decide +kernel
theorem dX3_passWeek_53 : decode cX3_passWeek 53 = .ok (.istore_n 3, 1) := by decide +kernel
theorem dX3_passWeek_54 : decode cX3_passWeek 54 = .ok (.iload_n 3, 1) := by decide +kernel
theorem dX3_passWeek_55 : decode cX3_passWeek 55 = .ok (.aload_n 0, 1) := by decide +kernel
theorem dX3_passWeek_56 : decode cX3_passWeek 56 = .ok (.getfield 56, 3) := by decide +kernel
theorem dX3_passWeek_59 : decode cX3_passWeek 59 = .ok (.if_icmp .ge 15, 3) := by decide +kernel
theorem dX3_passWeek_62 : decode cX3_passWeek 62 = .ok (.aload_n 0, 1) := by decide +kernel
theorem dX3_passWeek_63 : decode cX3_passWeek 63 = .ok (.aload_n 1, 1) := by decide +kernel
theorem dX3_passWeek_64 : decode cX3_passWeek 64 = .ok (.iload_n 3, 1) := by decide +kernel
theorem dX3_passWeek_65 : decode cX3_passWeek 65 = .ok (.invokevirtual 119, 3) := by decide +kernel
theorem dX3_passWeek_68 : decode cX3_passWeek 68 = .ok (.iinc 3 1, 3) := by decide +kernel
theorem dX3_passWeek_71 : decode cX3_passWeek 71 = .ok (.goto (-17), 3) := by decide +kernel
theorem dX3_passWeek_74 : decode cX3_passWeek 74 = .ok (.aload_n 0, 1) := by decide +kernel
theorem dX3_passWeek_75 : decode cX3_passWeek 75 = .ok (.invokevirtual 113, 3) := by decide +kernel
theorem dX3_passWeek_78 : decode cX3_passWeek 78 = .ok (.bipush 100, 2) := by decide +kernel
theorem dX3_passWeek_80 : decode cX3_passWeek 80 = .ok (.irem, 1) := by decide +kernel
theorem dX3_passWeek_81 : decode cX3_passWeek 81 = .ok (.aload_n 0, 1) := by decide +kernel
theorem dX3_passWeek_82 : decode cX3_passWeek 82 = .ok (.getfield 68, 3) := by decide +kernel
theorem dX3_passWeek_85 : decode cX3_passWeek 85 = .ok (.if_icmp .ge 12, 3) := by decide +kernel
theorem dX3_passWeek_88 : decode cX3_passWeek 88 = .ok (.aload_n 0, 1) := by decide +kernel
theorem dX3_passWeek_89 : decode cX3_passWeek 89 = .ok (.aload_n 1, 1) := by decide +kernel
theorem dX3_passWeek_90 : decode cX3_passWeek 90 = .ok (.iconst 0, 1) := by decide +kernel
theorem dX3_passWeek_91 : decode cX3_passWeek 91 = .ok (.invokevirtual 123, 3) := by decide +kernel
theorem dX3_passWeek_94 : decode cX3_passWeek 94 = .ok (.goto 4, 3) := by decide +kernel
theorem dX3_passWeek_97 : decode cX3_passWeek 97 = .ok (.iconst (-1), 1) := by decide +kernel
theorem dX3_passWeek_98 : decode cX3_passWeek 98 = .ok (.istore_n 3, 1) := by decide +kernel
theorem dX3_passWeek_99 : decode cX3_passWeek 99 = .ok (.aload_n 0, 1) := by decide +kernel
theorem dX3_passWeek_100 : decode cX3_passWeek 100 = .ok (.iload_n 3, 1) := by decide +kernel
theorem dX3_passWeek_101 : decode cX3_passWeek 101 = .ok (.invokevirtual 127, 3) := by decide +kernel
theorem dX3_passWeek_104 : decode cX3_passWeek 104 = .ok (.istore 4, 2) := by decide +kernel
theorem dX3_passWeek_106 : decode cX3_passWeek 106 = .ok (.iload 4, 2) := by decide +kernel
theorem dX3_passWeek_108 : decode cX3_passWeek 108 = .ok (.iconst (-1), 1) := by decide +kernel
theorem dX3_passWeek_109 : decode cX3_passWeek 109 = .ok (.if_icmp .eq 27, 3) := by decide +kernel
theorem dX3_passWeek_112 : decode cX3_passWeek 112 = .ok (.aload_n 2, 1) := by decide +kernel
theorem dX3_passWeek_113 : decode cX3_passWeek 113 = .ok (.aload_n 0, 1) := by decide +kernel
theorem dX3_passWeek_114 : decode cX3_passWeek 114 = .ok (.getfield 71, 3) := by decide +kernel
theorem dX3_passWeek_117 : decode cX3_passWeek 117 = .ok (.iload 4, 2) := by decide +kernel
theorem dX3_passWeek_119 : decode cX3_passWeek 119 = .ok (.iload_n 3, 1) := by decide +kernel
theorem dX3_passWeek_120 : decode cX3_passWeek 120 = .ok (.iconst (-1), 1) := by decide +kernel
theorem dX3_passWeek_121 : decode cX3_passWeek 121 = .ok (.invokevirtual 130, 3) := by decide +kernel
theorem dX3_passWeek_124 : decode cX3_passWeek 124 = .ok (.aload_n 0, 1) := by decide +kernel
theorem dX3_passWeek_125 : decode cX3_passWeek 125 = .ok (.getfield 47, 3) := by decide +kernel
theorem dX3_passWeek_128 : decode cX3_passWeek 128 = .ok (.iload 4, 2) := by decide +kernel
theorem dX3_passWeek_130 : decode cX3_passWeek 130 = .ok (.iconst (-1), 1) := by decide +kernel
theorem dX3_passWeek_131 : decode cX3_passWeek 131 = .ok (.iastore, 1) := by decide +kernel
theorem dX3_passWeek_132 : decode cX3_passWeek 132 = .ok (.aload_n 0, 1) := by decide +kernel
theorem dX3_passWeek_133 : decode cX3_passWeek 133 = .ok (.invokevirtual 116, 3) := by decide +kernel
theorem dX3_passWeek_136 : decode cX3_passWeek 136 = .ok (.iconst 0, 1) := by decide +kernel
theorem dX3_passWeek_137 : decode cX3_passWeek 137 = .ok (.istore 5, 2) := by decide +kernel
theorem dX3_passWeek_139 : decode cX3_passWeek 139 = .ok (.iload 5, 2) := by decide +kernel
theorem dX3_passWeek_141 : decode cX3_passWeek 141 = .ok (.aload_n 0, 1) := by decide +kernel
theorem dX3_passWeek_142 : decode cX3_passWeek 142 = .ok (.getfield 56, 3) := by decide +kernel
theorem dX3_passWeek_145 : decode cX3_passWeek 145 = .ok (.if_icmp .ge 16, 3) := by decide +kernel
theorem dX3_passWeek_148 : decode cX3_passWeek 148 = .ok (.aload_n 0, 1) := by decide +kernel
theorem dX3_passWeek_149 : decode cX3_passWeek 149 = .ok (.aload_n 1, 1) := by decide +kernel
theorem dX3_passWeek_150 : decode cX3_passWeek 150 = .ok (.iload 5, 2) := by decide +kernel
theorem dX3_passWeek_152 : decode cX3_passWeek 152 = .ok (.invokevirtual 136, 3) := by decide +kernel
theorem dX3_passWeek_155 : decode cX3_passWeek 155 = .ok (.iinc 5 1, 3) := by decide +kernel
theorem dX3_passWeek_158 : decode cX3_passWeek 158 = .ok (.goto (-19), 3) := by decide +kernel
theorem dX3_passWeek_161 : decode cX3_passWeek 161 = .ok (.aload_n 0, 1) := by decide +kernel
theorem dX3_passWeek_162 : decode cX3_passWeek 162 = .ok (.invokevirtual 139, 3) := by decide +kernel
theorem dX3_passWeek_165 : decode cX3_passWeek 165 = .ok (.iload 4, 2) := by decide +kernel
theorem dX3_passWeek_167 : decode cX3_passWeek 167 = .ok (.iconst (-1), 1) := by decide +kernel
theorem dX3_passWeek_168 : decode cX3_passWeek 168 = .ok (.if_icmp .ne 7, 3) := by decide +kernel
theorem dX3_passWeek_171 : decode cX3_passWeek 171 = .ok (.iconst 0, 1) := by decide +kernel
theorem dX3_passWeek_172 : decode cX3_passWeek 172 = .ok (.goto 4, 3) := by decide +kernel
theorem dX3_passWeek_175 : decode cX3_passWeek 175 = .ok (.iconst 1, 1) := by decide +kernel
theorem dX3_passWeek_176 : decode cX3_passWeek 176 = .ok (.ireturn, 1) := by decide +kernel
theorem dX3_payRents_0 : decode cX3_payRents 0 = .ok (.aload_n 0, 1) := by decide +kernel
theorem dX3_payRents_1 : decode cX3_payRents 1 = .ok (.getfield 32, 3) := by decide +kernel
theorem dX3_payRents_4 : decode cX3_payRents 4 = .ok (.iload_n 2, 1) := by decide +kernel
theorem dX3_payRents_5 : decode cX3_payRents 5 = .ok (.baload, 1) := by decide +kernel
theorem dX3_payRents_6 : decode cX3_payRents 6 = .ok (.ifCond .eq 4, 3) := by decide +kernel
theorem dX3_payRents_9 : decode cX3_payRents 9 = .ok (.return_, 1) := by decide +kernel
theorem dX3_payRents_10 : decode cX3_payRents 10 = .ok (.iconst 2, 1) := by decide +kernel
theorem dX3_payRents_11 : decode cX3_payRents 11 = .ok (.iload_n 2, 1) := by decide +kernel
theorem dX3_payRents_12 : decode cX3_payRents 12 = .ok (.imul, 1) := by decide +kernel
theorem dX3_payRents_13 : decode cX3_payRents 13 = .ok (.istore_n 3, 1) := by decide +kernel
theorem dX3_payRents_14 : decode cX3_payRents 14 = .ok (.iload_n 3, 1) := by decide +kernel
theorem dX3_payRents_15 : decode cX3_payRents 15 = .ok (.iconst 2, 1) := by decide +kernel
theorem dX3_payRents_16 : decode cX3_payRents 16 = .ok (.iload_n 2, 1) := by decide +kernel
theorem dX3_payRents_17 : decode cX3_payRents 17 = .ok (.imul, 1) := by decide +kernel
theorem dX3_payRents_18 : decode cX3_payRents 18 = .ok (.iconst 2, 1) := by decide +kernel
theorem dX3_payRents_19 : decode cX3_payRents 19 = .ok (.iadd, 1) := by decide +kernel
theorem dX3_payRents_20 : decode cX3_payRents 20 = .ok (.if_icmp .ge 32, 3) := by decide +kernel
theorem dX3_payRents_23 : decode cX3_payRents 23 = .ok (.aload_n 0, 1) := by decide +kernel
theorem dX3_payRents_24 : decode cX3_payRents 24 = .ok (.getfield 35, 3) := by decide +kernel
theorem dX3_payRents_27 : decode cX3_payRents 27 = .ok (.iload_n 3, 1) := by decide +kernel
theorem dX3_payRents_28 : decode cX3_payRents 28 = .ok (.iconst 0, 1) := by decide +kernel
theorem dX3_payRents_29 : decode cX3_payRents 29 = .ok (.aload_n 0, 1) := by decide +kernel
theorem dX3_payRents_30 : decode cX3_payRents 30 = .ok (.getfield 35, 3) := by decide +kernel
theorem dX3_payRents_33 : decode cX3_payRents 33 = .ok (.iload_n 3, 1) := by decide +kernel
theorem dX3_payRents_34 : decode cX3_payRents 34 = .ok (.iaload, 1) := by decide +kernel
theorem dX3_payRents_35 : decode cX3_payRents 35 = .ok (.aload_n 0, 1) := by decide +kernel
theorem dX3_payRents_36 : decode cX3_payRents 36 = .ok (.aload_n 1, 1) := by decide +kernel
theorem dX3_payRents_37 : decode cX3_payRents 37 = .ok (.iload_n 3, 1) := by decide +kernel
theorem dX3_payRents_38 : decode cX3_payRents 38 = .ok (.invokevirtual 142, 3) := by decide +kernel
theorem dX3_payRents_41 : decode cX3_payRents 41 = .ok (.isub, 1) := by decide +kernel
theorem dX3_payRents_42 : decode cX3_payRents 42 = .ok (.invokestatic 97, 3) := by decide +kernel
theorem dX3_payRents_45 : decode cX3_payRents 45 = .ok (.iastore, 1) := by decide +kernel
theorem dX3_payRents_46 : decode cX3_payRents 46 = .ok (.iinc 3 1, 3) := by decide +kernel
theorem dX3_payRents_49 : decode cX3_payRents 49 = .ok (.goto (-35), 3) := by decide +kernel
theorem dX3_payRents_52 : decode cX3_payRents 52 = .ok (.return_, 1) := by decide +kernel
theorem dX3_growOld_0 : decode cX3_growOld 0 = .ok (.aload_n 0, 1) := by decide +kernel
theorem dX3_growOld_1 : decode cX3_growOld 1 = .ok (.getfield 32, 3) := by decide +kernel
theorem dX3_growOld_4 : decode cX3_growOld 4 = .ok (.iload_n 2, 1) := by decide +kernel
theorem dX3_growOld_5 : decode cX3_growOld 5 = .ok (.baload, 1) := by decide +kernel
theorem dX3_growOld_6 : decode cX3_growOld 6 = .ok (.ifCond .eq 4, 3) := by decide +kernel
theorem dX3_growOld_9 : decode cX3_growOld 9 = .ok (.return_, 1) := by decide +kernel
theorem dX3_growOld_10 : decode cX3_growOld 10 = .ok (.aload_n 0, 1) := by decide +kernel
theorem dX3_growOld_11 : decode cX3_growOld 11 = .ok (.getfield 25, 3) := by decide +kernel
theorem dX3_growOld_14 : decode cX3_growOld 14 = .ok (.iload_n 2, 1) := by decide +kernel
theorem dX3_growOld_15 : decode cX3_growOld 15 = .ok (.bipush 99, 2) := by decide +kernel
theorem dX3_growOld_17 : decode cX3_growOld 17 = .ok (.aload_n 0, 1) := by decide +kernel
theorem dX3_growOld_18 : decode cX3_growOld 18 = .ok (.getfield 25, 3) := by decide +kernel
theorem dX3_growOld_21 : decode cX3_growOld 21 = .ok (.iload_n 2, 1) := by decide +kernel
theorem dX3_growOld_22 : decode cX3_growOld 22 = .ok (.iaload, 1) := by decide +kernel
theorem dX3_growOld_23 : decode cX3_growOld 23 = .ok (.aload_n 0, 1) := by decide +kernel
theorem dX3_growOld_24 : decode cX3_growOld 24 = .ok (.aload_n 1, 1) := by decide +kernel
theorem dX3_growOld_25 : decode cX3_growOld 25 = .ok (.iload_n 2, 1) := by decide +kernel
theorem dX3_growOld_26 : decode cX3_growOld 26 = .ok (.invokevirtual 145, 3) := by decide +kernel
theorem dX3_growOld_29 : decode cX3_growOld 29 = .ok (.iadd, 1) := by decide +kernel
theorem dX3_growOld_30 : decode cX3_growOld 30 = .ok (.invokestatic 92, 3) := by decide +kernel
theorem dX3_growOld_33 : decode cX3_growOld 33 = .ok (.iastore, 1) := by decide +kernel
theorem dX3_growOld_34 : decode cX3_growOld 34 = .ok (.aload_n 0, 1) := by decide +kernel
theorem dX3_growOld_35 : decode cX3_growOld 35 = .ok (.getfield 32, 3) := by decide +kernel
theorem dX3_growOld_38 : decode cX3_growOld 38 = .ok (.iload_n 2, 1) := by decide +kernel
theorem dX3_growOld_39 : decode cX3_growOld 39 = .ok (.aload_n 0, 1) := by decide +kernel
theorem dX3_growOld_40 : decode cX3_growOld 40 = .ok (.iload_n 2, 1) := by decide +kernel
theorem dX3_growOld_41 : decode cX3_growOld 41 = .ok (.invokevirtual 148, 3) := by decide +kernel
theorem dX3_growOld_44 : decode cX3_growOld 44 = .ok (.ifCond .ge 7, 3) := by decide +kernel
theorem dX3_growOld_47 : decode cX3_growOld 47 = .ok (.iconst 1, 1) := by decide +kernel
theorem dX3_growOld_48 : decode cX3_growOld 48 = .ok (.goto 4, 3) := by decide +kernel
theorem dX3_growOld_51 : decode cX3_growOld 51 = .ok (.iconst 0, 1) := by decide +kernel
theorem dX3_growOld_52 : decode cX3_growOld 52 = .ok (.bastore, 1) := by decide +kernel
theorem dX3_growOld_53 : decode cX3_growOld 53 = .ok (.return_, 1) := by decide +kernel
theorem dX3_payAndGrowOld_0 : decode cX3_payAndGrowOld 0 = .ok (.aload_n 0, 1) := by decide +kernel
theorem dX3_payAndGrowOld_1 : decode cX3_payAndGrowOld 1 = .ok (.aload_n 1, 1) := by decide +kernel
theorem dX3_payAndGrowOld_2 : decode cX3_payAndGrowOld 2 = .ok (.iload_n 2, 1) := by decide +kernel
theorem dX3_payAndGrowOld_3 : decode cX3_payAndGrowOld 3 = .ok (.invokevirtual 119, 3) := by decide +kernel
theorem dX3_payAndGrowOld_6 : decode cX3_payAndGrowOld 6 = .ok (.aload_n 0, 1) := by decide +kernel
theorem dX3_payAndGrowOld_7 : decode cX3_payAndGrowOld 7 = .ok (.aload_n 1, 1) := by decide +kernel
theorem dX3_payAndGrowOld_8 : decode cX3_payAndGrowOld 8 = .ok (.iload_n 2, 1) := by decide +kernel
theorem dX3_payAndGrowOld_9 : decode cX3_payAndGrowOld 9 = .ok (.invokevirtual 136, 3) := by decide +kernel
theorem dX3_payAndGrowOld_12 : decode cX3_payAndGrowOld 12 = .ok (.return_, 1) := by decide +kernel
theorem dX3_turnWeek_0 : decode cX3_turnWeek 0 = .ok (.aload_n 0, 1) := by decide +kernel
theorem dX3_turnWeek_1 : decode cX3_turnWeek 1 = .ok (.sipush 9999, 3) := by decide +kernel
theorem dX3_turnWeek_4 : decode cX3_turnWeek 4 = .ok (.aload_n 0, 1) := by decide +kernel
theorem dX3_turnWeek_5 : decode cX3_turnWeek 5 = .ok (.getfield 71, 3) := by decide +kernel
theorem dX3_turnWeek_8 : decode cX3_turnWeek 8 = .ok (.iconst 1, 1) := by decide +kernel
theorem dX3_turnWeek_9 : decode cX3_turnWeek 9 = .ok (.iadd, 1) := by decide +kernel
theorem dX3_turnWeek_10 : decode cX3_turnWeek 10 = .ok (.invokestatic 92, 3) := by decide +kernel
theorem dX3_turnWeek_13 : decode cX3_turnWeek 13 = .ok (.putfield 71, 3) := by decide +kernel
theorem dX3_turnWeek_16 : decode cX3_turnWeek 16 = .ok (.aload_n 0, 1) := by decide +kernel
theorem dX3_turnWeek_17 : decode cX3_turnWeek 17 = .ok (.invokevirtual 116, 3) := by decide +kernel
theorem dX3_turnWeek_20 : decode cX3_turnWeek 20 = .ok (.return_, 1) := by decide +kernel
theorem dX3_luredTo_0 : decode cX3_luredTo 0 = .ok (.iconst (-1), 1) := by decide +kernel
theorem dX3_luredTo_1 : decode cX3_luredTo 1 = .ok (.istore_n 3, 1) := by decide +kernel
theorem dX3_luredTo_2 : decode cX3_luredTo 2 = .ok (.iconst (-1), 1) := by decide +kernel
theorem dX3_luredTo_3 : decode cX3_luredTo 3 = .ok (.istore 4, 2) := by decide +kernel
theorem dX3_luredTo_5 : decode cX3_luredTo 5 = .ok (.iconst 0, 1) := by decide +kernel
theorem dX3_luredTo_6 : decode cX3_luredTo 6 = .ok (.istore 5, 2) := by decide +kernel
theorem dX3_luredTo_8 : decode cX3_luredTo 8 = .ok (.iload 5, 2) := by decide +kernel
theorem dX3_luredTo_10 : decode cX3_luredTo 10 = .ok (.aload_n 0, 1) := by decide +kernel
theorem dX3_luredTo_11 : decode cX3_luredTo 11 = .ok (.invokevirtual 80, 3) := by decide +kernel
theorem dX3_luredTo_14 : decode cX3_luredTo 14 = .ok (.if_icmp .ge 44, 3) := by decide +kernel
theorem dX3_luredTo_17 : decode cX3_luredTo 17 = .ok (.iload_n 2, 1) := by decide +kernel
theorem dX3_luredTo_18 : decode cX3_luredTo 18 = .ok (.iload 5, 2) := by decide +kernel
theorem dX3_luredTo_20 : decode cX3_luredTo 20 = .ok (.ishr, 1) := by decide +kernel
theorem dX3_luredTo_21 : decode cX3_luredTo 21 = .ok (.iconst 1, 1) := by decide +kernel
theorem dX3_luredTo_22 : decode cX3_luredTo 22 = .ok (.iand, 1) := by decide +kernel
theorem dX3_luredTo_23 : decode cX3_luredTo 23 = .ok (.ifCond .eq 6, 3) := by decide +kernel
theorem dX3_luredTo_26 : decode cX3_luredTo 26 = .ok (.goto 26, 3) := by decide +kernel
theorem dX3_luredTo_29 : decode cX3_luredTo 29 = .ok (.aload_n 0, 1) := by decide +kernel
theorem dX3_luredTo_30 : decode cX3_luredTo 30 = .ok (.aload_n 1, 1) := by decide +kernel
theorem dX3_luredTo_31 : decode cX3_luredTo 31 = .ok (.iload 5, 2) := by decide +kernel
theorem dX3_luredTo_33 : decode cX3_luredTo 33 = .ok (.invokevirtual 151, 3) := by decide +kernel
theorem dX3_luredTo_36 : decode cX3_luredTo 36 = .ok (.istore 6, 2) := by decide +kernel
theorem dX3_luredTo_38 : decode cX3_luredTo 38 = .ok (.iload 6, 2) := by decide +kernel
theorem dX3_luredTo_40 : decode cX3_luredTo 40 = .ok (.iload 4, 2) := by decide +kernel
theorem dX3_luredTo_42 : decode cX3_luredTo 42 = .ok (.if_icmp .le 10, 3) := by decide +kernel
theorem dX3_luredTo_45 : decode cX3_luredTo 45 = .ok (.iload 5, 2) := by decide +kernel
theorem dX3_luredTo_47 : decode cX3_luredTo 47 = .ok (.istore_n 3, 1) := by decide +kernel
theorem dX3_luredTo_48 : decode cX3_luredTo 48 = .ok (.iload 6, 2) := by decide +kernel
theorem dX3_luredTo_50 : decode cX3_luredTo 50 = .ok (.istore 4, 2) := by decide +kernel
theorem dX3_luredTo_52 : decode cX3_luredTo 52 = .ok (.iinc 5 1, 3) := by decide +kernel
theorem dX3_luredTo_55 : decode cX3_luredTo 55 = .ok (.goto (-47), 3) := by decide +kernel
theorem dX3_luredTo_58 : decode cX3_luredTo 58 = .ok (.iload_n 3, 1) := by decide +kernel
theorem dX3_luredTo_59 : decode cX3_luredTo 59 = .ok (.ireturn, 1) := by decide +kernel
theorem dX3_dearestIn_0 : decode cX3_dearestIn 0 = .ok (.iconst (-1), 1) := by decide +kernel
theorem dX3_dearestIn_1 : decode cX3_dearestIn 1 = .ok (.istore_n 2, 1) := by decide +kernel
theorem dX3_dearestIn_2 : decode cX3_dearestIn 2 = .ok (.iconst (-1), 1) := by decide +kernel
theorem dX3_dearestIn_3 : decode cX3_dearestIn 3 = .ok (.istore_n 3, 1) := by decide +kernel
theorem dX3_dearestIn_4 : decode cX3_dearestIn 4 = .ok (.iconst 0, 1) := by decide +kernel
theorem dX3_dearestIn_5 : decode cX3_dearestIn 5 = .ok (.istore 4, 2) := by decide +kernel
theorem dX3_dearestIn_7 : decode cX3_dearestIn 7 = .ok (.iload 4, 2) := by decide +kernel
theorem dX3_dearestIn_9 : decode cX3_dearestIn 9 = .ok (.aload_n 0, 1) := by decide +kernel
theorem dX3_dearestIn_10 : decode cX3_dearestIn 10 = .ok (.getfield 59, 3) := by decide +kernel
theorem dX3_dearestIn_13 : decode cX3_dearestIn 13 = .ok (.if_icmp .ge 47, 3) := by decide +kernel
theorem dX3_dearestIn_16 : decode cX3_dearestIn 16 = .ok (.iload_n 1, 1) := by decide +kernel
theorem dX3_dearestIn_17 : decode cX3_dearestIn 17 = .ok (.iconst (-1), 1) := by decide +kernel
theorem dX3_dearestIn_18 : decode cX3_dearestIn 18 = .ok (.if_icmp .eq 36, 3) := by decide +kernel
theorem dX3_dearestIn_21 : decode cX3_dearestIn 21 = .ok (.aload_n 0, 1) := by decide +kernel
theorem dX3_dearestIn_22 : decode cX3_dearestIn 22 = .ok (.getfield 47, 3) := by decide +kernel
theorem dX3_dearestIn_25 : decode cX3_dearestIn 25 = .ok (.iload 4, 2) := by decide +kernel
theorem dX3_dearestIn_27 : decode cX3_dearestIn 27 = .ok (.iaload, 1) := by decide +kernel
theorem dX3_dearestIn_28 : decode cX3_dearestIn 28 = .ok (.iload_n 1, 1) := by decide +kernel
theorem dX3_dearestIn_29 : decode cX3_dearestIn 29 = .ok (.if_icmp .ne 25, 3) := by decide +kernel
theorem dX3_dearestIn_32 : decode cX3_dearestIn 32 = .ok (.aload_n 0, 1) := by decide +kernel
theorem dX3_dearestIn_33 : decode cX3_dearestIn 33 = .ok (.getfield 44, 3) := by decide +kernel
theorem dX3_dearestIn_36 : decode cX3_dearestIn 36 = .ok (.iload 4, 2) := by decide +kernel
theorem dX3_dearestIn_38 : decode cX3_dearestIn 38 = .ok (.iaload, 1) := by decide +kernel
theorem dX3_dearestIn_39 : decode cX3_dearestIn 39 = .ok (.iload_n 3, 1) := by decide +kernel
theorem dX3_dearestIn_40 : decode cX3_dearestIn 40 = .ok (.if_icmp .le 14, 3) := by decide +kernel
theorem dX3_dearestIn_43 : decode cX3_dearestIn 43 = .ok (.iload 4, 2) := by decide +kernel
theorem dX3_dearestIn_45 : decode cX3_dearestIn 45 = .ok (.istore_n 2, 1) := by decide +kernel
theorem dX3_dearestIn_46 : decode cX3_dearestIn 46 = .ok (.aload_n 0, 1) := by decide +kernel
theorem dX3_dearestIn_47 : decode cX3_dearestIn 47 = .ok (.getfield 44, 3) := by decide +kernel
theorem dX3_dearestIn_50 : decode cX3_dearestIn 50 = .ok (.iload 4, 2) := by decide +kernel
theorem dX3_dearestIn_52 : decode cX3_dearestIn 52 = .ok (.iaload, 1) := by decide +kernel
theorem dX3_dearestIn_53 : decode cX3_dearestIn 53 = .ok (.istore_n 3, 1) := by decide +kernel
theorem dX3_dearestIn_54 : decode cX3_dearestIn 54 = .ok (.iinc 4 1, 3) := by decide +kernel
theorem dX3_dearestIn_57 : decode cX3_dearestIn 57 = .ok (.goto (-50), 3) := by decide +kernel
theorem dX3_dearestIn_60 : decode cX3_dearestIn 60 = .ok (.iload_n 2, 1) := by decide +kernel
theorem dX3_dearestIn_61 : decode cX3_dearestIn 61 = .ok (.ireturn, 1) := by decide +kernel
theorem dX3_stealOne_0 : decode cX3_stealOne 0 = .ok (.aload_n 0, 1) := by decide +kernel
theorem dX3_stealOne_1 : decode cX3_stealOne 1 = .ok (.aload_n 0, 1) := by decide +kernel
theorem dX3_stealOne_2 : decode cX3_stealOne 2 = .ok (.aload_n 1, 1) := by decide +kernel
theorem dX3_stealOne_3 : decode cX3_stealOne 3 = .ok (.iload_n 2, 1) := by decide +kernel
theorem dX3_stealOne_4 : decode cX3_stealOne 4 = .ok (.invokevirtual 123, 3) := by decide +kernel
theorem dX3_stealOne_7 : decode cX3_stealOne 7 = .ok (.invokevirtual 127, 3) := by decide +kernel
theorem dX3_stealOne_10 : decode cX3_stealOne 10 = .ok (.istore_n 3, 1) := by decide +kernel
theorem dX3_stealOne_11 : decode cX3_stealOne 11 = .ok (.iload_n 3, 1) := by decide +kernel
theorem dX3_stealOne_12 : decode cX3_stealOne 12 = .ok (.iconst (-1), 1) := by decide +kernel
theorem dX3_stealOne_13 : decode cX3_stealOne 13 = .ok (.if_icmp .eq 14, 3) := by decide +kernel
theorem dX3_stealOne_16 : decode cX3_stealOne 16 = .ok (.aload_n 0, 1) := by decide +kernel
theorem dX3_stealOne_17 : decode cX3_stealOne 17 = .ok (.getfield 47, 3) := by decide +kernel
theorem dX3_stealOne_20 : decode cX3_stealOne 20 = .ok (.iload_n 3, 1) := by decide +kernel
theorem dX3_stealOne_21 : decode cX3_stealOne 21 = .ok (.iconst (-1), 1) := by decide +kernel
theorem dX3_stealOne_22 : decode cX3_stealOne 22 = .ok (.iastore, 1) := by decide +kernel
theorem dX3_stealOne_23 : decode cX3_stealOne 23 = .ok (.aload_n 0, 1) := by decide +kernel
theorem dX3_stealOne_24 : decode cX3_stealOne 24 = .ok (.invokevirtual 116, 3) := by decide +kernel
theorem dX3_stealOne_27 : decode cX3_stealOne 27 = .ok (.iload_n 3, 1) := by decide +kernel
theorem dX3_stealOne_28 : decode cX3_stealOne 28 = .ok (.ireturn, 1) := by decide +kernel
theorem dX4_init_0 : decode cX4_init 0 = .ok (.aload_n 0, 1) := by decide +kernel
theorem dX4_init_1 : decode cX4_init 1 = .ok (.aload_n 1, 1) := by decide +kernel
theorem dX4_init_2 : decode cX4_init 2 = .ok (.bipush 14, 2) := by decide +kernel
theorem dX4_init_4 : decode cX4_init 4 = .ok (.invokespecial 3, 3) := by decide +kernel
theorem dX4_init_7 : decode cX4_init 7 = .ok (.aload_n 0, 1) := by decide +kernel
theorem dX4_init_8 : decode cX4_init 8 = .ok (.aload_n 2, 1) := by decide +kernel
theorem dX4_init_9 : decode cX4_init 9 = .ok (.putfield 9, 3) := by decide +kernel
theorem dX4_init_12 : decode cX4_init 12 = .ok (.return_, 1) := by decide +kernel
theorem dX4_readLine_0 : decode cX4_readLine 0 = .ok (.aload_n 0, 1) := by decide +kernel
theorem dX4_readLine_1 : decode cX4_readLine 1 = .ok (.getfield 15, 3) := by decide +kernel
theorem dX4_readLine_4 : decode cX4_readLine 4 = .ok (.aload_n 0, 1) := by decide +kernel
theorem dX4_readLine_5 : decode cX4_readLine 5 = .ok (.getfield 19, 3) := by decide +kernel
theorem dX4_readLine_8 : decode cX4_readLine 8 = .ok (.invokevirtual 23, 3) := by decide +kernel
theorem dX4_readLine_11 : decode cX4_readLine 11 = .ok (.istore_n 1, 1) := by decide +kernel
theorem dX4_readLine_12 : decode cX4_readLine 12 = .ok (.iload_n 1, 1) := by decide +kernel
theorem dX4_readLine_13 : decode cX4_readLine 13 = .ok (.tableswitch 73 300 308 #[51, 61, 61, 56, 67, 67, 67, 67, 67], 51) := by decide +kernel
theorem dX4_readLine_64 : decode cX4_readLine 64 = .ok (.aload_n 0, 1) := by decide +kernel
theorem dX4_readLine_65 : decode cX4_readLine 65 = .ok (.invokevirtual 29, 3) := by decide +kernel
theorem dX4_readLine_68 : decode cX4_readLine 68 = .ok (.ireturn, 1) := by decide +kernel
theorem dX4_readLine_69 : decode cX4_readLine 69 = .ok (.aload_n 0, 1) := by decide +kernel
theorem dX4_readLine_70 : decode cX4_readLine 70 = .ok (.invokevirtual 33, 3) := by decide +kernel
theorem dX4_readLine_73 : decode cX4_readLine 73 = .ok (.ireturn, 1) := by decide +kernel
theorem dX4_readLine_74 : decode cX4_readLine 74 = .ok (.aload_n 0, 1) := by decide +kernel
theorem dX4_readLine_75 : decode cX4_readLine 75 = .ok (.iload_n 1, 1) := by decide +kernel
theorem dX4_readLine_76 : decode cX4_readLine 76 = .ok (.invokevirtual 36, 3) := by decide +kernel
theorem dX4_readLine_79 : decode cX4_readLine 79 = .ok (.ireturn, 1) := by decide +kernel
theorem dX4_readLine_80 : decode cX4_readLine 80 = .ok (.aload_n 0, 1) := by decide +kernel
theorem dX4_readLine_81 : decode cX4_readLine 81 = .ok (.iload_n 1, 1) := by decide +kernel
theorem dX4_readLine_82 : decode cX4_readLine 82 = .ok (.invokevirtual 40, 3) := by decide +kernel
theorem dX4_readLine_85 : decode cX4_readLine 85 = .ok (.ireturn, 1) := by decide +kernel
theorem dX4_readLine_86 : decode cX4_readLine 86 = .ok (.iconst 0, 1) := by decide +kernel
theorem dX4_readLine_87 : decode cX4_readLine 87 = .ok (.ireturn, 1) := by decide +kernel
theorem dX4_readPlank_0 : decode cX4_readPlank 0 = .ok (.aload_n 0, 1) := by decide +kernel
theorem dX4_readPlank_1 : decode cX4_readPlank 1 = .ok (.getfield 9, 3) := by decide +kernel
theorem dX4_readPlank_4 : decode cX4_readPlank 4 = .ok (.getfield 43, 3) := by decide +kernel
theorem dX4_readPlank_7 : decode cX4_readPlank 7 = .ok (.iconst 5, 1) := by decide +kernel
theorem dX4_readPlank_8 : decode cX4_readPlank 8 = .ok (.if_icmp .lt 5, 3) := by decide +kernel
theorem dX4_readPlank_11 : decode cX4_readPlank 11 = .ok (.iconst 0, 1) := by decide +kernel
theorem dX4_readPlank_12 : decode cX4_readPlank 12 = .ok (.ireturn, 1) := by decide +kernel
theorem dX4_readPlank_13 : decode cX4_readPlank 13 = .ok (.aload_n 0, 1) := by decide +kernel
theorem dX4_readPlank_14 : decode cX4_readPlank 14 = .ok (.dup, 1) := by decide +kernel
theorem dX4_readPlank_15 : decode cX4_readPlank 15 = .ok (.getfield 19, 3) := by decide +kernel
theorem dX4_readPlank_18 : decode cX4_readPlank 18 = .ok (.iconst 1, 1) := by decide +kernel
theorem dX4_readPlank_19 : decode cX4_readPlank 19 = .ok (.iadd, 1) := by decide +kernel
theorem dX4_readPlank_20 : decode cX4_readPlank 20 = .ok (.putfield 19, 3) := by decide +kernel
theorem dX4_readPlank_23 : decode cX4_readPlank 23 = .ok (.aload_n 0, 1) := by decide +kernel
theorem dX4_readPlank_24 : decode cX4_readPlank 24 = .ok (.bipush 10, 2) := by decide +kernel
theorem dX4_readPlank_26 : decode cX4_readPlank 26 = .ok (.sipush 400, 3) := by decide +kernel
theorem dX4_readPlank_29 : decode cX4_readPlank 29 = .ok (.invokevirtual 48, 3) := by decide +kernel
theorem dX4_readPlank_32 : decode cX4_readPlank 32 = .ok (.istore_n 1, 1) := by decide +kernel
theorem dX4_readPlank_33 : decode cX4_readPlank 33 = .ok (.iload_n 1, 1) := by decide +kernel
theorem dX4_readPlank_34 : decode cX4_readPlank 34 = .ok (.iconst (-1), 1) := by decide +kernel
theorem dX4_readPlank_35 : decode cX4_readPlank 35 = .ok (.if_icmp .ne 5, 3) := by decide +kernel
theorem dX4_readPlank_38 : decode cX4_readPlank 38 = .ok (.iconst 0, 1) := by decide +kernel
theorem dX4_readPlank_39 : decode cX4_readPlank 39 = .ok (.ireturn, 1) := by decide +kernel
theorem dX4_readPlank_40 : decode cX4_readPlank 40 = .ok (.iconst 0, 1) := by decide +kernel
theorem dX4_readPlank_41 : decode cX4_readPlank 41 = .ok (.istore_n 2, 1) := by decide +kernel
theorem dX4_readPlank_42 : decode cX4_readPlank 42 = .ok (.aload_n 0, 1) := by decide +kernel
theorem dX4_readPlank_43 : decode cX4_readPlank 43 = .ok (.sipush 311, 3) := by decide +kernel
theorem dX4_readPlank_46 : decode cX4_readPlank 46 = .ok (.invokevirtual 52, 3) := by decide +kernel
theorem dX4_readPlank_49 : decode cX4_readPlank 49 = .ok (.ifCond .eq 11, 3) := by decide +kernel
theorem dX4_readPlank_52 : decode cX4_readPlank 52 = .ok (.aload_n 0, 1) := by decide +kernel
theorem dX4_readPlank_53 : decode cX4_readPlank 53 = .ok (.iconst 0, 1) := by decide +kernel
theorem dX4_readPlank_54 : decode cX4_readPlank 54 = .ok (.bipush 99, 2) := by decide +kernel
theorem dX4_readPlank_56 : decode cX4_readPlank 56 = .ok (.invokevirtual 48, 3) := by decide +kernel
theorem dX4_readPlank_59 : decode cX4_readPlank 59 = .ok (.istore_n 2, 1) := by decide +kernel
theorem dX4_readPlank_60 : decode cX4_readPlank 60 = .ok (.iload_n 2, 1) := by decide +kernel
theorem dX4_readPlank_61 : decode cX4_readPlank 61 = .ok (.iconst (-1), 1) := by decide +kernel
theorem dX4_readPlank_62 : decode cX4_readPlank 62 = .ok (.if_icmp .ne 5, 3) := by decide +kernel
theorem dX4_readPlank_65 : decode cX4_readPlank 65 = .ok (.iconst 0, 1) := by decide +kernel
theorem dX4_readPlank_66 : decode cX4_readPlank 66 = .ok (.ireturn, 1) := by decide +kernel
theorem dX4_readPlank_67 : decode cX4_readPlank 67 = .ok (.aload_n 0, 1) := by decide +kernel
theorem dX4_readPlank_68 : decode cX4_readPlank 68 = .ok (.getfield 9, 3) := by decide +kernel
theorem dX4_readPlank_71 : decode cX4_readPlank 71 = .ok (.iload_n 1, 1) := by decide +kernel
theorem dX4_readPlank_72 : decode cX4_readPlank 72 = .ok (.iload_n 2, 1) := by decide +kernel
theorem dX4_readPlank_73 : decode cX4_readPlank 73 = .ok (.invokevirtual 55, 3) := by decide +kernel
theorem dX4_readPlank_76 : decode cX4_readPlank 76 = .ok (.iconst 1, 1) := by decide +kernel
theorem dX4_readPlank_77 : decode cX4_readPlank 77 = .ok (.ireturn, 1) := by decide +kernel
theorem dX4_readThing_0 : decode cX4_readThing 0 = .ok (.aload_n 0, 1) := by decide +kernel
theorem dX4_readThing_1 : decode cX4_readThing 1 = .ok (.getfield 9, 3) := by decide +kernel
theorem dX4_readThing_4 : decode cX4_readThing 4 = .ok (.getfield 59, 3) := by decide +kernel
theorem dX4_readThing_7 : decode cX4_readThing 7 = .ok (.bipush 10, 2) := by decide +kernel
theorem dX4_readThing_9 : decode cX4_readThing 9 = .ok (.if_icmp .lt 5, 3) := by decide +kernel
theorem dX4_readThing_12 : decode cX4_readThing 12 = .ok (.iconst 0, 1) := by decide +kernel
theorem dX4_readThing_13 : decode cX4_readThing 13 = .ok (.ireturn, 1) := by decide +kernel
theorem dX4_readThing_14 : decode cX4_readThing 14 = .ok (.aload_n 0, 1) := by decide +kernel
theorem dX4_readThing_15 : decode cX4_readThing 15 = .ok (.dup, 1) := by decide +kernel
theorem dX4_readThing_16 : decode cX4_readThing 16 = .ok (.getfield 19, 3) := by decide +kernel
theorem dX4_readThing_19 : decode cX4_readThing 19 = .ok (.iconst 1, 1) := by decide +kernel
theorem dX4_readThing_20 : decode cX4_readThing 20 = .ok (.iadd, 1) := by decide +kernel
theorem dX4_readThing_21 : decode cX4_readThing 21 = .ok (.putfield 19, 3) := by decide +kernel
theorem dX4_readThing_24 : decode cX4_readThing 24 = .ok (.aload_n 0, 1) := by decide +kernel
theorem dX4_readThing_25 : decode cX4_readThing 25 = .ok (.iconst 1, 1) := by decide +kernel
theorem dX4_readThing_26 : decode cX4_readThing 26 = .ok (.bipush 60, 2) := by decide +kernel
theorem dX4_readThing_28 : decode cX4_readThing 28 = .ok (.invokevirtual 48, 3) := by decide +kernel
theorem dX4_readThing_31 : decode cX4_readThing 31 = .ok (.istore_n 1, 1) := by decide +kernel
theorem dX4_readThing_32 : decode cX4_readThing 32 = .ok (.iload_n 1, 1) := by decide +kernel
theorem dX4_readThing_33 : decode cX4_readThing 33 = .ok (.iconst (-1), 1) := by decide +kernel
theorem dX4_readThing_34 : decode cX4_readThing 34 = .ok (.if_icmp .eq 13, 3) := by decide +kernel
theorem dX4_readThing_37 : decode cX4_readThing 37 = .ok (.aload_n 0, 1) := by decide +kernel
theorem dX4_readThing_38 : decode cX4_readThing 38 = .ok (.sipush 309, 3) := by decide +kernel
theorem dX4_readThing_41 : decode cX4_readThing 41 = .ok (.invokevirtual 52, 3) := by decide +kernel
theorem dX4_readThing_44 : decode cX4_readThing 44 = .ok (.ifCond .ne 5, 3) := by decide +kernel
theorem dX4_readThing_47 : decode cX4_readThing 47 = .ok (.iconst 0, 1) := by decide +kernel
theorem dX4_readThing_48 : decode cX4_readThing 48 = .ok (.ireturn, 1) := by decide +kernel
theorem dX4_readThing_49 : decode cX4_readThing 49 = .ok (.aload_n 0, 1) := by decide +kernel
theorem dX4_readThing_50 : decode cX4_readThing 50 = .ok (.iconst 0, 1) := by decide +kernel
theorem dX4_readThing_51 : decode cX4_readThing 51 = .ok (.bipush 99, 2) := by decide +kernel
theorem dX4_readThing_53 : decode cX4_readThing 53 = .ok (.invokevirtual 48, 3) := by decide +kernel
theorem dX4_readThing_56 : decode cX4_readThing 56 = .ok (.istore_n 2, 1) := by decide +kernel
theorem dX4_readThing_57 : decode cX4_readThing 57 = .ok (.iload_n 2, 1) := by decide +kernel
theorem dX4_readThing_58 : decode cX4_readThing 58 = .ok (.iconst (-1), 1) := by decide +kernel
theorem dX4_readThing_59 : decode cX4_readThing 59 = .ok (.if_icmp .eq 13, 3) := by decide +kernel
theorem dX4_readThing_62 : decode cX4_readThing 62 = .ok (.aload_n 0, 1) := by decide +kernel
theorem dX4_readThing_63 : decode cX4_readThing 63 = .ok (.sipush 310, 3) := by decide +kernel
theorem dX4_readThing_66 : decode cX4_readThing 66 = .ok (.invokevirtual 52, 3) := by decide +kernel
theorem dX4_readThing_69 : decode cX4_readThing 69 = .ok (.ifCond .ne 5, 3) := by decide +kernel
theorem dX4_readThing_72 : decode cX4_readThing 72 = .ok (.iconst 0, 1) := by decide +kernel
theorem dX4_readThing_73 : decode cX4_readThing 73 = .ok (.ireturn, 1) := by decide +kernel
theorem dX4_readThing_74 : decode cX4_readThing 74 = .ok (.aload_n 0, 1) := by decide +kernel
theorem dX4_readThing_75 : decode cX4_readThing 75 = .ok (.iconst 0, 1) := by decide +kernel
theorem dX4_readThing_76 : decode cX4_readThing 76 = .ok (.aload_n 0, 1) := by decide +kernel
theorem dX4_readThing_77 : decode cX4_readThing 77 = .ok (.getfield 9, 3) := by decide +kernel
theorem dX4_readThing_80 : decode cX4_readThing 80 = .ok (.invokevirtual 62, 3) := by decide +kernel
theorem dX4_readThing_83 : decode cX4_readThing 83 = .ok (.iconst 1, 1) := by decide +kernel
theorem dX4_readThing_84 : decode cX4_readThing 84 = .ok (.isub, 1) := by decide +kernel
theorem dX4_readThing_85 : decode cX4_readThing 85 = .ok (.invokevirtual 48, 3) := by decide +kernel
theorem dX4_readThing_88 : decode cX4_readThing 88 = .ok (.istore_n 3, 1) := by decide +kernel
theorem dX4_readThing_89 : decode cX4_readThing 89 = .ok (.iload_n 3, 1) := by decide +kernel
theorem dX4_readThing_90 : decode cX4_readThing 90 = .ok (.iconst (-1), 1) := by decide +kernel
theorem dX4_readThing_91 : decode cX4_readThing 91 = .ok (.if_icmp .ne 5, 3) := by decide +kernel
theorem dX4_readThing_94 : decode cX4_readThing 94 = .ok (.iconst 0, 1) := by decide +kernel
theorem dX4_readThing_95 : decode cX4_readThing 95 = .ok (.ireturn, 1) := by decide +kernel
theorem dX4_readThing_96 : decode cX4_readThing 96 = .ok (.aload_n 0, 1) := by decide +kernel
theorem dX4_readThing_97 : decode cX4_readThing 97 = .ok (.getfield 9, 3) := by decide +kernel
theorem dX4_readThing_100 : decode cX4_readThing 100 = .ok (.iload_n 1, 1) := by decide +kernel
theorem dX4_readThing_101 : decode cX4_readThing 101 = .ok (.iload_n 2, 1) := by decide +kernel
theorem dX4_readThing_102 : decode cX4_readThing 102 = .ok (.iload_n 3, 1) := by decide +kernel
theorem dX4_readThing_103 : decode cX4_readThing 103 = .ok (.invokevirtual 66, 3) := by decide +kernel
theorem dX4_readThing_106 : decode cX4_readThing 106 = .ok (.iconst 1, 1) := by decide +kernel
theorem dX4_readThing_107 : decode cX4_readThing 107 = .ok (.ireturn, 1) := by decide +kernel
theorem dX4_readOfHouse_0 : decode cX4_readOfHouse 0 = .ok (.aload_n 0, 1) := by decide +kernel
theorem dX4_readOfHouse_1 : decode cX4_readOfHouse 1 = .ok (.dup, 1) := by decide +kernel
theorem dX4_readOfHouse_2 : decode cX4_readOfHouse 2 = .ok (.getfield 19, 3) := by decide +kernel
theorem dX4_readOfHouse_5 : decode cX4_readOfHouse 5 = .ok (.iconst 1, 1) := by decide +kernel
theorem dX4_readOfHouse_6 : decode cX4_readOfHouse 6 = .ok (.iadd, 1) := by decide +kernel
theorem dX4_readOfHouse_7 : decode cX4_readOfHouse 7 = .ok (.putfield 19, 3) := by decide +kernel
theorem dX4_readOfHouse_10 : decode cX4_readOfHouse 10 = .ok (.aload_n 0, 1) := by decide +kernel
theorem dX4_readOfHouse_11 : decode cX4_readOfHouse 11 = .ok (.iconst 0, 1) := by decide +kernel
theorem dX4_readOfHouse_12 : decode cX4_readOfHouse 12 = .ok (.aload_n 0, 1) := by decide +kernel
theorem dX4_readOfHouse_13 : decode cX4_readOfHouse 13 = .ok (.getfield 9, 3) := by decide +kernel
theorem dX4_readOfHouse_16 : decode cX4_readOfHouse 16 = .ok (.invokevirtual 62, 3) := by decide +kernel
theorem dX4_readOfHouse_19 : decode cX4_readOfHouse 19 = .ok (.iconst 1, 1) := by decide +kernel
theorem dX4_readOfHouse_20 : decode cX4_readOfHouse 20 = .ok (.isub, 1) := by decide +kernel
theorem dX4_readOfHouse_21 : decode cX4_readOfHouse 21 = .ok (.invokevirtual 48, 3) := by decide +kernel
theorem dX4_readOfHouse_24 : decode cX4_readOfHouse 24 = .ok (.istore_n 2, 1) := by decide +kernel
theorem dX4_readOfHouse_25 : decode cX4_readOfHouse 25 = .ok (.iload_n 2, 1) := by decide +kernel
theorem dX4_readOfHouse_26 : decode cX4_readOfHouse 26 = .ok (.iconst (-1), 1) := by decide +kernel
theorem dX4_readOfHouse_27 : decode cX4_readOfHouse 27 = .ok (.if_icmp .ne 5, 3) := by decide +kernel
theorem dX4_readOfHouse_30 : decode cX4_readOfHouse 30 = .ok (.iconst 0, 1) := by decide +kernel
theorem dX4_readOfHouse_31 : decode cX4_readOfHouse 31 = .ok (.ireturn, 1) := by decide +kernel
theorem dX4_readOfHouse_32 : decode cX4_readOfHouse 32 = .ok (.aload_n 0, 1) := by decide +kernel
theorem dX4_readOfHouse_33 : decode cX4_readOfHouse 33 = .ok (.iconst 0, 1) := by decide +kernel
theorem dX4_readOfHouse_34 : decode cX4_readOfHouse 34 = .ok (.iload_n 1, 1) := by decide +kernel
theorem dX4_readOfHouse_35 : decode cX4_readOfHouse 35 = .ok (.sipush 301, 3) := by decide +kernel
theorem dX4_readOfHouse_38 : decode cX4_readOfHouse 38 = .ok (.if_icmp .ne 9, 3) := by decide +kernel
theorem dX4_readOfHouse_41 : decode cX4_readOfHouse 41 = .ok (.sipush 999, 3) := by decide +kernel
theorem dX4_readOfHouse_44 : decode cX4_readOfHouse 44 = .ok (.goto 5, 3) := by decide +kernel
theorem dX4_readOfHouse_47 : decode cX4_readOfHouse 47 = .ok (.bipush 9, 2) := by decide +kernel
theorem dX4_readOfHouse_49 : decode cX4_readOfHouse 49 = .ok (.invokevirtual 48, 3) := by decide +kernel
theorem dX4_readOfHouse_52 : decode cX4_readOfHouse 52 = .ok (.istore_n 3, 1) := by decide +kernel
theorem dX4_readOfHouse_53 : decode cX4_readOfHouse 53 = .ok (.iload_n 3, 1) := by decide +kernel
theorem dX4_readOfHouse_54 : decode cX4_readOfHouse 54 = .ok (.iconst (-1), 1) := by decide +kernel
theorem dX4_readOfHouse_55 : decode cX4_readOfHouse 55 = .ok (.if_icmp .ne 5, 3) := by decide +kernel
theorem dX4_readOfHouse_58 : decode cX4_readOfHouse 58 = .ok (.iconst 0, 1) := by decide +kernel
theorem dX4_readOfHouse_59 : decode cX4_readOfHouse 59 = .ok (.ireturn, 1) := by decide +kernel
theorem dX4_readOfHouse_60 : decode cX4_readOfHouse 60 = .ok (.iload_n 1, 1) := by decide +kernel
theorem dX4_readOfHouse_61 : decode cX4_readOfHouse 61 = .ok (.sipush 301, 3) := by decide +kernel
theorem dX4_readOfHouse_64 : decode cX4_readOfHouse 64 = .ok (.if_icmp .ne 16, 3) := by decide +kernel
theorem dX4_readOfHouse_67 : decode cX4_readOfHouse 67 = .ok (.aload_n 0, 1) := by decide +kernel
theorem dX4_readOfHouse_68 : decode cX4_readOfHouse 68 = .ok (.getfield 9, 3) := by decide +kernel
theorem dX4_readOfHouse_71 : decode cX4_readOfHouse 71 = .ok (.getfield 70, 3) := by decide +kernel
theorem dX4_readOfHouse_74 : decode cX4_readOfHouse 74 = .ok (.iload_n 2, 1) := by decide +kernel
theorem dX4_readOfHouse_75 : decode cX4_readOfHouse 75 = .ok (.iload_n 3, 1) := by decide +kernel
theorem dX4_readOfHouse_76 : decode cX4_readOfHouse 76 = .ok (.iastore, 1) := by decide +kernel
theorem dX4_readOfHouse_77 : decode cX4_readOfHouse 77 = .ok (.goto 13, 3) := by decide +kernel
theorem dX4_readOfHouse_80 : decode cX4_readOfHouse 80 = .ok (.aload_n 0, 1) := by decide +kernel
theorem dX4_readOfHouse_81 : decode cX4_readOfHouse 81 = .ok (.getfield 9, 3) := by decide +kernel
theorem dX4_readOfHouse_84 : decode cX4_readOfHouse 84 = .ok (.getfield 74, 3) := by decide +kernel
theorem dX4_readOfHouse_87 : decode cX4_readOfHouse 87 = .ok (.iload_n 2, 1) := by decide +kernel
theorem dX4_readOfHouse_88 : decode cX4_readOfHouse 88 = .ok (.iload_n 3, 1) := by decide +kernel
theorem dX4_readOfHouse_89 : decode cX4_readOfHouse 89 = .ok (.iastore, 1) := by decide +kernel
theorem dX4_readOfHouse_90 : decode cX4_readOfHouse 90 = .ok (.iconst 1, 1) := by decide +kernel
theorem dX4_readOfHouse_91 : decode cX4_readOfHouse 91 = .ok (.ireturn, 1) := by decide +kernel
theorem dX4_readSetting_0 : decode cX4_readSetting 0 = .ok (.aload_n 0, 1) := by decide +kernel
theorem dX4_readSetting_1 : decode cX4_readSetting 1 = .ok (.dup, 1) := by decide +kernel
theorem dX4_readSetting_2 : decode cX4_readSetting 2 = .ok (.getfield 19, 3) := by decide +kernel
theorem dX4_readSetting_5 : decode cX4_readSetting 5 = .ok (.iconst 1, 1) := by decide +kernel
theorem dX4_readSetting_6 : decode cX4_readSetting 6 = .ok (.iadd, 1) := by decide +kernel
theorem dX4_readSetting_7 : decode cX4_readSetting 7 = .ok (.putfield 19, 3) := by decide +kernel
theorem dX4_readSetting_10 : decode cX4_readSetting 10 = .ok (.aload_n 0, 1) := by decide +kernel
theorem dX4_readSetting_11 : decode cX4_readSetting 11 = .ok (.iload_n 1, 1) := by decide +kernel
theorem dX4_readSetting_12 : decode cX4_readSetting 12 = .ok (.sipush 305, 3) := by decide +kernel
theorem dX4_readSetting_15 : decode cX4_readSetting 15 = .ok (.if_icmp .ne 7, 3) := by decide +kernel
theorem dX4_readSetting_18 : decode cX4_readSetting 18 = .ok (.iconst 1, 1) := by decide +kernel
theorem dX4_readSetting_19 : decode cX4_readSetting 19 = .ok (.goto 4, 3) := by decide +kernel
theorem dX4_readSetting_22 : decode cX4_readSetting 22 = .ok (.iconst 0, 1) := by decide +kernel
theorem dX4_readSetting_23 : decode cX4_readSetting 23 = .ok (.iload_n 1, 1) := by decide +kernel
theorem dX4_readSetting_24 : decode cX4_readSetting 24 = .ok (.invokestatic 77, 3) := by decide +kernel
theorem dX4_readSetting_27 : decode cX4_readSetting 27 = .ok (.invokevirtual 48, 3) := by decide +kernel
theorem dX4_readSetting_30 : decode cX4_readSetting 30 = .ok (.istore_n 2, 1) := by decide +kernel
theorem dX4_readSetting_31 : decode cX4_readSetting 31 = .ok (.iload_n 2, 1) := by decide +kernel
theorem dX4_readSetting_32 : decode cX4_readSetting 32 = .ok (.iconst (-1), 1) := by decide +kernel
theorem dX4_readSetting_33 : decode cX4_readSetting 33 = .ok (.if_icmp .ne 5, 3) := by decide +kernel
theorem dX4_readSetting_36 : decode cX4_readSetting 36 = .ok (.iconst 0, 1) := by decide +kernel
theorem dX4_readSetting_37 : decode cX4_readSetting 37 = .ok (.ireturn, 1) := by decide +kernel
theorem dX4_readSetting_38 : decode cX4_readSetting 38 = .ok (.iload_n 1, 1) := by decide +kernel
theorem dX4_readSetting_39 : decode cX4_readSetting 39 = .ok (.tableswitch 73 304 307 #[29, 40, 51, 62], 29) := by decide +kernel
theorem dX4_readSetting_68 : decode cX4_readSetting 68 = .ok (.aload_n 0, 1) := by decide +kernel
theorem dX4_readSetting_69 : decode cX4_readSetting 69 = .ok (.getfield 9, 3) := by decide +kernel
theorem dX4_readSetting_72 : decode cX4_readSetting 72 = .ok (.iload_n 2, 1) := by decide +kernel
theorem dX4_readSetting_73 : decode cX4_readSetting 73 = .ok (.putfield 80, 3) := by decide +kernel
theorem dX4_readSetting_76 : decode cX4_readSetting 76 = .ok (.goto 44, 3) := by decide +kernel
theorem dX4_readSetting_79 : decode cX4_readSetting 79 = .ok (.aload_n 0, 1) := by decide +kernel
theorem dX4_readSetting_80 : decode cX4_readSetting 80 = .ok (.getfield 9, 3) := by decide +kernel
theorem dX4_readSetting_83 : decode cX4_readSetting 83 = .ok (.iload_n 2, 1) := by decide +kernel
theorem dX4_readSetting_84 : decode cX4_readSetting 84 = .ok (.putfield 83, 3) := by decide +kernel
theorem dX4_readSetting_87 : decode cX4_readSetting 87 = .ok (.goto 33, 3) := by decide +kernel
theorem dX4_readSetting_90 : decode cX4_readSetting 90 = .ok (.aload_n 0, 1) := by decide +kernel
theorem dX4_readSetting_91 : decode cX4_readSetting 91 = .ok (.getfield 9, 3) := by decide +kernel
theorem dX4_readSetting_94 : decode cX4_readSetting 94 = .ok (.iload_n 2, 1) := by decide +kernel
theorem dX4_readSetting_95 : decode cX4_readSetting 95 = .ok (.putfield 86, 3) := by decide +kernel
theorem dX4_readSetting_98 : decode cX4_readSetting 98 = .ok (.goto 22, 3) := by decide +kernel
theorem dX4_readSetting_101 : decode cX4_readSetting 101 = .ok (.aload_n 0, 1) := by decide +kernel
theorem dX4_readSetting_102 : decode cX4_readSetting 102 = .ok (.getfield 9, 3) := by decide +kernel
theorem dX4_readSetting_105 : decode cX4_readSetting 105 = .ok (.iload_n 2, 1) := by decide +kernel
theorem dX4_readSetting_106 : decode cX4_readSetting 106 = .ok (.putfield 89, 3) := by decide +kernel
theorem dX4_readSetting_109 : decode cX4_readSetting 109 = .ok (.goto 11, 3) := by decide +kernel
theorem dX4_readSetting_112 : decode cX4_readSetting 112 = .ok (.aload_n 0, 1) := by decide +kernel
theorem dX4_readSetting_113 : decode cX4_readSetting 113 = .ok (.getfield 9, 3) := by decide +kernel
theorem dX4_readSetting_116 : decode cX4_readSetting 116 = .ok (.iload_n 2, 1) := by decide +kernel
theorem dX4_readSetting_117 : decode cX4_readSetting 117 = .ok (.putfield 92, 3) := by decide +kernel
theorem dX4_readSetting_120 : decode cX4_readSetting 120 = .ok (.iconst 1, 1) := by decide +kernel
theorem dX4_readSetting_121 : decode cX4_readSetting 121 = .ok (.ireturn, 1) := by decide +kernel
theorem dX4_mostOf_0 : decode cX4_mostOf 0 = .ok (.iload_n 0, 1) := by decide +kernel
theorem dX4_mostOf_1 : decode cX4_mostOf 1 = .ok (.tableswitch 44 304 308 #[35, 38, 44, 44, 41], 35) := by decide +kernel
theorem dX4_mostOf_36 : decode cX4_mostOf 36 = .ok (.bipush 99, 2) := by decide +kernel
theorem dX4_mostOf_38 : decode cX4_mostOf 38 = .ok (.ireturn, 1) := by decide +kernel
theorem dX4_mostOf_39 : decode cX4_mostOf 39 = .ok (.bipush 40, 2) := by decide +kernel
theorem dX4_mostOf_41 : decode cX4_mostOf 41 = .ok (.ireturn, 1) := by decide +kernel
theorem dX4_mostOf_42 : decode cX4_mostOf 42 = .ok (.bipush 99, 2) := by decide +kernel
theorem dX4_mostOf_44 : decode cX4_mostOf 44 = .ok (.ireturn, 1) := by decide +kernel
theorem dX4_mostOf_45 : decode cX4_mostOf 45 = .ok (.bipush 100, 2) := by decide +kernel
theorem dX4_mostOf_47 : decode cX4_mostOf 47 = .ok (.ireturn, 1) := by decide +kernel
theorem dX5_init_0 : decode cX5_init 0 = .ok (.aload_n 0, 1) := by decide +kernel
theorem dX5_init_1 : decode cX5_init 1 = .ok (.invokespecial 3, 3) := by decide +kernel
theorem dX5_init_4 : decode cX5_init 4 = .ok (.aload_n 0, 1) := by decide +kernel
theorem dX5_init_5 : decode cX5_init 5 = .ok (.iconst (-1), 1) := by decide +kernel
theorem dX5_init_6 : decode cX5_init 6 = .ok (.putfield 9, 3) := by decide +kernel
theorem dX5_init_9 : decode cX5_init 9 = .ok (.aload_n 0, 1) := by decide +kernel
theorem dX5_init_10 : decode cX5_init 10 = .ok (.bipush 12, 2) := by decide +kernel
theorem dX5_init_12 : decode cX5_init 12 = .ok (.newarray .int, 2) := by decide +kernel
theorem dX5_init_14 : decode cX5_init 14 = .ok (.putfield 15, 3) := by decide +kernel
theorem dX5_init_17 : decode cX5_init 17 = .ok (.aload_n 0, 1) := by decide +kernel
theorem dX5_init_18 : decode cX5_init 18 = .ok (.bipush 12, 2) := by decide +kernel
theorem dX5_init_20 : decode cX5_init 20 = .ok (.newarray .int, 2) := by decide +kernel
theorem dX5_init_22 : decode cX5_init 22 = .ok (.putfield 19, 3) := by decide +kernel
theorem dX5_init_25 : decode cX5_init 25 = .ok (.aload_n 0, 1) := by decide +kernel
theorem dX5_init_26 : decode cX5_init 26 = .ok (.bipush 12, 2) := by decide +kernel
theorem dX5_init_28 : decode cX5_init 28 = .ok (.newarray .int, 2) := by decide +kernel
theorem dX5_init_30 : decode cX5_init 30 = .ok (.putfield 22, 3) := by decide +kernel
theorem dX5_init_33 : decode cX5_init 33 = .ok (.aload_n 0, 1) := by decide +kernel
theorem dX5_init_34 : decode cX5_init 34 = .ok (.sipush 400, 3) := by decide +kernel
theorem dX5_init_37 : decode cX5_init 37 = .ok (.newarray .int, 2) := by decide +kernel
theorem dX5_init_39 : decode cX5_init 39 = .ok (.putfield 25, 3) := by decide +kernel
theorem dX5_init_42 : decode cX5_init 42 = .ok (.aload_n 0, 1) := by decide +kernel
theorem dX5_init_43 : decode cX5_init 43 = .ok (.iconst 0, 1) := by decide +kernel
theorem dX5_init_44 : decode cX5_init 44 = .ok (.putfield 28, 3) := by decide +kernel
theorem dX5_init_47 : decode cX5_init 47 = .ok (.aload_n 0, 1) := by decide +kernel
theorem dX5_init_48 : decode cX5_init 48 = .ok (.bipush 64, 2) := by decide +kernel
theorem dX5_init_50 : decode cX5_init 50 = .ok (.newarray .int, 2) := by decide +kernel
theorem dX5_init_52 : decode cX5_init 52 = .ok (.putfield 31, 3) := by decide +kernel
theorem dX5_init_55 : decode cX5_init 55 = .ok (.return_, 1) := by decide +kernel
theorem dX5_clear_0 : decode cX5_clear 0 = .ok (.aload_n 0, 1) := by decide +kernel
theorem dX5_clear_1 : decode cX5_clear 1 = .ok (.iconst 0, 1) := by decide +kernel
theorem dX5_clear_2 : decode cX5_clear 2 = .ok (.putfield 9, 3) := by decide +kernel
theorem dX5_clear_5 : decode cX5_clear 5 = .ok (.aload_n 0, 1) := by decide +kernel
theorem dX5_clear_6 : decode cX5_clear 6 = .ok (.iconst 0, 1) := by decide +kernel
theorem dX5_clear_7 : decode cX5_clear 7 = .ok (.putfield 28, 3) := by decide +kernel
theorem dX5_clear_10 : decode cX5_clear 10 = .ok (.return_, 1) := by decide +kernel
theorem dX5_put_0 : decode cX5_put 0 = .ok (.aload_n 0, 1) := by decide +kernel
theorem dX5_put_1 : decode cX5_put 1 = .ok (.getfield 28, 3) := by decide +kernel
theorem dX5_put_4 : decode cX5_put 4 = .ok (.aload_n 0, 1) := by decide +kernel
theorem dX5_put_5 : decode cX5_put 5 = .ok (.getfield 25, 3) := by decide +kernel
theorem dX5_put_8 : decode cX5_put 8 = .ok (.arraylength, 1) := by decide +kernel
theorem dX5_put_9 : decode cX5_put 9 = .ok (.if_icmp .ge 23, 3) := by decide +kernel
theorem dX5_put_12 : decode cX5_put 12 = .ok (.aload_n 0, 1) := by decide +kernel
theorem dX5_put_13 : decode cX5_put 13 = .ok (.getfield 25, 3) := by decide +kernel
theorem dX5_put_16 : decode cX5_put 16 = .ok (.aload_n 0, 1) := by decide +kernel
theorem dX5_put_17 : decode cX5_put 17 = .ok (.getfield 28, 3) := by decide +kernel
theorem dX5_put_20 : decode cX5_put 20 = .ok (.iload_n 1, 1) := by decide +kernel
theorem dX5_put_21 : decode cX5_put 21 = .ok (.iastore, 1) := by decide +kernel
theorem dX5_put_22 : decode cX5_put 22 = .ok (.aload_n 0, 1) := by decide +kernel
theorem dX5_put_23 : decode cX5_put 23 = .ok (.dup, 1) := by decide +kernel
theorem dX5_put_24 : decode cX5_put 24 = .ok (.getfield 28, 3) := by decide +kernel
theorem dX5_put_27 : decode cX5_put 27 = .ok (.iconst 1, 1) := by decide +kernel
theorem dX5_put_28 : decode cX5_put 28 = .ok (.iadd, 1) := by decide +kernel
theorem dX5_put_29 : decode cX5_put 29 = .ok (.putfield 28, 3) := by decide +kernel
theorem dX5_put_32 : decode cX5_put 32 = .ok (.return_, 1) := by decide +kernel
theorem dX5_addLine_0 : decode cX5_addLine 0 = .ok (.aload_n 0, 1) := by decide +kernel
theorem dX5_addLine_1 : decode cX5_addLine 1 = .ok (.getfield 9, 3) := by decide +kernel
theorem dX5_addLine_4 : decode cX5_addLine 4 = .ok (.ifCond .lt 55, 3) := by decide +kernel
theorem dX5_addLine_7 : decode cX5_addLine 7 = .ok (.aload_n 0, 1) := by decide +kernel
theorem dX5_addLine_8 : decode cX5_addLine 8 = .ok (.getfield 9, 3) := by decide +kernel
theorem dX5_addLine_11 : decode cX5_addLine 11 = .ok (.bipush 12, 2) := by decide +kernel
theorem dX5_addLine_13 : decode cX5_addLine 13 = .ok (.if_icmp .ge 46, 3) := by decide +kernel
theorem dX5_addLine_16 : decode cX5_addLine 16 = .ok (.aload_n 0, 1) := by decide +kernel
theorem dX5_addLine_17 : decode cX5_addLine 17 = .ok (.getfield 15, 3) := by decide +kernel
theorem dX5_addLine_20 : decode cX5_addLine 20 = .ok (.aload_n 0, 1) := by decide +kernel
theorem dX5_addLine_21 : decode cX5_addLine 21 = .ok (.getfield 9, 3) := by decide +kernel
theorem dX5_addLine_24 : decode cX5_addLine 24 = .ok (.iload_n 1, 1) := by decide +kernel
theorem dX5_addLine_25 : decode cX5_addLine 25 = .ok (.iastore, 1) := by decide +kernel
theorem dX5_addLine_26 : decode cX5_addLine 26 = .ok (.aload_n 0, 1) := by decide +kernel
theorem dX5_addLine_27 : decode cX5_addLine 27 = .ok (.getfield 19, 3) := by decide +kernel
theorem dX5_addLine_30 : decode cX5_addLine 30 = .ok (.aload_n 0, 1) := by decide +kernel
theorem dX5_addLine_31 : decode cX5_addLine 31 = .ok (.getfield 9, 3) := by decide +kernel
theorem dX5_addLine_34 : decode cX5_addLine 34 = .ok (.iload_n 2, 1) := by decide +kernel
theorem dX5_addLine_35 : decode cX5_addLine 35 = .ok (.iastore, 1) := by decide +kernel
theorem dX5_addLine_36 : decode cX5_addLine 36 = .ok (.aload_n 0, 1) := by decide +kernel
theorem dX5_addLine_37 : decode cX5_addLine 37 = .ok (.getfield 22, 3) := by decide +kernel
theorem dX5_addLine_40 : decode cX5_addLine 40 = .ok (.aload_n 0, 1) := by decide +kernel
theorem dX5_addLine_41 : decode cX5_addLine 41 = .ok (.getfield 9, 3) := by decide +kernel
theorem dX5_addLine_44 : decode cX5_addLine 44 = .ok (.aload_n 0, 1) := by decide +kernel
theorem dX5_addLine_45 : decode cX5_addLine 45 = .ok (.getfield 28, 3) := by decide +kernel
theorem dX5_addLine_48 : decode cX5_addLine 48 = .ok (.iastore, 1) := by decide +kernel
theorem dX5_addLine_49 : decode cX5_addLine 49 = .ok (.aload_n 0, 1) := by decide +kernel
theorem dX5_addLine_50 : decode cX5_addLine 50 = .ok (.dup, 1) := by decide +kernel
theorem dX5_addLine_51 : decode cX5_addLine 51 = .ok (.getfield 9, 3) := by decide +kernel
theorem dX5_addLine_54 : decode cX5_addLine 54 = .ok (.iconst 1, 1) := by decide +kernel
theorem dX5_addLine_55 : decode cX5_addLine 55 = .ok (.iadd, 1) := by decide +kernel
theorem dX5_addLine_56 : decode cX5_addLine 56 = .ok (.putfield 9, 3) := by decide +kernel
theorem dX5_addLine_59 : decode cX5_addLine 59 = .ok (.return_, 1) := by decide +kernel
theorem dX5_copyFrom_0 : decode cX5_copyFrom 0 = .ok (.aload_n 0, 1) := by decide +kernel
theorem dX5_copyFrom_1 : decode cX5_copyFrom 1 = .ok (.aload_n 1, 1) := by decide +kernel
theorem dX5_copyFrom_2 : decode cX5_copyFrom 2 = .ok (.getfield 9, 3) := by decide +kernel
theorem dX5_copyFrom_5 : decode cX5_copyFrom 5 = .ok (.putfield 9, 3) := by decide +kernel
theorem dX5_copyFrom_8 : decode cX5_copyFrom 8 = .ok (.aload_n 0, 1) := by decide +kernel
theorem dX5_copyFrom_9 : decode cX5_copyFrom 9 = .ok (.aload_n 1, 1) := by decide +kernel
theorem dX5_copyFrom_10 : decode cX5_copyFrom 10 = .ok (.getfield 28, 3) := by decide +kernel
theorem dX5_copyFrom_13 : decode cX5_copyFrom 13 = .ok (.putfield 28, 3) := by decide +kernel
theorem dX5_copyFrom_16 : decode cX5_copyFrom 16 = .ok (.aload_n 1, 1) := by decide +kernel
theorem dX5_copyFrom_17 : decode cX5_copyFrom 17 = .ok (.getfield 15, 3) := by decide +kernel
theorem dX5_copyFrom_20 : decode cX5_copyFrom 20 = .ok (.iconst 0, 1) := by decide +kernel
theorem dX5_copyFrom_21 : decode cX5_copyFrom 21 = .ok (.aload_n 0, 1) := by decide +kernel
theorem dX5_copyFrom_22 : decode cX5_copyFrom 22 = .ok (.getfield 15, 3) := by decide +kernel
theorem dX5_copyFrom_25 : decode cX5_copyFrom 25 = .ok (.iconst 0, 1) := by decide +kernel
theorem dX5_copyFrom_26 : decode cX5_copyFrom 26 = .ok (.bipush 12, 2) := by decide +kernel
theorem dX5_copyFrom_28 : decode cX5_copyFrom 28 = .ok (.invokestatic 34, 3) := by decide +kernel
theorem dX5_copyFrom_31 : decode cX5_copyFrom 31 = .ok (.aload_n 1, 1) := by decide +kernel
theorem dX5_copyFrom_32 : decode cX5_copyFrom 32 = .ok (.getfield 19, 3) := by decide +kernel
theorem dX5_copyFrom_35 : decode cX5_copyFrom 35 = .ok (.iconst 0, 1) := by decide +kernel
theorem dX5_copyFrom_36 : decode cX5_copyFrom 36 = .ok (.aload_n 0, 1) := by decide +kernel
theorem dX5_copyFrom_37 : decode cX5_copyFrom 37 = .ok (.getfield 19, 3) := by decide +kernel
theorem dX5_copyFrom_40 : decode cX5_copyFrom 40 = .ok (.iconst 0, 1) := by decide +kernel
theorem dX5_copyFrom_41 : decode cX5_copyFrom 41 = .ok (.bipush 12, 2) := by decide +kernel
theorem dX5_copyFrom_43 : decode cX5_copyFrom 43 = .ok (.invokestatic 34, 3) := by decide +kernel
theorem dX5_copyFrom_46 : decode cX5_copyFrom 46 = .ok (.aload_n 1, 1) := by decide +kernel
theorem dX5_copyFrom_47 : decode cX5_copyFrom 47 = .ok (.getfield 22, 3) := by decide +kernel
theorem dX5_copyFrom_50 : decode cX5_copyFrom 50 = .ok (.iconst 0, 1) := by decide +kernel
theorem dX5_copyFrom_51 : decode cX5_copyFrom 51 = .ok (.aload_n 0, 1) := by decide +kernel
theorem dX5_copyFrom_52 : decode cX5_copyFrom 52 = .ok (.getfield 22, 3) := by decide +kernel
theorem dX5_copyFrom_55 : decode cX5_copyFrom 55 = .ok (.iconst 0, 1) := by decide +kernel
theorem dX5_copyFrom_56 : decode cX5_copyFrom 56 = .ok (.bipush 12, 2) := by decide +kernel
theorem dX5_copyFrom_58 : decode cX5_copyFrom 58 = .ok (.invokestatic 34, 3) := by decide +kernel
theorem dX5_copyFrom_61 : decode cX5_copyFrom 61 = .ok (.aload_n 1, 1) := by decide +kernel
theorem dX5_copyFrom_62 : decode cX5_copyFrom 62 = .ok (.getfield 25, 3) := by decide +kernel
theorem dX5_copyFrom_65 : decode cX5_copyFrom 65 = .ok (.iconst 0, 1) := by decide +kernel
theorem dX5_copyFrom_66 : decode cX5_copyFrom 66 = .ok (.aload_n 0, 1) := by decide +kernel
theorem dX5_copyFrom_67 : decode cX5_copyFrom 67 = .ok (.getfield 25, 3) := by decide +kernel
theorem dX5_copyFrom_70 : decode cX5_copyFrom 70 = .ok (.iconst 0, 1) := by decide +kernel
theorem dX5_copyFrom_71 : decode cX5_copyFrom 71 = .ok (.sipush 400, 3) := by decide +kernel
theorem dX5_copyFrom_74 : decode cX5_copyFrom 74 = .ok (.invokestatic 34, 3) := by decide +kernel
theorem dX5_copyFrom_77 : decode cX5_copyFrom 77 = .ok (.return_, 1) := by decide +kernel
theorem dX5_sumOf_0 : decode cX5_sumOf 0 = .ok (.iconst 0, 1) := by decide +kernel
theorem dX5_sumOf_1 : decode cX5_sumOf 1 = .ok (.istore 4, 2) := by decide +kernel
theorem dX5_sumOf_3 : decode cX5_sumOf 3 = .ok (.iconst 0, 1) := by decide +kernel
theorem dX5_sumOf_4 : decode cX5_sumOf 4 = .ok (.istore 5, 2) := by decide +kernel
theorem dX5_sumOf_6 : decode cX5_sumOf 6 = .ok (.iconst 0, 1) := by decide +kernel
theorem dX5_sumOf_7 : decode cX5_sumOf 7 = .ok (.istore 6, 2) := by decide +kernel
theorem dX5_sumOf_9 : decode cX5_sumOf 9 = .ok (.iload 6, 2) := by decide +kernel
theorem dX5_sumOf_11 : decode cX5_sumOf 11 = .ok (.aload_n 0, 1) := by decide +kernel
theorem dX5_sumOf_12 : decode cX5_sumOf 12 = .ok (.getfield 9, 3) := by decide +kernel
theorem dX5_sumOf_15 : decode cX5_sumOf 15 = .ok (.if_icmp .ge 58, 3) := by decide +kernel
theorem dX5_sumOf_18 : decode cX5_sumOf 18 = .ok (.aload_n 0, 1) := by decide +kernel
theorem dX5_sumOf_19 : decode cX5_sumOf 19 = .ok (.getfield 22, 3) := by decide +kernel
theorem dX5_sumOf_22 : decode cX5_sumOf 22 = .ok (.iload 6, 2) := by decide +kernel
theorem dX5_sumOf_24 : decode cX5_sumOf 24 = .ok (.iaload, 1) := by decide +kernel
theorem dX5_sumOf_25 : decode cX5_sumOf 25 = .ok (.istore 7, 2) := by decide +kernel
theorem dX5_sumOf_27 : decode cX5_sumOf 27 = .ok (.aload_n 0, 1) := by decide +kernel
theorem dX5_sumOf_28 : decode cX5_sumOf 28 = .ok (.getfield 15, 3) := by decide +kernel
theorem dX5_sumOf_31 : decode cX5_sumOf 31 = .ok (.iload 6, 2) := by decide +kernel
theorem dX5_sumOf_33 : decode cX5_sumOf 33 = .ok (.iaload, 1) := by decide +kernel
theorem dX5_sumOf_34 : decode cX5_sumOf 34 = .ok (.iload_n 1, 1) := by decide +kernel
theorem dX5_sumOf_35 : decode cX5_sumOf 35 = .ok (.if_icmp .ne 28, 3) := by decide +kernel
theorem dX5_sumOf_38 : decode cX5_sumOf 38 = .ok (.aload_n 0, 1) := by decide +kernel
theorem dX5_sumOf_39 : decode cX5_sumOf 39 = .ok (.iload 5, 2) := by decide +kernel
theorem dX5_sumOf_41 : decode cX5_sumOf 41 = .ok (.iload 7, 2) := by decide +kernel
theorem dX5_sumOf_43 : decode cX5_sumOf 43 = .ok (.aload_n 2, 1) := by decide +kernel
theorem dX5_sumOf_44 : decode cX5_sumOf 44 = .ok (.iload_n 3, 1) := by decide +kernel
theorem dX5_sumOf_45 : decode cX5_sumOf 45 = .ok (.invokevirtual 40, 3) := by decide +kernel
theorem dX5_sumOf_48 : decode cX5_sumOf 48 = .ok (.ifCond .eq 15, 3) := by decide +kernel
theorem dX5_sumOf_51 : decode cX5_sumOf 51 = .ok (.iload 4, 2) := by decide +kernel
theorem dX5_sumOf_53 : decode cX5_sumOf 53 = .ok (.aload_n 0, 1) := by decide +kernel
theorem dX5_sumOf_54 : decode cX5_sumOf 54 = .ok (.getfield 19, 3) := by decide +kernel
theorem dX5_sumOf_57 : decode cX5_sumOf 57 = .ok (.iload 6, 2) := by decide +kernel
theorem dX5_sumOf_59 : decode cX5_sumOf 59 = .ok (.iaload, 1) := by decide +kernel
theorem dX5_sumOf_60 : decode cX5_sumOf 60 = .ok (.iadd, 1) := by decide +kernel
theorem dX5_sumOf_61 : decode cX5_sumOf 61 = .ok (.istore 4, 2) := by decide +kernel
theorem dX5_sumOf_63 : decode cX5_sumOf 63 = .ok (.iload 7, 2) := by decide +kernel
theorem dX5_sumOf_65 : decode cX5_sumOf 65 = .ok (.istore 5, 2) := by decide +kernel
theorem dX5_sumOf_67 : decode cX5_sumOf 67 = .ok (.iinc 6 1, 3) := by decide +kernel
theorem dX5_sumOf_70 : decode cX5_sumOf 70 = .ok (.goto (-61), 3) := by decide +kernel
theorem dX5_sumOf_73 : decode cX5_sumOf 73 = .ok (.iload 4, 2) := by decide +kernel
theorem dX5_sumOf_75 : decode cX5_sumOf 75 = .ok (.ireturn, 1) := by decide +kernel
theorem dX5_holds_0 : decode cX5_holds 0 = .ok (.iconst 0, 1) := by decide +kernel
theorem dX5_holds_1 : decode cX5_holds 1 = .ok (.istore 5, 2) := by decide +kernel
theorem dX5_holds_3 : decode cX5_holds 3 = .ok (.iload_n 1, 1) := by decide +kernel
theorem dX5_holds_4 : decode cX5_holds 4 = .ok (.istore 6, 2) := by decide +kernel
theorem dX5_holds_6 : decode cX5_holds 6 = .ok (.iload 6, 2) := by decide +kernel
theorem dX5_holds_8 : decode cX5_holds 8 = .ok (.iload_n 2, 1) := by decide +kernel
theorem dX5_holds_9 : decode cX5_holds 9 = .ok (.if_icmp .ge 140, 3) := by decide +kernel
theorem dX5_holds_12 : decode cX5_holds 12 = .ok (.aload_n 0, 1) := by decide +kernel
theorem dX5_holds_13 : decode cX5_holds 13 = .ok (.getfield 25, 3) := by decide +kernel
theorem dX5_holds_16 : decode cX5_holds 16 = .ok (.iload 6, 2) := by decide +kernel
theorem dX5_holds_18 : decode cX5_holds 18 = .ok (.iaload, 1) := by decide +kernel
theorem dX5_holds_19 : decode cX5_holds 19 = .ok (.istore 7, 2) := by decide +kernel
theorem dX5_holds_21 : decode cX5_holds 21 = .ok (.iload 7, 2) := by decide +kernel
theorem dX5_holds_23 : decode cX5_holds 23 = .ok (.sipush (-317), 3) := by decide +kernel
theorem dX5_holds_26 : decode cX5_holds 26 = .ok (.if_icmp .ne 31, 3) := by decide +kernel
theorem dX5_holds_29 : decode cX5_holds 29 = .ok (.iload 5, 2) := by decide +kernel
theorem dX5_holds_31 : decode cX5_holds 31 = .ok (.ifCond .le 26, 3) := by decide +kernel
theorem dX5_holds_34 : decode cX5_holds 34 = .ok (.aload_n 0, 1) := by decide +kernel
theorem dX5_holds_35 : decode cX5_holds 35 = .ok (.getfield 31, 3) := by decide +kernel
theorem dX5_holds_38 : decode cX5_holds 38 = .ok (.iload 5, 2) := by decide +kernel
theorem dX5_holds_40 : decode cX5_holds 40 = .ok (.iconst 1, 1) := by decide +kernel
theorem dX5_holds_41 : decode cX5_holds 41 = .ok (.isub, 1) := by decide +kernel
theorem dX5_holds_42 : decode cX5_holds 42 = .ok (.iconst 1, 1) := by decide +kernel
theorem dX5_holds_43 : decode cX5_holds 43 = .ok (.aload_n 0, 1) := by decide +kernel
theorem dX5_holds_44 : decode cX5_holds 44 = .ok (.getfield 31, 3) := by decide +kernel
theorem dX5_holds_47 : decode cX5_holds 47 = .ok (.iload 5, 2) := by decide +kernel
theorem dX5_holds_49 : decode cX5_holds 49 = .ok (.iconst 1, 1) := by decide +kernel
theorem dX5_holds_50 : decode cX5_holds 50 = .ok (.isub, 1) := by decide +kernel
theorem dX5_holds_51 : decode cX5_holds 51 = .ok (.iaload, 1) := by decide +kernel
theorem dX5_holds_52 : decode cX5_holds 52 = .ok (.isub, 1) := by decide +kernel
theorem dX5_holds_53 : decode cX5_holds 53 = .ok (.iastore, 1) := by decide +kernel
theorem dX5_holds_54 : decode cX5_holds 54 = .ok (.goto 89, 3) := by decide +kernel
theorem dX5_holds_57 : decode cX5_holds 57 = .ok (.iload 7, 2) := by decide +kernel
theorem dX5_holds_59 : decode cX5_holds 59 = .ok (.invokestatic 44, 3) := by decide +kernel
theorem dX5_holds_62 : decode cX5_holds 62 = .ok (.ifCond .eq 45, 3) := by decide +kernel
theorem dX5_holds_65 : decode cX5_holds 65 = .ok (.iload 5, 2) := by decide +kernel
theorem dX5_holds_67 : decode cX5_holds 67 = .ok (.iconst 1, 1) := by decide +kernel
theorem dX5_holds_68 : decode cX5_holds 68 = .ok (.if_icmp .le 39, 3) := by decide +kernel
theorem dX5_holds_71 : decode cX5_holds 71 = .ok (.iinc 5 (-1), 3) := by decide +kernel
theorem dX5_holds_74 : decode cX5_holds 74 = .ok (.aload_n 0, 1) := by decide +kernel
theorem dX5_holds_75 : decode cX5_holds 75 = .ok (.getfield 31, 3) := by decide +kernel
theorem dX5_holds_78 : decode cX5_holds 78 = .ok (.iload 5, 2) := by decide +kernel
theorem dX5_holds_80 : decode cX5_holds 80 = .ok (.iconst 1, 1) := by decide +kernel
theorem dX5_holds_81 : decode cX5_holds 81 = .ok (.isub, 1) := by decide +kernel
theorem dX5_holds_82 : decode cX5_holds 82 = .ok (.iload 7, 2) := by decide +kernel
theorem dX5_holds_84 : decode cX5_holds 84 = .ok (.aload_n 0, 1) := by decide +kernel
theorem dX5_holds_85 : decode cX5_holds 85 = .ok (.getfield 31, 3) := by decide +kernel
theorem dX5_holds_88 : decode cX5_holds 88 = .ok (.iload 5, 2) := by decide +kernel
theorem dX5_holds_90 : decode cX5_holds 90 = .ok (.iconst 1, 1) := by decide +kernel
theorem dX5_holds_91 : decode cX5_holds 91 = .ok (.isub, 1) := by decide +kernel
theorem dX5_holds_92 : decode cX5_holds 92 = .ok (.iaload, 1) := by decide +kernel
theorem dX5_holds_93 : decode cX5_holds 93 = .ok (.aload_n 0, 1) := by decide +kernel
theorem dX5_holds_94 : decode cX5_holds 94 = .ok (.getfield 31, 3) := by decide +kernel
theorem dX5_holds_97 : decode cX5_holds 97 = .ok (.iload 5, 2) := by decide +kernel
theorem dX5_holds_99 : decode cX5_holds 99 = .ok (.iaload, 1) := by decide +kernel
theorem dX5_holds_100 : decode cX5_holds 100 = .ok (.invokestatic 48, 3) := by decide +kernel
theorem dX5_holds_103 : decode cX5_holds 103 = .ok (.iastore, 1) := by decide +kernel
theorem dX5_holds_104 : decode cX5_holds 104 = .ok (.goto 39, 3) := by decide +kernel
theorem dX5_holds_107 : decode cX5_holds 107 = .ok (.iload 5, 2) := by decide +kernel
theorem dX5_holds_109 : decode cX5_holds 109 = .ok (.bipush 64, 2) := by decide +kernel
theorem dX5_holds_111 : decode cX5_holds 111 = .ok (.if_icmp .ge 32, 3) := by decide +kernel
theorem dX5_holds_114 : decode cX5_holds 114 = .ok (.aload_n 0, 1) := by decide +kernel
theorem dX5_holds_115 : decode cX5_holds 115 = .ok (.getfield 31, 3) := by decide +kernel
theorem dX5_holds_118 : decode cX5_holds 118 = .ok (.iload 5, 2) := by decide +kernel
theorem dX5_holds_120 : decode cX5_holds 120 = .ok (.iload 7, 2) := by decide +kernel
theorem dX5_holds_122 : decode cX5_holds 122 = .ok (.ifCond .lt 8, 3) := by decide +kernel
theorem dX5_holds_125 : decode cX5_holds 125 = .ok (.iload 7, 2) := by decide +kernel
theorem dX5_holds_127 : decode cX5_holds 127 = .ok (.goto 12, 3) := by decide +kernel
theorem dX5_holds_130 : decode cX5_holds 130 = .ok (.aload_n 3, 1) := by decide +kernel
theorem dX5_holds_131 : decode cX5_holds 131 = .ok (.iload 7, 2) := by decide +kernel
theorem dX5_holds_133 : decode cX5_holds 133 = .ok (.ineg, 1) := by decide +kernel
theorem dX5_holds_134 : decode cX5_holds 134 = .ok (.iload 4, 2) := by decide +kernel
theorem dX5_holds_136 : decode cX5_holds 136 = .ok (.invokevirtual 52, 3) := by decide +kernel
theorem dX5_holds_139 : decode cX5_holds 139 = .ok (.iastore, 1) := by decide +kernel
theorem dX5_holds_140 : decode cX5_holds 140 = .ok (.iinc 5 1, 3) := by decide +kernel
theorem dX5_holds_143 : decode cX5_holds 143 = .ok (.iinc 6 1, 3) := by decide +kernel
theorem dX5_holds_146 : decode cX5_holds 146 = .ok (.goto (-140), 3) := by decide +kernel
theorem dX5_holds_149 : decode cX5_holds 149 = .ok (.iload 5, 2) := by decide +kernel
theorem dX5_holds_151 : decode cX5_holds 151 = .ok (.ifCond .eq 12, 3) := by decide +kernel
theorem dX5_holds_154 : decode cX5_holds 154 = .ok (.aload_n 0, 1) := by decide +kernel
theorem dX5_holds_155 : decode cX5_holds 155 = .ok (.getfield 31, 3) := by decide +kernel
theorem dX5_holds_158 : decode cX5_holds 158 = .ok (.iconst 0, 1) := by decide +kernel
theorem dX5_holds_159 : decode cX5_holds 159 = .ok (.iaload, 1) := by decide +kernel
theorem dX5_holds_160 : decode cX5_holds 160 = .ok (.ifCond .eq 7, 3) := by decide +kernel
theorem dX5_holds_163 : decode cX5_holds 163 = .ok (.iconst 1, 1) := by decide +kernel
theorem dX5_holds_164 : decode cX5_holds 164 = .ok (.goto 4, 3) := by decide +kernel
theorem dX5_holds_167 : decode cX5_holds 167 = .ok (.iconst 0, 1) := by decide +kernel
theorem dX5_holds_168 : decode cX5_holds 168 = .ok (.ireturn, 1) := by decide +kernel
theorem dX5_joins_0 : decode cX5_joins 0 = .ok (.iload_n 0, 1) := by decide +kernel
theorem dX5_joins_1 : decode cX5_joins 1 = .ok (.bipush (-43), 2) := by decide +kernel
theorem dX5_joins_3 : decode cX5_joins 3 = .ok (.if_icmp .eq 29, 3) := by decide +kernel
theorem dX5_joins_6 : decode cX5_joins 6 = .ok (.iload_n 0, 1) := by decide +kernel
theorem dX5_joins_7 : decode cX5_joins 7 = .ok (.bipush (-60), 2) := by decide +kernel
theorem dX5_joins_9 : decode cX5_joins 9 = .ok (.if_icmp .eq 23, 3) := by decide +kernel
theorem dX5_joins_12 : decode cX5_joins 12 = .ok (.iload_n 0, 1) := by decide +kernel
theorem dX5_joins_13 : decode cX5_joins 13 = .ok (.bipush (-62), 2) := by decide +kernel
theorem dX5_joins_15 : decode cX5_joins 15 = .ok (.if_icmp .eq 17, 3) := by decide +kernel
theorem dX5_joins_18 : decode cX5_joins 18 = .ok (.iload_n 0, 1) := by decide +kernel
theorem dX5_joins_19 : decode cX5_joins 19 = .ok (.sipush (-316), 3) := by decide +kernel
theorem dX5_joins_22 : decode cX5_joins 22 = .ok (.if_icmp .eq 10, 3) := by decide +kernel
theorem dX5_joins_25 : decode cX5_joins 25 = .ok (.iload_n 0, 1) := by decide +kernel
theorem dX5_joins_26 : decode cX5_joins 26 = .ok (.sipush (-315), 3) := by decide +kernel
theorem dX5_joins_29 : decode cX5_joins 29 = .ok (.if_icmp .ne 7, 3) := by decide +kernel
theorem dX5_joins_32 : decode cX5_joins 32 = .ok (.iconst 1, 1) := by decide +kernel
theorem dX5_joins_33 : decode cX5_joins 33 = .ok (.goto 4, 3) := by decide +kernel
theorem dX5_joins_36 : decode cX5_joins 36 = .ok (.iconst 0, 1) := by decide +kernel
theorem dX5_joins_37 : decode cX5_joins 37 = .ok (.ireturn, 1) := by decide +kernel
theorem dX5_joined_0 : decode cX5_joined 0 = .ok (.iload_n 0, 1) := by decide +kernel
theorem dX5_joined_1 : decode cX5_joined 1 = .ok (.ineg, 1) := by decide +kernel
theorem dX5_joined_2 : decode cX5_joined 2 = .ok (.lookupswitch 72 #[(43, 42), (60, 46), (62, 57), (316, 68)], 42) := by decide +kernel
theorem dX5_joined_44 : decode cX5_joined 44 = .ok (.iload_n 1, 1) := by decide +kernel
theorem dX5_joined_45 : decode cX5_joined 45 = .ok (.iload_n 2, 1) := by decide +kernel
theorem dX5_joined_46 : decode cX5_joined 46 = .ok (.iadd, 1) := by decide +kernel
theorem dX5_joined_47 : decode cX5_joined 47 = .ok (.ireturn, 1) := by decide +kernel
theorem dX5_joined_48 : decode cX5_joined 48 = .ok (.iload_n 1, 1) := by decide +kernel
theorem dX5_joined_49 : decode cX5_joined 49 = .ok (.iload_n 2, 1) := by decide +kernel
theorem dX5_joined_50 : decode cX5_joined 50 = .ok (.if_icmp .ge 7, 3) := by decide +kernel
theorem dX5_joined_53 : decode cX5_joined 53 = .ok (.iconst 1, 1) := by decide +kernel
theorem dX5_joined_54 : decode cX5_joined 54 = .ok (.goto 4, 3) := by decide +kernel
theorem dX5_joined_57 : decode cX5_joined 57 = .ok (.iconst 0, 1) := by decide +kernel
theorem dX5_joined_58 : decode cX5_joined 58 = .ok (.ireturn, 1) := by decide +kernel
theorem dX5_joined_59 : decode cX5_joined 59 = .ok (.iload_n 1, 1) := by decide +kernel
theorem dX5_joined_60 : decode cX5_joined 60 = .ok (.iload_n 2, 1) := by decide +kernel
theorem dX5_joined_61 : decode cX5_joined 61 = .ok (.if_icmp .le 7, 3) := by decide +kernel
theorem dX5_joined_64 : decode cX5_joined 64 = .ok (.iconst 1, 1) := by decide +kernel
theorem dX5_joined_65 : decode cX5_joined 65 = .ok (.goto 4, 3) := by decide +kernel
theorem dX5_joined_68 : decode cX5_joined 68 = .ok (.iconst 0, 1) := by decide +kernel
theorem dX5_joined_69 : decode cX5_joined 69 = .ok (.ireturn, 1) := by decide +kernel
theorem dX5_joined_70 : decode cX5_joined 70 = .ok (.iload_n 1, 1) := by decide +kernel
theorem dX5_joined_71 : decode cX5_joined 71 = .ok (.iload_n 2, 1) := by decide +kernel
theorem dX5_joined_72 : decode cX5_joined 72 = .ok (.iand, 1) := by decide +kernel
theorem dX5_joined_73 : decode cX5_joined 73 = .ok (.ireturn, 1) := by decide +kernel
theorem dX5_joined_74 : decode cX5_joined 74 = .ok (.iload_n 1, 1) := by decide +kernel
theorem dX5_joined_75 : decode cX5_joined 75 = .ok (.iload_n 2, 1) := by decide +kernel
theorem dX5_joined_76 : decode cX5_joined 76 = .ok (.ior, 1) := by decide +kernel
theorem dX5_joined_77 : decode cX5_joined 77 = .ok (.ireturn, 1) := by decide +kernel
theorem dX6_init_0 : decode cX6_init 0 = .ok (.aload_n 0, 1) := by decide +kernel
theorem dX6_init_1 : decode cX6_init 1 = .ok (.aload_n 1, 1) := by decide +kernel
theorem dX6_init_2 : decode cX6_init 2 = .ok (.bipush 12, 2) := by decide +kernel
theorem dX6_init_4 : decode cX6_init 4 = .ok (.invokespecial 3, 3) := by decide +kernel
theorem dX6_init_7 : decode cX6_init 7 = .ok (.aload_n 0, 1) := by decide +kernel
theorem dX6_init_8 : decode cX6_init 8 = .ok (.aload_n 2, 1) := by decide +kernel
theorem dX6_init_9 : decode cX6_init 9 = .ok (.putfield 9, 3) := by decide +kernel
theorem dX6_init_12 : decode cX6_init 12 = .ok (.return_, 1) := by decide +kernel
theorem dX6_readLine_0 : decode cX6_readLine 0 = .ok (.aload_n 0, 1) := by decide +kernel
theorem dX6_readLine_1 : decode cX6_readLine 1 = .ok (.getfield 15, 3) := by decide +kernel
theorem dX6_readLine_4 : decode cX6_readLine 4 = .ok (.aload_n 0, 1) := by decide +kernel
theorem dX6_readLine_5 : decode cX6_readLine 5 = .ok (.getfield 19, 3) := by decide +kernel
theorem dX6_readLine_8 : decode cX6_readLine 8 = .ok (.invokevirtual 23, 3) := by decide +kernel
theorem dX6_readLine_11 : decode cX6_readLine 11 = .ok (.istore_n 1, 1) := by decide +kernel
theorem dX6_readLine_12 : decode cX6_readLine 12 = .ok (.iload_n 1, 1) := by decide +kernel
theorem dX6_readLine_13 : decode cX6_readLine 13 = .ok (.sipush 312, 3) := by decide +kernel
theorem dX6_readLine_16 : decode cX6_readLine 16 = .ok (.if_icmp .eq 19, 3) := by decide +kernel
theorem dX6_readLine_19 : decode cX6_readLine 19 = .ok (.iload_n 1, 1) := by decide +kernel
theorem dX6_readLine_20 : decode cX6_readLine 20 = .ok (.sipush 313, 3) := by decide +kernel
theorem dX6_readLine_23 : decode cX6_readLine 23 = .ok (.if_icmp .eq 12, 3) := by decide +kernel
theorem dX6_readLine_26 : decode cX6_readLine 26 = .ok (.iload_n 1, 1) := by decide +kernel
theorem dX6_readLine_27 : decode cX6_readLine 27 = .ok (.sipush 311, 3) := by decide +kernel
theorem dX6_readLine_30 : decode cX6_readLine 30 = .ok (.if_icmp .eq 5, 3) := by decide +kernel
theorem dX6_readLine_33 : decode cX6_readLine 33 = .ok (.iconst 0, 1) := by decide +kernel
theorem dX6_readLine_34 : decode cX6_readLine 34 = .ok (.ireturn, 1) := by decide +kernel
theorem dX6_readLine_35 : decode cX6_readLine 35 = .ok (.aload_n 0, 1) := by decide +kernel
theorem dX6_readLine_36 : decode cX6_readLine 36 = .ok (.dup, 1) := by decide +kernel
theorem dX6_readLine_37 : decode cX6_readLine 37 = .ok (.getfield 19, 3) := by decide +kernel
theorem dX6_readLine_40 : decode cX6_readLine 40 = .ok (.iconst 1, 1) := by decide +kernel
theorem dX6_readLine_41 : decode cX6_readLine 41 = .ok (.iadd, 1) := by decide +kernel
theorem dX6_readLine_42 : decode cX6_readLine 42 = .ok (.putfield 19, 3) := by decide +kernel
theorem dX6_readLine_45 : decode cX6_readLine 45 = .ok (.aload_n 0, 1) := by decide +kernel
theorem dX6_readLine_46 : decode cX6_readLine 46 = .ok (.iconst 0, 1) := by decide +kernel
theorem dX6_readLine_47 : decode cX6_readLine 47 = .ok (.bipush 60, 2) := by decide +kernel
theorem dX6_readLine_49 : decode cX6_readLine 49 = .ok (.invokevirtual 29, 3) := by decide +kernel
theorem dX6_readLine_52 : decode cX6_readLine 52 = .ok (.istore_n 2, 1) := by decide +kernel
theorem dX6_readLine_53 : decode cX6_readLine 53 = .ok (.iload_n 2, 1) := by decide +kernel
theorem dX6_readLine_54 : decode cX6_readLine 54 = .ok (.iconst (-1), 1) := by decide +kernel
theorem dX6_readLine_55 : decode cX6_readLine 55 = .ok (.if_icmp .ne 5, 3) := by decide +kernel
theorem dX6_readLine_58 : decode cX6_readLine 58 = .ok (.iconst 0, 1) := by decide +kernel
theorem dX6_readLine_59 : decode cX6_readLine 59 = .ok (.ireturn, 1) := by decide +kernel
theorem dX6_readLine_60 : decode cX6_readLine 60 = .ok (.aload_n 0, 1) := by decide +kernel
theorem dX6_readLine_61 : decode cX6_readLine 61 = .ok (.sipush 314, 3) := by decide +kernel
theorem dX6_readLine_64 : decode cX6_readLine 64 = .ok (.invokevirtual 33, 3) := by decide +kernel
theorem dX6_readLine_67 : decode cX6_readLine 67 = .ok (.ifCond .eq 13, 3) := by decide +kernel
theorem dX6_readLine_70 : decode cX6_readLine 70 = .ok (.aload_n 0, 1) := by decide +kernel
theorem dX6_readLine_71 : decode cX6_readLine 71 = .ok (.iconst 0, 1) := by decide +kernel
theorem dX6_readLine_72 : decode cX6_readLine 72 = .ok (.invokevirtual 37, 3) := by decide +kernel
theorem dX6_readLine_75 : decode cX6_readLine 75 = .ok (.ifCond .ne 5, 3) := by decide +kernel
theorem dX6_readLine_78 : decode cX6_readLine 78 = .ok (.iconst 0, 1) := by decide +kernel
theorem dX6_readLine_79 : decode cX6_readLine 79 = .ok (.ireturn, 1) := by decide +kernel
theorem dX6_readLine_80 : decode cX6_readLine 80 = .ok (.aload_n 0, 1) := by decide +kernel
theorem dX6_readLine_81 : decode cX6_readLine 81 = .ok (.getfield 9, 3) := by decide +kernel
theorem dX6_readLine_84 : decode cX6_readLine 84 = .ok (.iload_n 1, 1) := by decide +kernel
theorem dX6_readLine_85 : decode cX6_readLine 85 = .ok (.iload_n 2, 1) := by decide +kernel
theorem dX6_readLine_86 : decode cX6_readLine 86 = .ok (.invokevirtual 40, 3) := by decide +kernel
theorem dX6_readLine_89 : decode cX6_readLine 89 = .ok (.iconst 1, 1) := by decide +kernel
theorem dX6_readLine_90 : decode cX6_readLine 90 = .ok (.ireturn, 1) := by decide +kernel
theorem dX6_readAny_0 : decode cX6_readAny 0 = .ok (.aload_n 0, 1) := by decide +kernel
theorem dX6_readAny_1 : decode cX6_readAny 1 = .ok (.iload_n 1, 1) := by decide +kernel
theorem dX6_readAny_2 : decode cX6_readAny 2 = .ok (.invokevirtual 46, 3) := by decide +kernel
theorem dX6_readAny_5 : decode cX6_readAny 5 = .ok (.ifCond .ne 5, 3) := by decide +kernel
theorem dX6_readAny_8 : decode cX6_readAny 8 = .ok (.iconst 0, 1) := by decide +kernel
theorem dX6_readAny_9 : decode cX6_readAny 9 = .ok (.ireturn, 1) := by decide +kernel
theorem dX6_readAny_10 : decode cX6_readAny 10 = .ok (.iconst 0, 1) := by decide +kernel
theorem dX6_readAny_11 : decode cX6_readAny 11 = .ok (.istore_n 2, 1) := by decide +kernel
theorem dX6_readAny_12 : decode cX6_readAny 12 = .ok (.iload_n 2, 1) := by decide +kernel
theorem dX6_readAny_13 : decode cX6_readAny 13 = .ok (.sipush 400, 3) := by decide +kernel
theorem dX6_readAny_16 : decode cX6_readAny 16 = .ok (.if_icmp .ge 39, 3) := by decide +kernel
theorem dX6_readAny_19 : decode cX6_readAny 19 = .ok (.aload_n 0, 1) := by decide +kernel
theorem dX6_readAny_20 : decode cX6_readAny 20 = .ok (.sipush 315, 3) := by decide +kernel
theorem dX6_readAny_23 : decode cX6_readAny 23 = .ok (.invokevirtual 33, 3) := by decide +kernel
theorem dX6_readAny_26 : decode cX6_readAny 26 = .ok (.ifCond .eq 29, 3) := by decide +kernel
theorem dX6_readAny_29 : decode cX6_readAny 29 = .ok (.aload_n 0, 1) := by decide +kernel
theorem dX6_readAny_30 : decode cX6_readAny 30 = .ok (.iload_n 1, 1) := by decide +kernel
theorem dX6_readAny_31 : decode cX6_readAny 31 = .ok (.invokevirtual 46, 3) := by decide +kernel
theorem dX6_readAny_34 : decode cX6_readAny 34 = .ok (.ifCond .ne 5, 3) := by decide +kernel
theorem dX6_readAny_37 : decode cX6_readAny 37 = .ok (.iconst 0, 1) := by decide +kernel
theorem dX6_readAny_38 : decode cX6_readAny 38 = .ok (.ireturn, 1) := by decide +kernel
theorem dX6_readAny_39 : decode cX6_readAny 39 = .ok (.aload_n 0, 1) := by decide +kernel
theorem dX6_readAny_40 : decode cX6_readAny 40 = .ok (.getfield 9, 3) := by decide +kernel
theorem dX6_readAny_43 : decode cX6_readAny 43 = .ok (.sipush (-315), 3) := by decide +kernel
theorem dX6_readAny_46 : decode cX6_readAny 46 = .ok (.invokevirtual 49, 3) := by decide +kernel
theorem dX6_readAny_49 : decode cX6_readAny 49 = .ok (.iinc 2 1, 3) := by decide +kernel
theorem dX6_readAny_52 : decode cX6_readAny 52 = .ok (.goto (-40), 3) := by decide +kernel
theorem dX6_readAny_55 : decode cX6_readAny 55 = .ok (.iconst 1, 1) := by decide +kernel
theorem dX6_readAny_56 : decode cX6_readAny 56 = .ok (.ireturn, 1) := by decide +kernel
theorem dX6_readAll_0 : decode cX6_readAll 0 = .ok (.aload_n 0, 1) := by decide +kernel
theorem dX6_readAll_1 : decode cX6_readAll 1 = .ok (.iload_n 1, 1) := by decide +kernel
theorem dX6_readAll_2 : decode cX6_readAll 2 = .ok (.invokevirtual 53, 3) := by decide +kernel
theorem dX6_readAll_5 : decode cX6_readAll 5 = .ok (.ifCond .ne 5, 3) := by decide +kernel
theorem dX6_readAll_8 : decode cX6_readAll 8 = .ok (.iconst 0, 1) := by decide +kernel
theorem dX6_readAll_9 : decode cX6_readAll 9 = .ok (.ireturn, 1) := by decide +kernel
theorem dX6_readAll_10 : decode cX6_readAll 10 = .ok (.iconst 0, 1) := by decide +kernel
theorem dX6_readAll_11 : decode cX6_readAll 11 = .ok (.istore_n 2, 1) := by decide +kernel
theorem dX6_readAll_12 : decode cX6_readAll 12 = .ok (.iload_n 2, 1) := by decide +kernel
theorem dX6_readAll_13 : decode cX6_readAll 13 = .ok (.sipush 400, 3) := by decide +kernel
theorem dX6_readAll_16 : decode cX6_readAll 16 = .ok (.if_icmp .ge 39, 3) := by decide +kernel
theorem dX6_readAll_19 : decode cX6_readAll 19 = .ok (.aload_n 0, 1) := by decide +kernel
theorem dX6_readAll_20 : decode cX6_readAll 20 = .ok (.sipush 316, 3) := by decide +kernel
theorem dX6_readAll_23 : decode cX6_readAll 23 = .ok (.invokevirtual 33, 3) := by decide +kernel
theorem dX6_readAll_26 : decode cX6_readAll 26 = .ok (.ifCond .eq 29, 3) := by decide +kernel
theorem dX6_readAll_29 : decode cX6_readAll 29 = .ok (.aload_n 0, 1) := by decide +kernel
theorem dX6_readAll_30 : decode cX6_readAll 30 = .ok (.iload_n 1, 1) := by decide +kernel
theorem dX6_readAll_31 : decode cX6_readAll 31 = .ok (.invokevirtual 53, 3) := by decide +kernel
theorem dX6_readAll_34 : decode cX6_readAll 34 = .ok (.ifCond .ne 5, 3) := by decide +kernel
theorem dX6_readAll_37 : decode cX6_readAll 37 = .ok (.iconst 0, 1) := by decide +kernel
theorem dX6_readAll_38 : decode cX6_readAll 38 = .ok (.ireturn, 1) := by decide +kernel
theorem dX6_readAll_39 : decode cX6_readAll 39 = .ok (.aload_n 0, 1) := by decide +kernel
theorem dX6_readAll_40 : decode cX6_readAll 40 = .ok (.getfield 9, 3) := by decide +kernel
theorem dX6_readAll_43 : decode cX6_readAll 43 = .ok (.sipush (-316), 3) := by decide +kernel
theorem dX6_readAll_46 : decode cX6_readAll 46 = .ok (.invokevirtual 49, 3) := by decide +kernel
theorem dX6_readAll_49 : decode cX6_readAll 49 = .ok (.iinc 2 1, 3) := by decide +kernel
theorem dX6_readAll_52 : decode cX6_readAll 52 = .ok (.goto (-40), 3) := by decide +kernel
theorem dX6_readAll_55 : decode cX6_readAll 55 = .ok (.iconst 1, 1) := by decide +kernel
theorem dX6_readAll_56 : decode cX6_readAll 56 = .ok (.ireturn, 1) := by decide +kernel
theorem dX6_readAtom_0 : decode cX6_readAtom 0 = .ok (.aload_n 0, 1) := by decide +kernel
theorem dX6_readAtom_1 : decode cX6_readAtom 1 = .ok (.getfield 15, 3) := by decide +kernel
theorem dX6_readAtom_4 : decode cX6_readAtom 4 = .ok (.aload_n 0, 1) := by decide +kernel
theorem dX6_readAtom_5 : decode cX6_readAtom 5 = .ok (.getfield 19, 3) := by decide +kernel
theorem dX6_readAtom_8 : decode cX6_readAtom 8 = .ok (.invokevirtual 23, 3) := by decide +kernel
theorem dX6_readAtom_11 : decode cX6_readAtom 11 = .ok (.istore_n 2, 1) := by decide +kernel
theorem dX6_readAtom_12 : decode cX6_readAtom 12 = .ok (.iload_n 2, 1) := by decide +kernel
theorem dX6_readAtom_13 : decode cX6_readAtom 13 = .ok (.sipush 317, 3) := by decide +kernel
theorem dX6_readAtom_16 : decode cX6_readAtom 16 = .ok (.if_icmp .eq 9, 3) := by decide +kernel
theorem dX6_readAtom_19 : decode cX6_readAtom 19 = .ok (.iload_n 2, 1) := by decide +kernel
theorem dX6_readAtom_20 : decode cX6_readAtom 20 = .ok (.bipush 40, 2) := by decide +kernel
theorem dX6_readAtom_22 : decode cX6_readAtom 22 = .ok (.if_icmp .ne 26, 3) := by decide +kernel
theorem dX6_readAtom_25 : decode cX6_readAtom 25 = .ok (.iload_n 1, 1) := by decide +kernel
theorem dX6_readAtom_26 : decode cX6_readAtom 26 = .ok (.bipush 6, 2) := by decide +kernel
theorem dX6_readAtom_28 : decode cX6_readAtom 28 = .ok (.if_icmp .ge 18, 3) := by decide +kernel
theorem dX6_readAtom_31 : decode cX6_readAtom 31 = .ok (.aload_n 0, 1) := by decide +kernel
theorem dX6_readAtom_32 : decode cX6_readAtom 32 = .ok (.iload_n 2, 1) := by decide +kernel
theorem dX6_readAtom_33 : decode cX6_readAtom 33 = .ok (.iload_n 1, 1) := by decide +kernel
theorem dX6_readAtom_34 : decode cX6_readAtom 34 = .ok (.iconst 1, 1) := by decide +kernel
theorem dX6_readAtom_35 : decode cX6_readAtom 35 = .ok (.iadd, 1) := by decide +kernel
theorem dX6_readAtom_36 : decode cX6_readAtom 36 = .ok (.invokevirtual 56, 3) := by decide +kernel
theorem dX6_readAtom_39 : decode cX6_readAtom 39 = .ok (.ifCond .eq 7, 3) := by decide +kernel
theorem dX6_readAtom_42 : decode cX6_readAtom 42 = .ok (.iconst 1, 1) := by decide +kernel
theorem dX6_readAtom_43 : decode cX6_readAtom 43 = .ok (.goto 4, 3) := by decide +kernel
theorem dX6_readAtom_46 : decode cX6_readAtom 46 = .ok (.iconst 0, 1) := by decide +kernel
theorem dX6_readAtom_47 : decode cX6_readAtom 47 = .ok (.ireturn, 1) := by decide +kernel
theorem dX6_readAtom_48 : decode cX6_readAtom 48 = .ok (.iload_n 2, 1) := by decide +kernel
theorem dX6_readAtom_49 : decode cX6_readAtom 49 = .ok (.sipush 318, 3) := by decide +kernel
theorem dX6_readAtom_52 : decode cX6_readAtom 52 = .ok (.if_icmp .eq 10, 3) := by decide +kernel
theorem dX6_readAtom_55 : decode cX6_readAtom 55 = .ok (.iload_n 2, 1) := by decide +kernel
theorem dX6_readAtom_56 : decode cX6_readAtom 56 = .ok (.sipush 319, 3) := by decide +kernel
theorem dX6_readAtom_59 : decode cX6_readAtom 59 = .ok (.if_icmp .ne 24, 3) := by decide +kernel
theorem dX6_readAtom_62 : decode cX6_readAtom 62 = .ok (.aload_n 0, 1) := by decide +kernel
theorem dX6_readAtom_63 : decode cX6_readAtom 63 = .ok (.dup, 1) := by decide +kernel
theorem dX6_readAtom_64 : decode cX6_readAtom 64 = .ok (.getfield 19, 3) := by decide +kernel
theorem dX6_readAtom_67 : decode cX6_readAtom 67 = .ok (.iconst 1, 1) := by decide +kernel
theorem dX6_readAtom_68 : decode cX6_readAtom 68 = .ok (.iadd, 1) := by decide +kernel
theorem dX6_readAtom_69 : decode cX6_readAtom 69 = .ok (.putfield 19, 3) := by decide +kernel
theorem dX6_readAtom_72 : decode cX6_readAtom 72 = .ok (.aload_n 0, 1) := by decide +kernel
theorem dX6_readAtom_73 : decode cX6_readAtom 73 = .ok (.getfield 9, 3) := by decide +kernel
theorem dX6_readAtom_76 : decode cX6_readAtom 76 = .ok (.iload_n 2, 1) := by decide +kernel
theorem dX6_readAtom_77 : decode cX6_readAtom 77 = .ok (.ineg, 1) := by decide +kernel
theorem dX6_readAtom_78 : decode cX6_readAtom 78 = .ok (.invokevirtual 49, 3) := by decide +kernel
theorem dX6_readAtom_81 : decode cX6_readAtom 81 = .ok (.iconst 1, 1) := by decide +kernel
theorem dX6_readAtom_82 : decode cX6_readAtom 82 = .ok (.ireturn, 1) := by decide +kernel
theorem dX6_readAtom_83 : decode cX6_readAtom 83 = .ok (.aload_n 0, 1) := by decide +kernel
theorem dX6_readAtom_84 : decode cX6_readAtom 84 = .ok (.invokevirtual 60, 3) := by decide +kernel
theorem dX6_readAtom_87 : decode cX6_readAtom 87 = .ok (.ifCond .ne 5, 3) := by decide +kernel
theorem dX6_readAtom_90 : decode cX6_readAtom 90 = .ok (.iconst 0, 1) := by decide +kernel
theorem dX6_readAtom_91 : decode cX6_readAtom 91 = .ok (.ireturn, 1) := by decide +kernel
theorem dX6_readAtom_92 : decode cX6_readAtom 92 = .ok (.aload_n 0, 1) := by decide +kernel
theorem dX6_readAtom_93 : decode cX6_readAtom 93 = .ok (.getfield 15, 3) := by decide +kernel
theorem dX6_readAtom_96 : decode cX6_readAtom 96 = .ok (.aload_n 0, 1) := by decide +kernel
theorem dX6_readAtom_97 : decode cX6_readAtom 97 = .ok (.getfield 19, 3) := by decide +kernel
theorem dX6_readAtom_100 : decode cX6_readAtom 100 = .ok (.invokevirtual 23, 3) := by decide +kernel
theorem dX6_readAtom_103 : decode cX6_readAtom 103 = .ok (.istore_n 3, 1) := by decide +kernel
theorem dX6_readAtom_104 : decode cX6_readAtom 104 = .ok (.iload_n 3, 1) := by decide +kernel
theorem dX6_readAtom_105 : decode cX6_readAtom 105 = .ok (.bipush 60, 2) := by decide +kernel
theorem dX6_readAtom_107 : decode cX6_readAtom 107 = .ok (.if_icmp .eq 11, 3) := by decide +kernel
theorem dX6_readAtom_110 : decode cX6_readAtom 110 = .ok (.iload_n 3, 1) := by decide +kernel
theorem dX6_readAtom_111 : decode cX6_readAtom 111 = .ok (.bipush 62, 2) := by decide +kernel
theorem dX6_readAtom_113 : decode cX6_readAtom 113 = .ok (.if_icmp .eq 5, 3) := by decide +kernel
theorem dX6_readAtom_116 : decode cX6_readAtom 116 = .ok (.iconst 0, 1) := by decide +kernel
theorem dX6_readAtom_117 : decode cX6_readAtom 117 = .ok (.ireturn, 1) := by decide +kernel
theorem dX6_readAtom_118 : decode cX6_readAtom 118 = .ok (.aload_n 0, 1) := by decide +kernel
theorem dX6_readAtom_119 : decode cX6_readAtom 119 = .ok (.dup, 1) := by decide +kernel
theorem dX6_readAtom_120 : decode cX6_readAtom 120 = .ok (.getfield 19, 3) := by decide +kernel
theorem dX6_readAtom_123 : decode cX6_readAtom 123 = .ok (.iconst 1, 1) := by decide +kernel
theorem dX6_readAtom_124 : decode cX6_readAtom 124 = .ok (.iadd, 1) := by decide +kernel
theorem dX6_readAtom_125 : decode cX6_readAtom 125 = .ok (.putfield 19, 3) := by decide +kernel
theorem dX6_readAtom_128 : decode cX6_readAtom 128 = .ok (.aload_n 0, 1) := by decide +kernel
theorem dX6_readAtom_129 : decode cX6_readAtom 129 = .ok (.invokevirtual 60, 3) := by decide +kernel
theorem dX6_readAtom_132 : decode cX6_readAtom 132 = .ok (.ifCond .ne 5, 3) := by decide +kernel
theorem dX6_readAtom_135 : decode cX6_readAtom 135 = .ok (.iconst 0, 1) := by decide +kernel
theorem dX6_readAtom_136 : decode cX6_readAtom 136 = .ok (.ireturn, 1) := by decide +kernel
theorem dX6_readAtom_137 : decode cX6_readAtom 137 = .ok (.aload_n 0, 1) := by decide +kernel
theorem dX6_readAtom_138 : decode cX6_readAtom 138 = .ok (.getfield 9, 3) := by decide +kernel
theorem dX6_readAtom_141 : decode cX6_readAtom 141 = .ok (.iload_n 3, 1) := by decide +kernel
theorem dX6_readAtom_142 : decode cX6_readAtom 142 = .ok (.ineg, 1) := by decide +kernel
theorem dX6_readAtom_143 : decode cX6_readAtom 143 = .ok (.invokevirtual 49, 3) := by decide +kernel
theorem dX6_readAtom_146 : decode cX6_readAtom 146 = .ok (.iconst 1, 1) := by decide +kernel
theorem dX6_readAtom_147 : decode cX6_readAtom 147 = .ok (.ireturn, 1) := by decide +kernel
theorem dX6_readDeeper_0 : decode cX6_readDeeper 0 = .ok (.aload_n 0, 1) := by decide +kernel
theorem dX6_readDeeper_1 : decode cX6_readDeeper 1 = .ok (.dup, 1) := by decide +kernel
theorem dX6_readDeeper_2 : decode cX6_readDeeper 2 = .ok (.getfield 19, 3) := by decide +kernel
theorem dX6_readDeeper_5 : decode cX6_readDeeper 5 = .ok (.iconst 1, 1) := by decide +kernel
theorem dX6_readDeeper_6 : decode cX6_readDeeper 6 = .ok (.iadd, 1) := by decide +kernel
theorem dX6_readDeeper_7 : decode cX6_readDeeper 7 = .ok (.putfield 19, 3) := by decide +kernel
theorem dX6_readDeeper_10 : decode cX6_readDeeper 10 = .ok (.iload_n 1, 1) := by decide +kernel
theorem dX6_readDeeper_11 : decode cX6_readDeeper 11 = .ok (.bipush 40, 2) := by decide +kernel
theorem dX6_readDeeper_13 : decode cX6_readDeeper 13 = .ok (.if_icmp .ne 26, 3) := by decide +kernel
theorem dX6_readDeeper_16 : decode cX6_readDeeper 16 = .ok (.aload_n 0, 1) := by decide +kernel
theorem dX6_readDeeper_17 : decode cX6_readDeeper 17 = .ok (.iload_n 2, 1) := by decide +kernel
theorem dX6_readDeeper_18 : decode cX6_readDeeper 18 = .ok (.invokevirtual 37, 3) := by decide +kernel
theorem dX6_readDeeper_21 : decode cX6_readDeeper 21 = .ok (.ifCond .eq 16, 3) := by decide +kernel
theorem dX6_readDeeper_24 : decode cX6_readDeeper 24 = .ok (.aload_n 0, 1) := by decide +kernel
theorem dX6_readDeeper_25 : decode cX6_readDeeper 25 = .ok (.bipush 41, 2) := by decide +kernel
theorem dX6_readDeeper_27 : decode cX6_readDeeper 27 = .ok (.invokevirtual 33, 3) := by decide +kernel
theorem dX6_readDeeper_30 : decode cX6_readDeeper 30 = .ok (.ifCond .eq 7, 3) := by decide +kernel
theorem dX6_readDeeper_33 : decode cX6_readDeeper 33 = .ok (.iconst 1, 1) := by decide +kernel
theorem dX6_readDeeper_34 : decode cX6_readDeeper 34 = .ok (.goto 4, 3) := by decide +kernel
theorem dX6_readDeeper_37 : decode cX6_readDeeper 37 = .ok (.iconst 0, 1) := by decide +kernel
theorem dX6_readDeeper_38 : decode cX6_readDeeper 38 = .ok (.ireturn, 1) := by decide +kernel
theorem dX6_readDeeper_39 : decode cX6_readDeeper 39 = .ok (.aload_n 0, 1) := by decide +kernel
theorem dX6_readDeeper_40 : decode cX6_readDeeper 40 = .ok (.iload_n 2, 1) := by decide +kernel
theorem dX6_readDeeper_41 : decode cX6_readDeeper 41 = .ok (.invokevirtual 53, 3) := by decide +kernel
theorem dX6_readDeeper_44 : decode cX6_readDeeper 44 = .ok (.ifCond .ne 5, 3) := by decide +kernel
theorem dX6_readDeeper_47 : decode cX6_readDeeper 47 = .ok (.iconst 0, 1) := by decide +kernel
theorem dX6_readDeeper_48 : decode cX6_readDeeper 48 = .ok (.ireturn, 1) := by decide +kernel
theorem dX6_readDeeper_49 : decode cX6_readDeeper 49 = .ok (.aload_n 0, 1) := by decide +kernel
theorem dX6_readDeeper_50 : decode cX6_readDeeper 50 = .ok (.getfield 9, 3) := by decide +kernel
theorem dX6_readDeeper_53 : decode cX6_readDeeper 53 = .ok (.sipush (-317), 3) := by decide +kernel
theorem dX6_readDeeper_56 : decode cX6_readDeeper 56 = .ok (.invokevirtual 49, 3) := by decide +kernel
theorem dX6_readDeeper_59 : decode cX6_readDeeper 59 = .ok (.iconst 1, 1) := by decide +kernel
theorem dX6_readDeeper_60 : decode cX6_readDeeper 60 = .ok (.ireturn, 1) := by decide +kernel
theorem dX6_readSum_0 : decode cX6_readSum 0 = .ok (.iconst 0, 1) := by decide +kernel
theorem dX6_readSum_1 : decode cX6_readSum 1 = .ok (.istore_n 1, 1) := by decide +kernel
theorem dX6_readSum_2 : decode cX6_readSum 2 = .ok (.iload_n 1, 1) := by decide +kernel
theorem dX6_readSum_3 : decode cX6_readSum 3 = .ok (.sipush 400, 3) := by decide +kernel
theorem dX6_readSum_6 : decode cX6_readSum 6 = .ok (.if_icmp .ge 122, 3) := by decide +kernel
theorem dX6_readSum_9 : decode cX6_readSum 9 = .ok (.aload_n 0, 1) := by decide +kernel
theorem dX6_readSum_10 : decode cX6_readSum 10 = .ok (.getfield 15, 3) := by decide +kernel
theorem dX6_readSum_13 : decode cX6_readSum 13 = .ok (.aload_n 0, 1) := by decide +kernel
theorem dX6_readSum_14 : decode cX6_readSum 14 = .ok (.getfield 19, 3) := by decide +kernel
theorem dX6_readSum_17 : decode cX6_readSum 17 = .ok (.invokevirtual 23, 3) := by decide +kernel
theorem dX6_readSum_20 : decode cX6_readSum 20 = .ok (.istore_n 2, 1) := by decide +kernel
theorem dX6_readSum_21 : decode cX6_readSum 21 = .ok (.iload_n 2, 1) := by decide +kernel
theorem dX6_readSum_22 : decode cX6_readSum 22 = .ok (.sipush 302, 3) := by decide +kernel
theorem dX6_readSum_25 : decode cX6_readSum 25 = .ok (.if_icmp .eq 17, 3) := by decide +kernel
theorem dX6_readSum_28 : decode cX6_readSum 28 = .ok (.iload_n 2, 1) := by decide +kernel
theorem dX6_readSum_29 : decode cX6_readSum 29 = .ok (.sipush 320, 3) := by decide +kernel
theorem dX6_readSum_32 : decode cX6_readSum 32 = .ok (.if_icmp .lt 14, 3) := by decide +kernel
theorem dX6_readSum_35 : decode cX6_readSum 35 = .ok (.iload_n 2, 1) := by decide +kernel
theorem dX6_readSum_36 : decode cX6_readSum 36 = .ok (.sipush 324, 3) := by decide +kernel
theorem dX6_readSum_39 : decode cX6_readSum 39 = .ok (.if_icmp .gt 7, 3) := by decide +kernel
theorem dX6_readSum_42 : decode cX6_readSum 42 = .ok (.iconst 1, 1) := by decide +kernel
theorem dX6_readSum_43 : decode cX6_readSum 43 = .ok (.goto 4, 3) := by decide +kernel
theorem dX6_readSum_46 : decode cX6_readSum 46 = .ok (.iconst 0, 1) := by decide +kernel
theorem dX6_readSum_47 : decode cX6_readSum 47 = .ok (.istore_n 3, 1) := by decide +kernel
theorem dX6_readSum_48 : decode cX6_readSum 48 = .ok (.iload_n 3, 1) := by decide +kernel
theorem dX6_readSum_49 : decode cX6_readSum 49 = .ok (.ifCond .ne 12, 3) := by decide +kernel
theorem dX6_readSum_52 : decode cX6_readSum 52 = .ok (.iload_n 2, 1) := by decide +kernel
theorem dX6_readSum_53 : decode cX6_readSum 53 = .ok (.sipush 256, 3) := by decide +kernel
theorem dX6_readSum_56 : decode cX6_readSum 56 = .ok (.if_icmp .eq 5, 3) := by decide +kernel
theorem dX6_readSum_59 : decode cX6_readSum 59 = .ok (.iconst 0, 1) := by decide +kernel
theorem dX6_readSum_60 : decode cX6_readSum 60 = .ok (.ireturn, 1) := by decide +kernel
theorem dX6_readSum_61 : decode cX6_readSum 61 = .ok (.aload_n 0, 1) := by decide +kernel
theorem dX6_readSum_62 : decode cX6_readSum 62 = .ok (.getfield 9, 3) := by decide +kernel
theorem dX6_readSum_65 : decode cX6_readSum 65 = .ok (.iload_n 3, 1) := by decide +kernel
theorem dX6_readSum_66 : decode cX6_readSum 66 = .ok (.ifCond .eq 8, 3) := by decide +kernel
theorem dX6_readSum_69 : decode cX6_readSum 69 = .ok (.iload_n 2, 1) := by decide +kernel
theorem dX6_readSum_70 : decode cX6_readSum 70 = .ok (.ineg, 1) := by decide +kernel
theorem dX6_readSum_71 : decode cX6_readSum 71 = .ok (.goto 14, 3) := by decide +kernel
theorem dX6_readSum_74 : decode cX6_readSum 74 = .ok (.aload_n 0, 1) := by decide +kernel
theorem dX6_readSum_75 : decode cX6_readSum 75 = .ok (.getfield 15, 3) := by decide +kernel
theorem dX6_readSum_78 : decode cX6_readSum 78 = .ok (.aload_n 0, 1) := by decide +kernel
theorem dX6_readSum_79 : decode cX6_readSum 79 = .ok (.getfield 19, 3) := by decide +kernel
theorem dX6_readSum_82 : decode cX6_readSum 82 = .ok (.invokevirtual 64, 3) := by decide +kernel
theorem dX6_readSum_85 : decode cX6_readSum 85 = .ok (.invokevirtual 49, 3) := by decide +kernel
theorem dX6_readSum_88 : decode cX6_readSum 88 = .ok (.aload_n 0, 1) := by decide +kernel
theorem dX6_readSum_89 : decode cX6_readSum 89 = .ok (.dup, 1) := by decide +kernel
theorem dX6_readSum_90 : decode cX6_readSum 90 = .ok (.getfield 19, 3) := by decide +kernel
theorem dX6_readSum_93 : decode cX6_readSum 93 = .ok (.iconst 1, 1) := by decide +kernel
theorem dX6_readSum_94 : decode cX6_readSum 94 = .ok (.iadd, 1) := by decide +kernel
theorem dX6_readSum_95 : decode cX6_readSum 95 = .ok (.putfield 19, 3) := by decide +kernel
theorem dX6_readSum_98 : decode cX6_readSum 98 = .ok (.iload_n 1, 1) := by decide +kernel
theorem dX6_readSum_99 : decode cX6_readSum 99 = .ok (.ifCond .le 12, 3) := by decide +kernel
theorem dX6_readSum_102 : decode cX6_readSum 102 = .ok (.aload_n 0, 1) := by decide +kernel
theorem dX6_readSum_103 : decode cX6_readSum 103 = .ok (.getfield 9, 3) := by decide +kernel
theorem dX6_readSum_106 : decode cX6_readSum 106 = .ok (.bipush (-43), 2) := by decide +kernel
theorem dX6_readSum_108 : decode cX6_readSum 108 = .ok (.invokevirtual 49, 3) := by decide +kernel
theorem dX6_readSum_111 : decode cX6_readSum 111 = .ok (.aload_n 0, 1) := by decide +kernel
theorem dX6_readSum_112 : decode cX6_readSum 112 = .ok (.bipush 43, 2) := by decide +kernel
theorem dX6_readSum_114 : decode cX6_readSum 114 = .ok (.invokevirtual 33, 3) := by decide +kernel
theorem dX6_readSum_117 : decode cX6_readSum 117 = .ok (.ifCond .ne 5, 3) := by decide +kernel
theorem dX6_readSum_120 : decode cX6_readSum 120 = .ok (.iconst 1, 1) := by decide +kernel
theorem dX6_readSum_121 : decode cX6_readSum 121 = .ok (.ireturn, 1) := by decide +kernel
theorem dX6_readSum_122 : decode cX6_readSum 122 = .ok (.iinc 1 1, 3) := by decide +kernel
theorem dX6_readSum_125 : decode cX6_readSum 125 = .ok (.goto (-123), 3) := by decide +kernel
theorem dX6_readSum_128 : decode cX6_readSum 128 = .ok (.iconst 0, 1) := by decide +kernel
theorem dX6_readSum_129 : decode cX6_readSum 129 = .ok (.ireturn, 1) := by decide +kernel
theorem dX7_howMuch_0 : decode cX7_howMuch 0 = .ok (.aload_n 0, 1) := by decide +kernel
theorem dX7_howMuch_1 : decode cX7_howMuch 1 = .ok (.iload_n 1, 1) := by decide +kernel
theorem dX7_howMuch_2 : decode cX7_howMuch 2 = .ok (.iconst 0, 1) := by decide +kernel
theorem dX7_howMuch_3 : decode cX7_howMuch 3 = .ok (.invokestatic 9, 3) := by decide +kernel
theorem dX7_howMuch_6 : decode cX7_howMuch 6 = .ok (.ireturn, 1) := by decide +kernel
theorem dX7_leastSum_0 : decode cX7_leastSum 0 = .ok (.iload_n 1, 1) := by decide +kernel
theorem dX7_leastSum_1 : decode cX7_leastSum 1 = .ok (.invokestatic 15, 3) := by decide +kernel
theorem dX7_leastSum_4 : decode cX7_leastSum 4 = .ok (.istore_n 3, 1) := by decide +kernel
theorem dX7_leastSum_5 : decode cX7_leastSum 5 = .ok (.iload_n 3, 1) := by decide +kernel
theorem dX7_leastSum_6 : decode cX7_leastSum 6 = .ok (.iconst (-1), 1) := by decide +kernel
theorem dX7_leastSum_7 : decode cX7_leastSum 7 = .ok (.if_icmp .eq 9, 3) := by decide +kernel
theorem dX7_leastSum_10 : decode cX7_leastSum 10 = .ok (.iload_n 2, 1) := by decide +kernel
theorem dX7_leastSum_11 : decode cX7_leastSum 11 = .ok (.bipush 8, 2) := by decide +kernel
theorem dX7_leastSum_13 : decode cX7_leastSum 13 = .ok (.if_icmp .le 5, 3) := by decide +kernel
theorem dX7_leastSum_16 : decode cX7_leastSum 16 = .ok (.iconst 0, 1) := by decide +kernel
theorem dX7_leastSum_17 : decode cX7_leastSum 17 = .ok (.ireturn, 1) := by decide +kernel
theorem dX7_leastSum_18 : decode cX7_leastSum 18 = .ok (.iload_n 1, 1) := by decide +kernel
theorem dX7_leastSum_19 : decode cX7_leastSum 19 = .ok (.iconst 1, 1) := by decide +kernel
theorem dX7_leastSum_20 : decode cX7_leastSum 20 = .ok (.iload_n 3, 1) := by decide +kernel
theorem dX7_leastSum_21 : decode cX7_leastSum 21 = .ok (.ishl, 1) := by decide +kernel
theorem dX7_leastSum_22 : decode cX7_leastSum 22 = .ok (.iconst (-1), 1) := by decide +kernel
theorem dX7_leastSum_23 : decode cX7_leastSum 23 = .ok (.ixor, 1) := by decide +kernel
theorem dX7_leastSum_24 : decode cX7_leastSum 24 = .ok (.iand, 1) := by decide +kernel
theorem dX7_leastSum_25 : decode cX7_leastSum 25 = .ok (.istore 4, 2) := by decide +kernel
theorem dX7_leastSum_27 : decode cX7_leastSum 27 = .ok (.iconst (-1), 1) := by decide +kernel
theorem dX7_leastSum_28 : decode cX7_leastSum 28 = .ok (.istore 5, 2) := by decide +kernel
theorem dX7_leastSum_30 : decode cX7_leastSum 30 = .ok (.iload_n 3, 1) := by decide +kernel
theorem dX7_leastSum_31 : decode cX7_leastSum 31 = .ok (.iconst 1, 1) := by decide +kernel
theorem dX7_leastSum_32 : decode cX7_leastSum 32 = .ok (.iadd, 1) := by decide +kernel
theorem dX7_leastSum_33 : decode cX7_leastSum 33 = .ok (.istore 6, 2) := by decide +kernel
theorem dX7_leastSum_35 : decode cX7_leastSum 35 = .ok (.iload 6, 2) := by decide +kernel
theorem dX7_leastSum_37 : decode cX7_leastSum 37 = .ok (.bipush 10, 2) := by decide +kernel
theorem dX7_leastSum_39 : decode cX7_leastSum 39 = .ok (.if_icmp .ge 73, 3) := by decide +kernel
theorem dX7_leastSum_42 : decode cX7_leastSum 42 = .ok (.iload 4, 2) := by decide +kernel
theorem dX7_leastSum_44 : decode cX7_leastSum 44 = .ok (.iload 6, 2) := by decide +kernel
theorem dX7_leastSum_46 : decode cX7_leastSum 46 = .ok (.ishr, 1) := by decide +kernel
theorem dX7_leastSum_47 : decode cX7_leastSum 47 = .ok (.iconst 1, 1) := by decide +kernel
theorem dX7_leastSum_48 : decode cX7_leastSum 48 = .ok (.iand, 1) := by decide +kernel
theorem dX7_leastSum_49 : decode cX7_leastSum 49 = .ok (.ifCond .eq 57, 3) := by decide +kernel
theorem dX7_leastSum_52 : decode cX7_leastSum 52 = .ok (.aload_n 0, 1) := by decide +kernel
theorem dX7_leastSum_53 : decode cX7_leastSum 53 = .ok (.iload 4, 2) := by decide +kernel
theorem dX7_leastSum_55 : decode cX7_leastSum 55 = .ok (.iconst 1, 1) := by decide +kernel
theorem dX7_leastSum_56 : decode cX7_leastSum 56 = .ok (.iload 6, 2) := by decide +kernel
theorem dX7_leastSum_58 : decode cX7_leastSum 58 = .ok (.ishl, 1) := by decide +kernel
theorem dX7_leastSum_59 : decode cX7_leastSum 59 = .ok (.iconst (-1), 1) := by decide +kernel
theorem dX7_leastSum_60 : decode cX7_leastSum 60 = .ok (.ixor, 1) := by decide +kernel
theorem dX7_leastSum_61 : decode cX7_leastSum 61 = .ok (.iand, 1) := by decide +kernel
theorem dX7_leastSum_62 : decode cX7_leastSum 62 = .ok (.iload_n 2, 1) := by decide +kernel
theorem dX7_leastSum_63 : decode cX7_leastSum 63 = .ok (.iconst 1, 1) := by decide +kernel
theorem dX7_leastSum_64 : decode cX7_leastSum 64 = .ok (.iadd, 1) := by decide +kernel
theorem dX7_leastSum_65 : decode cX7_leastSum 65 = .ok (.invokestatic 9, 3) := by decide +kernel
theorem dX7_leastSum_68 : decode cX7_leastSum 68 = .ok (.istore 7, 2) := by decide +kernel
theorem dX7_leastSum_70 : decode cX7_leastSum 70 = .ok (.aload_n 0, 1) := by decide +kernel
theorem dX7_leastSum_71 : decode cX7_leastSum 71 = .ok (.iload_n 3, 1) := by decide +kernel
theorem dX7_leastSum_72 : decode cX7_leastSum 72 = .ok (.iaload, 1) := by decide +kernel
theorem dX7_leastSum_73 : decode cX7_leastSum 73 = .ok (.aload_n 0, 1) := by decide +kernel
theorem dX7_leastSum_74 : decode cX7_leastSum 74 = .ok (.iload 6, 2) := by decide +kernel
theorem dX7_leastSum_76 : decode cX7_leastSum 76 = .ok (.iaload, 1) := by decide +kernel
theorem dX7_leastSum_77 : decode cX7_leastSum 77 = .ok (.isub, 1) := by decide +kernel
theorem dX7_leastSum_78 : decode cX7_leastSum 78 = .ok (.invokestatic 19, 3) := by decide +kernel
theorem dX7_leastSum_81 : decode cX7_leastSum 81 = .ok (.iload 7, 2) := by decide +kernel
theorem dX7_leastSum_83 : decode cX7_leastSum 83 = .ok (.iadd, 1) := by decide +kernel
theorem dX7_leastSum_84 : decode cX7_leastSum 84 = .ok (.istore 8, 2) := by decide +kernel
theorem dX7_leastSum_86 : decode cX7_leastSum 86 = .ok (.iload 5, 2) := by decide +kernel
theorem dX7_leastSum_88 : decode cX7_leastSum 88 = .ok (.iconst (-1), 1) := by decide +kernel
theorem dX7_leastSum_89 : decode cX7_leastSum 89 = .ok (.if_icmp .ne 8, 3) := by decide +kernel
theorem dX7_leastSum_92 : decode cX7_leastSum 92 = .ok (.iload 8, 2) := by decide +kernel
theorem dX7_leastSum_94 : decode cX7_leastSum 94 = .ok (.goto 10, 3) := by decide +kernel
theorem dX7_leastSum_97 : decode cX7_leastSum 97 = .ok (.iload 5, 2) := by decide +kernel
theorem dX7_leastSum_99 : decode cX7_leastSum 99 = .ok (.iload 8, 2) := by decide +kernel
theorem dX7_leastSum_101 : decode cX7_leastSum 101 = .ok (.invokestatic 24, 3) := by decide +kernel
theorem dX7_leastSum_104 : decode cX7_leastSum 104 = .ok (.istore 5, 2) := by decide +kernel
theorem dX7_leastSum_106 : decode cX7_leastSum 106 = .ok (.iinc 6 1, 3) := by decide +kernel
theorem dX7_leastSum_109 : decode cX7_leastSum 109 = .ok (.goto (-74), 3) := by decide +kernel
theorem dX7_leastSum_112 : decode cX7_leastSum 112 = .ok (.iload 5, 2) := by decide +kernel
theorem dX7_leastSum_114 : decode cX7_leastSum 114 = .ok (.ireturn, 1) := by decide +kernel
theorem dX7_lowest_0 : decode cX7_lowest 0 = .ok (.iconst 0, 1) := by decide +kernel
theorem dX7_lowest_1 : decode cX7_lowest 1 = .ok (.istore_n 1, 1) := by decide +kernel
theorem dX7_lowest_2 : decode cX7_lowest 2 = .ok (.iload_n 1, 1) := by decide +kernel
theorem dX7_lowest_3 : decode cX7_lowest 3 = .ok (.bipush 10, 2) := by decide +kernel
theorem dX7_lowest_5 : decode cX7_lowest 5 = .ok (.if_icmp .ge 19, 3) := by decide +kernel
theorem dX7_lowest_8 : decode cX7_lowest 8 = .ok (.iload_n 0, 1) := by decide +kernel
theorem dX7_lowest_9 : decode cX7_lowest 9 = .ok (.iload_n 1, 1) := by decide +kernel
theorem dX7_lowest_10 : decode cX7_lowest 10 = .ok (.ishr, 1) := by decide +kernel
theorem dX7_lowest_11 : decode cX7_lowest 11 = .ok (.iconst 1, 1) := by decide +kernel
theorem dX7_lowest_12 : decode cX7_lowest 12 = .ok (.iand, 1) := by decide +kernel
theorem dX7_lowest_13 : decode cX7_lowest 13 = .ok (.ifCond .eq 5, 3) := by decide +kernel
theorem dX7_lowest_16 : decode cX7_lowest 16 = .ok (.iload_n 1, 1) := by decide +kernel
theorem dX7_lowest_17 : decode cX7_lowest 17 = .ok (.ireturn, 1) := by decide +kernel
theorem dX7_lowest_18 : decode cX7_lowest 18 = .ok (.iinc 1 1, 3) := by decide +kernel
theorem dX7_lowest_21 : decode cX7_lowest 21 = .ok (.goto (-19), 3) := by decide +kernel
theorem dX7_lowest_24 : decode cX7_lowest 24 = .ok (.iconst (-1), 1) := by decide +kernel
theorem dX7_lowest_25 : decode cX7_lowest 25 = .ok (.ireturn, 1) := by decide +kernel
theorem dX7_partnerOf_0 : decode cX7_partnerOf 0 = .ok (.iload_n 1, 1) := by decide +kernel
theorem dX7_partnerOf_1 : decode cX7_partnerOf 1 = .ok (.istore_n 3, 1) := by decide +kernel
theorem dX7_partnerOf_2 : decode cX7_partnerOf 2 = .ok (.iconst 0, 1) := by decide +kernel
theorem dX7_partnerOf_3 : decode cX7_partnerOf 3 = .ok (.istore 4, 2) := by decide +kernel
theorem dX7_partnerOf_5 : decode cX7_partnerOf 5 = .ok (.iload 4, 2) := by decide +kernel
theorem dX7_partnerOf_7 : decode cX7_partnerOf 7 = .ok (.bipush 8, 2) := by decide +kernel
theorem dX7_partnerOf_9 : decode cX7_partnerOf 9 = .ok (.if_icmp .ge 70, 3) := by decide +kernel
theorem dX7_partnerOf_12 : decode cX7_partnerOf 12 = .ok (.iload_n 3, 1) := by decide +kernel
theorem dX7_partnerOf_13 : decode cX7_partnerOf 13 = .ok (.ifCond .eq 66, 3) := by decide +kernel
theorem dX7_partnerOf_16 : decode cX7_partnerOf 16 = .ok (.iload_n 3, 1) := by decide +kernel
theorem dX7_partnerOf_17 : decode cX7_partnerOf 17 = .ok (.invokestatic 15, 3) := by decide +kernel
theorem dX7_partnerOf_20 : decode cX7_partnerOf 20 = .ok (.istore 5, 2) := by decide +kernel
theorem dX7_partnerOf_22 : decode cX7_partnerOf 22 = .ok (.aload_n 0, 1) := by decide +kernel
theorem dX7_partnerOf_23 : decode cX7_partnerOf 23 = .ok (.iload_n 3, 1) := by decide +kernel
theorem dX7_partnerOf_24 : decode cX7_partnerOf 24 = .ok (.iload 5, 2) := by decide +kernel
theorem dX7_partnerOf_26 : decode cX7_partnerOf 26 = .ok (.invokestatic 28, 3) := by decide +kernel
theorem dX7_partnerOf_29 : decode cX7_partnerOf 29 = .ok (.istore 6, 2) := by decide +kernel
theorem dX7_partnerOf_31 : decode cX7_partnerOf 31 = .ok (.iload 6, 2) := by decide +kernel
theorem dX7_partnerOf_33 : decode cX7_partnerOf 33 = .ok (.iconst (-1), 1) := by decide +kernel
theorem dX7_partnerOf_34 : decode cX7_partnerOf 34 = .ok (.if_icmp .ne 5, 3) := by decide +kernel
theorem dX7_partnerOf_37 : decode cX7_partnerOf 37 = .ok (.iconst (-1), 1) := by decide +kernel
theorem dX7_partnerOf_38 : decode cX7_partnerOf 38 = .ok (.ireturn, 1) := by decide +kernel
theorem dX7_partnerOf_39 : decode cX7_partnerOf 39 = .ok (.iload 5, 2) := by decide +kernel
theorem dX7_partnerOf_41 : decode cX7_partnerOf 41 = .ok (.iload_n 2, 1) := by decide +kernel
theorem dX7_partnerOf_42 : decode cX7_partnerOf 42 = .ok (.if_icmp .ne 6, 3) := by decide +kernel
theorem dX7_partnerOf_45 : decode cX7_partnerOf 45 = .ok (.iload 6, 2) := by decide +kernel
theorem dX7_partnerOf_47 : decode cX7_partnerOf 47 = .ok (.ireturn, 1) := by decide +kernel
theorem dX7_partnerOf_48 : decode cX7_partnerOf 48 = .ok (.iload 6, 2) := by decide +kernel
theorem dX7_partnerOf_50 : decode cX7_partnerOf 50 = .ok (.iload_n 2, 1) := by decide +kernel
theorem dX7_partnerOf_51 : decode cX7_partnerOf 51 = .ok (.if_icmp .ne 6, 3) := by decide +kernel
theorem dX7_partnerOf_54 : decode cX7_partnerOf 54 = .ok (.iload 5, 2) := by decide +kernel
theorem dX7_partnerOf_56 : decode cX7_partnerOf 56 = .ok (.ireturn, 1) := by decide +kernel
theorem dX7_partnerOf_57 : decode cX7_partnerOf 57 = .ok (.iload_n 3, 1) := by decide +kernel
theorem dX7_partnerOf_58 : decode cX7_partnerOf 58 = .ok (.iconst 1, 1) := by decide +kernel
theorem dX7_partnerOf_59 : decode cX7_partnerOf 59 = .ok (.iload 5, 2) := by decide +kernel
theorem dX7_partnerOf_61 : decode cX7_partnerOf 61 = .ok (.ishl, 1) := by decide +kernel
theorem dX7_partnerOf_62 : decode cX7_partnerOf 62 = .ok (.iconst (-1), 1) := by decide +kernel
theorem dX7_partnerOf_63 : decode cX7_partnerOf 63 = .ok (.ixor, 1) := by decide +kernel
theorem dX7_partnerOf_64 : decode cX7_partnerOf 64 = .ok (.iconst 1, 1) := by decide +kernel
theorem dX7_partnerOf_65 : decode cX7_partnerOf 65 = .ok (.iload 6, 2) := by decide +kernel
theorem dX7_partnerOf_67 : decode cX7_partnerOf 67 = .ok (.ishl, 1) := by decide +kernel
theorem dX7_partnerOf_68 : decode cX7_partnerOf 68 = .ok (.iconst (-1), 1) := by decide +kernel
theorem dX7_partnerOf_69 : decode cX7_partnerOf 69 = .ok (.ixor, 1) := by decide +kernel
theorem dX7_partnerOf_70 : decode cX7_partnerOf 70 = .ok (.iand, 1) := by decide +kernel
theorem dX7_partnerOf_71 : decode cX7_partnerOf 71 = .ok (.iand, 1) := by decide +kernel
theorem dX7_partnerOf_72 : decode cX7_partnerOf 72 = .ok (.istore_n 3, 1) := by decide +kernel
theorem dX7_partnerOf_73 : decode cX7_partnerOf 73 = .ok (.iinc 4 1, 3) := by decide +kernel
theorem dX7_partnerOf_76 : decode cX7_partnerOf 76 = .ok (.goto (-71), 3) := by decide +kernel
theorem dX7_partnerOf_79 : decode cX7_partnerOf 79 = .ok (.iconst (-1), 1) := by decide +kernel
theorem dX7_partnerOf_80 : decode cX7_partnerOf 80 = .ok (.ireturn, 1) := by decide +kernel
theorem dX7_firstPartner_0 : decode cX7_firstPartner 0 = .ok (.aload_n 0, 1) := by decide +kernel
theorem dX7_firstPartner_1 : decode cX7_firstPartner 1 = .ok (.iload_n 1, 1) := by decide +kernel
theorem dX7_firstPartner_2 : decode cX7_firstPartner 2 = .ok (.iconst 0, 1) := by decide +kernel
theorem dX7_firstPartner_3 : decode cX7_firstPartner 3 = .ok (.invokestatic 9, 3) := by decide +kernel
theorem dX7_firstPartner_6 : decode cX7_firstPartner 6 = .ok (.istore_n 3, 1) := by decide +kernel
theorem dX7_firstPartner_7 : decode cX7_firstPartner 7 = .ok (.iload_n 2, 1) := by decide +kernel
theorem dX7_firstPartner_8 : decode cX7_firstPartner 8 = .ok (.iconst 1, 1) := by decide +kernel
theorem dX7_firstPartner_9 : decode cX7_firstPartner 9 = .ok (.iadd, 1) := by decide +kernel
theorem dX7_firstPartner_10 : decode cX7_firstPartner 10 = .ok (.istore 4, 2) := by decide +kernel
theorem dX7_firstPartner_12 : decode cX7_firstPartner 12 = .ok (.iload 4, 2) := by decide +kernel
theorem dX7_firstPartner_14 : decode cX7_firstPartner 14 = .ok (.bipush 10, 2) := by decide +kernel
theorem dX7_firstPartner_16 : decode cX7_firstPartner 16 = .ok (.if_icmp .ge 63, 3) := by decide +kernel
theorem dX7_firstPartner_19 : decode cX7_firstPartner 19 = .ok (.iload_n 1, 1) := by decide +kernel
theorem dX7_firstPartner_20 : decode cX7_firstPartner 20 = .ok (.iload 4, 2) := by decide +kernel
theorem dX7_firstPartner_22 : decode cX7_firstPartner 22 = .ok (.ishr, 1) := by decide +kernel
theorem dX7_firstPartner_23 : decode cX7_firstPartner 23 = .ok (.iconst 1, 1) := by decide +kernel
theorem dX7_firstPartner_24 : decode cX7_firstPartner 24 = .ok (.iand, 1) := by decide +kernel
theorem dX7_firstPartner_25 : decode cX7_firstPartner 25 = .ok (.ifCond .ne 6, 3) := by decide +kernel
theorem dX7_firstPartner_28 : decode cX7_firstPartner 28 = .ok (.goto 45, 3) := by decide +kernel
theorem dX7_firstPartner_31 : decode cX7_firstPartner 31 = .ok (.aload_n 0, 1) := by decide +kernel
theorem dX7_firstPartner_32 : decode cX7_firstPartner 32 = .ok (.iload_n 1, 1) := by decide +kernel
theorem dX7_firstPartner_33 : decode cX7_firstPartner 33 = .ok (.iconst 1, 1) := by decide +kernel
theorem dX7_firstPartner_34 : decode cX7_firstPartner 34 = .ok (.iload_n 2, 1) := by decide +kernel
theorem dX7_firstPartner_35 : decode cX7_firstPartner 35 = .ok (.ishl, 1) := by decide +kernel
theorem dX7_firstPartner_36 : decode cX7_firstPartner 36 = .ok (.iconst (-1), 1) := by decide +kernel
theorem dX7_firstPartner_37 : decode cX7_firstPartner 37 = .ok (.ixor, 1) := by decide +kernel
theorem dX7_firstPartner_38 : decode cX7_firstPartner 38 = .ok (.iand, 1) := by decide +kernel
theorem dX7_firstPartner_39 : decode cX7_firstPartner 39 = .ok (.iconst 1, 1) := by decide +kernel
theorem dX7_firstPartner_40 : decode cX7_firstPartner 40 = .ok (.iload 4, 2) := by decide +kernel
theorem dX7_firstPartner_42 : decode cX7_firstPartner 42 = .ok (.ishl, 1) := by decide +kernel
theorem dX7_firstPartner_43 : decode cX7_firstPartner 43 = .ok (.iconst (-1), 1) := by decide +kernel
theorem dX7_firstPartner_44 : decode cX7_firstPartner 44 = .ok (.ixor, 1) := by decide +kernel
theorem dX7_firstPartner_45 : decode cX7_firstPartner 45 = .ok (.iand, 1) := by decide +kernel
theorem dX7_firstPartner_46 : decode cX7_firstPartner 46 = .ok (.iconst 0, 1) := by decide +kernel
theorem dX7_firstPartner_47 : decode cX7_firstPartner 47 = .ok (.invokestatic 9, 3) := by decide +kernel
theorem dX7_firstPartner_50 : decode cX7_firstPartner 50 = .ok (.istore 5, 2) := by decide +kernel
theorem dX7_firstPartner_52 : decode cX7_firstPartner 52 = .ok (.aload_n 0, 1) := by decide +kernel
theorem dX7_firstPartner_53 : decode cX7_firstPartner 53 = .ok (.iload_n 2, 1) := by decide +kernel
theorem dX7_firstPartner_54 : decode cX7_firstPartner 54 = .ok (.iaload, 1) := by decide +kernel
theorem dX7_firstPartner_55 : decode cX7_firstPartner 55 = .ok (.aload_n 0, 1) := by decide +kernel
theorem dX7_firstPartner_56 : decode cX7_firstPartner 56 = .ok (.iload 4, 2) := by decide +kernel
theorem dX7_firstPartner_58 : decode cX7_firstPartner 58 = .ok (.iaload, 1) := by decide +kernel
theorem dX7_firstPartner_59 : decode cX7_firstPartner 59 = .ok (.isub, 1) := by decide +kernel
theorem dX7_firstPartner_60 : decode cX7_firstPartner 60 = .ok (.invokestatic 19, 3) := by decide +kernel
theorem dX7_firstPartner_63 : decode cX7_firstPartner 63 = .ok (.iload 5, 2) := by decide +kernel
theorem dX7_firstPartner_65 : decode cX7_firstPartner 65 = .ok (.iadd, 1) := by decide +kernel
theorem dX7_firstPartner_66 : decode cX7_firstPartner 66 = .ok (.iload_n 3, 1) := by decide +kernel
theorem dX7_firstPartner_67 : decode cX7_firstPartner 67 = .ok (.if_icmp .ne 6, 3) := by decide +kernel
theorem dX7_firstPartner_70 : decode cX7_firstPartner 70 = .ok (.iload 4, 2) := by decide +kernel
theorem dX7_firstPartner_72 : decode cX7_firstPartner 72 = .ok (.ireturn, 1) := by decide +kernel
theorem dX7_firstPartner_73 : decode cX7_firstPartner 73 = .ok (.iinc 4 1, 3) := by decide +kernel
theorem dX7_firstPartner_76 : decode cX7_firstPartner 76 = .ok (.goto (-64), 3) := by decide +kernel
theorem dX7_firstPartner_79 : decode cX7_firstPartner 79 = .ok (.iconst (-1), 1) := by decide +kernel
theorem dX7_firstPartner_80 : decode cX7_firstPartner 80 = .ok (.ireturn, 1) := by decide +kernel
theorem dX8_init_0 : decode cX8_init 0 = .ok (.aload_n 0, 1) := by decide +kernel
theorem dX8_init_1 : decode cX8_init 1 = .ok (.invokespecial 3, 3) := by decide +kernel
theorem dX8_init_4 : decode cX8_init 4 = .ok (.aload_n 0, 1) := by decide +kernel
theorem dX8_init_5 : decode cX8_init 5 = .ok (.iconst 0, 1) := by decide +kernel
theorem dX8_init_6 : decode cX8_init 6 = .ok (.putfield 9, 3) := by decide +kernel
theorem dX8_init_9 : decode cX8_init 9 = .ok (.aload_n 0, 1) := by decide +kernel
theorem dX8_init_10 : decode cX8_init 10 = .ok (.iconst 0, 1) := by decide +kernel
theorem dX8_init_11 : decode cX8_init 11 = .ok (.putfield 15, 3) := by decide +kernel
theorem dX8_init_14 : decode cX8_init 14 = .ok (.aload_n 0, 1) := by decide +kernel
theorem dX8_init_15 : decode cX8_init 15 = .ok (.bipush 12, 2) := by decide +kernel
theorem dX8_init_17 : decode cX8_init 17 = .ok (.anewarray 18, 3) := by decide +kernel
theorem dX8_init_20 : decode cX8_init 20 = .ok (.putfield 20, 3) := by decide +kernel
theorem dX8_init_23 : decode cX8_init 23 = .ok (.aload_n 0, 1) := by decide +kernel
theorem dX8_init_24 : decode cX8_init 24 = .ok (.bipush 12, 2) := by decide +kernel
theorem dX8_init_26 : decode cX8_init 26 = .ok (.anewarray 24, 3) := by decide +kernel
theorem dX8_init_29 : decode cX8_init 29 = .ok (.putfield 26, 3) := by decide +kernel
theorem dX8_init_32 : decode cX8_init 32 = .ok (.iconst 0, 1) := by decide +kernel
theorem dX8_init_33 : decode cX8_init 33 = .ok (.istore_n 1, 1) := by decide +kernel
theorem dX8_init_34 : decode cX8_init 34 = .ok (.iload_n 1, 1) := by decide +kernel
theorem dX8_init_35 : decode cX8_init 35 = .ok (.bipush 12, 2) := by decide +kernel
theorem dX8_init_37 : decode cX8_init 37 = .ok (.if_icmp .ge 35, 3) := by decide +kernel
theorem dX8_init_40 : decode cX8_init 40 = .ok (.aload_n 0, 1) := by decide +kernel
theorem dX8_init_41 : decode cX8_init 41 = .ok (.getfield 20, 3) := by decide +kernel
theorem dX8_init_44 : decode cX8_init 44 = .ok (.iload_n 1, 1) := by decide +kernel
theorem dX8_init_45 : decode cX8_init 45 = .ok (.new 18, 3) := by decide +kernel
theorem dX8_init_48 : decode cX8_init 48 = .ok (.dup, 1) := by decide +kernel
theorem dX8_init_49 : decode cX8_init 49 = .ok (.invokespecial 30, 3) := by decide +kernel
theorem dX8_init_52 : decode cX8_init 52 = .ok (.aastore, 1) := by decide +kernel
theorem dX8_init_53 : decode cX8_init 53 = .ok (.aload_n 0, 1) := by decide +kernel
theorem dX8_init_54 : decode cX8_init 54 = .ok (.getfield 26, 3) := by decide +kernel
theorem dX8_init_57 : decode cX8_init 57 = .ok (.iload_n 1, 1) := by decide +kernel
theorem dX8_init_58 : decode cX8_init 58 = .ok (.new 24, 3) := by decide +kernel
theorem dX8_init_61 : decode cX8_init 61 = .ok (.dup, 1) := by decide +kernel
theorem dX8_init_62 : decode cX8_init 62 = .ok (.invokespecial 31, 3) := by decide +kernel
theorem dX8_init_65 : decode cX8_init 65 = .ok (.aastore, 1) := by decide +kernel
theorem dX8_init_66 : decode cX8_init 66 = .ok (.iinc 1 1, 3) := by decide +kernel
theorem dX8_init_69 : decode cX8_init 69 = .ok (.goto (-35), 3) := by decide +kernel
theorem dX8_init_72 : decode cX8_init 72 = .ok (.return_, 1) := by decide +kernel
theorem dX8_forget_0 : decode cX8_forget 0 = .ok (.aload_n 0, 1) := by decide +kernel
theorem dX8_forget_1 : decode cX8_forget 1 = .ok (.iconst 0, 1) := by decide +kernel
theorem dX8_forget_2 : decode cX8_forget 2 = .ok (.putfield 9, 3) := by decide +kernel
theorem dX8_forget_5 : decode cX8_forget 5 = .ok (.return_, 1) := by decide +kernel
theorem dX8_remember_0 : decode cX8_remember 0 = .ok (.aload_n 0, 1) := by decide +kernel
theorem dX8_remember_1 : decode cX8_remember 1 = .ok (.getfield 9, 3) := by decide +kernel
theorem dX8_remember_4 : decode cX8_remember 4 = .ok (.bipush 12, 2) := by decide +kernel
theorem dX8_remember_6 : decode cX8_remember 6 = .ok (.if_icmp .ne 26, 3) := by decide +kernel
theorem dX8_remember_9 : decode cX8_remember 9 = .ok (.aload_n 0, 1) := by decide +kernel
theorem dX8_remember_10 : decode cX8_remember 10 = .ok (.aload_n 0, 1) := by decide +kernel
theorem dX8_remember_11 : decode cX8_remember 11 = .ok (.getfield 15, 3) := by decide +kernel
theorem dX8_remember_14 : decode cX8_remember 14 = .ok (.iconst 1, 1) := by decide +kernel
theorem dX8_remember_15 : decode cX8_remember 15 = .ok (.iadd, 1) := by decide +kernel
theorem dX8_remember_16 : decode cX8_remember 16 = .ok (.bipush 12, 2) := by decide +kernel
theorem dX8_remember_18 : decode cX8_remember 18 = .ok (.irem, 1) := by decide +kernel
theorem dX8_remember_19 : decode cX8_remember 19 = .ok (.putfield 15, 3) := by decide +kernel
theorem dX8_remember_22 : decode cX8_remember 22 = .ok (.aload_n 0, 1) := by decide +kernel
theorem dX8_remember_23 : decode cX8_remember 23 = .ok (.dup, 1) := by decide +kernel
theorem dX8_remember_24 : decode cX8_remember 24 = .ok (.getfield 9, 3) := by decide +kernel
theorem dX8_remember_27 : decode cX8_remember 27 = .ok (.iconst 1, 1) := by decide +kernel
theorem dX8_remember_28 : decode cX8_remember 28 = .ok (.isub, 1) := by decide +kernel
theorem dX8_remember_29 : decode cX8_remember 29 = .ok (.putfield 9, 3) := by decide +kernel
theorem dX8_remember_32 : decode cX8_remember 32 = .ok (.aload_n 0, 1) := by decide +kernel
theorem dX8_remember_33 : decode cX8_remember 33 = .ok (.getfield 15, 3) := by decide +kernel
theorem dX8_remember_36 : decode cX8_remember 36 = .ok (.aload_n 0, 1) := by decide +kernel
theorem dX8_remember_37 : decode cX8_remember 37 = .ok (.getfield 9, 3) := by decide +kernel
theorem dX8_remember_40 : decode cX8_remember 40 = .ok (.iadd, 1) := by decide +kernel
theorem dX8_remember_41 : decode cX8_remember 41 = .ok (.bipush 12, 2) := by decide +kernel
theorem dX8_remember_43 : decode cX8_remember 43 = .ok (.irem, 1) := by decide +kernel
theorem dX8_remember_44 : decode cX8_remember 44 = .ok (.istore_n 3, 1) := by decide +kernel
theorem dX8_remember_45 : decode cX8_remember 45 = .ok (.aload_n 0, 1) := by decide +kernel
theorem dX8_remember_46 : decode cX8_remember 46 = .ok (.getfield 20, 3) := by decide +kernel
theorem dX8_remember_49 : decode cX8_remember 49 = .ok (.iload_n 3, 1) := by decide +kernel
theorem dX8_remember_50 : decode cX8_remember 50 = .ok (.aaload, 1) := by decide +kernel
theorem dX8_remember_51 : decode cX8_remember 51 = .ok (.aload_n 1, 1) := by decide +kernel
theorem dX8_remember_52 : decode cX8_remember 52 = .ok (.invokevirtual 32, 3) := by decide +kernel
theorem dX8_remember_55 : decode cX8_remember 55 = .ok (.aload_n 0, 1) := by decide +kernel
theorem dX8_remember_56 : decode cX8_remember 56 = .ok (.getfield 26, 3) := by decide +kernel
theorem dX8_remember_59 : decode cX8_remember 59 = .ok (.iload_n 3, 1) := by decide +kernel
theorem dX8_remember_60 : decode cX8_remember 60 = .ok (.aaload, 1) := by decide +kernel
theorem dX8_remember_61 : decode cX8_remember 61 = .ok (.aload_n 2, 1) := by decide +kernel
theorem dX8_remember_62 : decode cX8_remember 62 = .ok (.invokevirtual 36, 3) := by decide +kernel
theorem dX8_remember_65 : decode cX8_remember 65 = .ok (.aload_n 0, 1) := by decide +kernel
theorem dX8_remember_66 : decode cX8_remember 66 = .ok (.dup, 1) := by decide +kernel
theorem dX8_remember_67 : decode cX8_remember 67 = .ok (.getfield 9, 3) := by decide +kernel
theorem dX8_remember_70 : decode cX8_remember 70 = .ok (.iconst 1, 1) := by decide +kernel
theorem dX8_remember_71 : decode cX8_remember 71 = .ok (.iadd, 1) := by decide +kernel
theorem dX8_remember_72 : decode cX8_remember 72 = .ok (.putfield 9, 3) := by decide +kernel
theorem dX8_remember_75 : decode cX8_remember 75 = .ok (.return_, 1) := by decide +kernel
theorem dX8_restore_0 : decode cX8_restore 0 = .ok (.aload_n 0, 1) := by decide +kernel
theorem dX8_restore_1 : decode cX8_restore 1 = .ok (.getfield 9, 3) := by decide +kernel
theorem dX8_restore_4 : decode cX8_restore 4 = .ok (.ifCond .ne 5, 3) := by decide +kernel
theorem dX8_restore_7 : decode cX8_restore 7 = .ok (.iconst 0, 1) := by decide +kernel
theorem dX8_restore_8 : decode cX8_restore 8 = .ok (.ireturn, 1) := by decide +kernel
theorem dX8_restore_9 : decode cX8_restore 9 = .ok (.aload_n 0, 1) := by decide +kernel
theorem dX8_restore_10 : decode cX8_restore 10 = .ok (.dup, 1) := by decide +kernel
theorem dX8_restore_11 : decode cX8_restore 11 = .ok (.getfield 9, 3) := by decide +kernel
theorem dX8_restore_14 : decode cX8_restore 14 = .ok (.iconst 1, 1) := by decide +kernel
theorem dX8_restore_15 : decode cX8_restore 15 = .ok (.isub, 1) := by decide +kernel
theorem dX8_restore_16 : decode cX8_restore 16 = .ok (.putfield 9, 3) := by decide +kernel
theorem dX8_restore_19 : decode cX8_restore 19 = .ok (.aload_n 0, 1) := by decide +kernel
theorem dX8_restore_20 : decode cX8_restore 20 = .ok (.getfield 15, 3) := by decide +kernel
theorem dX8_restore_23 : decode cX8_restore 23 = .ok (.aload_n 0, 1) := by decide +kernel
theorem dX8_restore_24 : decode cX8_restore 24 = .ok (.getfield 9, 3) := by decide +kernel
theorem dX8_restore_27 : decode cX8_restore 27 = .ok (.iadd, 1) := by decide +kernel
theorem dX8_restore_28 : decode cX8_restore 28 = .ok (.bipush 12, 2) := by decide +kernel
theorem dX8_restore_30 : decode cX8_restore 30 = .ok (.irem, 1) := by decide +kernel
theorem dX8_restore_31 : decode cX8_restore 31 = .ok (.istore_n 3, 1) := by decide +kernel
theorem dX8_restore_32 : decode cX8_restore 32 = .ok (.aload_n 1, 1) := by decide +kernel
theorem dX8_restore_33 : decode cX8_restore 33 = .ok (.aload_n 0, 1) := by decide +kernel
theorem dX8_restore_34 : decode cX8_restore 34 = .ok (.getfield 20, 3) := by decide +kernel
theorem dX8_restore_37 : decode cX8_restore 37 = .ok (.iload_n 3, 1) := by decide +kernel
theorem dX8_restore_38 : decode cX8_restore 38 = .ok (.aaload, 1) := by decide +kernel
theorem dX8_restore_39 : decode cX8_restore 39 = .ok (.invokevirtual 32, 3) := by decide +kernel
theorem dX8_restore_42 : decode cX8_restore 42 = .ok (.aload_n 2, 1) := by decide +kernel
theorem dX8_restore_43 : decode cX8_restore 43 = .ok (.aload_n 0, 1) := by decide +kernel
theorem dX8_restore_44 : decode cX8_restore 44 = .ok (.getfield 26, 3) := by decide +kernel
theorem dX8_restore_47 : decode cX8_restore 47 = .ok (.iload_n 3, 1) := by decide +kernel
theorem dX8_restore_48 : decode cX8_restore 48 = .ok (.aaload, 1) := by decide +kernel
theorem dX8_restore_49 : decode cX8_restore 49 = .ok (.invokevirtual 36, 3) := by decide +kernel
theorem dX8_restore_52 : decode cX8_restore 52 = .ok (.iconst 1, 1) := by decide +kernel
theorem dX8_restore_53 : decode cX8_restore 53 = .ok (.ireturn, 1) := by decide +kernel
theorem dX9_init_0 : decode cX9_init 0 = .ok (.aload_n 0, 1) := by decide +kernel
theorem dX9_init_1 : decode cX9_init 1 = .ok (.invokespecial 3, 3) := by decide +kernel
theorem dX9_init_4 : decode cX9_init 4 = .ok (.aload_n 0, 1) := by decide +kernel
theorem dX9_init_5 : decode cX9_init 5 = .ok (.aload_n 1, 1) := by decide +kernel
theorem dX9_init_6 : decode cX9_init 6 = .ok (.putfield 9, 3) := by decide +kernel
theorem dX9_init_9 : decode cX9_init 9 = .ok (.aload_n 0, 1) := by decide +kernel
theorem dX9_init_10 : decode cX9_init 10 = .ok (.iload_n 2, 1) := by decide +kernel
theorem dX9_init_11 : decode cX9_init 11 = .ok (.putfield 15, 3) := by decide +kernel
theorem dX9_init_14 : decode cX9_init 14 = .ok (.aload_n 0, 1) := by decide +kernel
theorem dX9_init_15 : decode cX9_init 15 = .ok (.iconst 0, 1) := by decide +kernel
theorem dX9_init_16 : decode cX9_init 16 = .ok (.putfield 19, 3) := by decide +kernel
theorem dX9_init_19 : decode cX9_init 19 = .ok (.return_, 1) := by decide +kernel
theorem dX9_read_0 : decode cX9_read 0 = .ok (.aload_n 0, 1) := by decide +kernel
theorem dX9_read_1 : decode cX9_read 1 = .ok (.iconst 0, 1) := by decide +kernel
theorem dX9_read_2 : decode cX9_read 2 = .ok (.putfield 19, 3) := by decide +kernel
theorem dX9_read_5 : decode cX9_read 5 = .ok (.aload_n 0, 1) := by decide +kernel
theorem dX9_read_6 : decode cX9_read 6 = .ok (.getfield 9, 3) := by decide +kernel
theorem dX9_read_9 : decode cX9_read 9 = .ok (.aload_n 0, 1) := by decide +kernel
theorem dX9_read_10 : decode cX9_read 10 = .ok (.getfield 19, 3) := by decide +kernel
theorem dX9_read_13 : decode cX9_read 13 = .ok (.invokevirtual 22, 3) := by decide +kernel
theorem dX9_read_16 : decode cX9_read 16 = .ok (.sipush 259, 3) := by decide +kernel
theorem dX9_read_19 : decode cX9_read 19 = .ok (.if_icmp .ne 5, 3) := by decide +kernel
theorem dX9_read_22 : decode cX9_read 22 = .ok (.iconst (-1), 1) := by decide +kernel
theorem dX9_read_23 : decode cX9_read 23 = .ok (.ireturn, 1) := by decide +kernel
theorem dX9_read_24 : decode cX9_read 24 = .ok (.iconst 0, 1) := by decide +kernel
theorem dX9_read_25 : decode cX9_read 25 = .ok (.istore_n 1, 1) := by decide +kernel
theorem dX9_read_26 : decode cX9_read 26 = .ok (.iload_n 1, 1) := by decide +kernel
theorem dX9_read_27 : decode cX9_read 27 = .ok (.aload_n 0, 1) := by decide +kernel
theorem dX9_read_28 : decode cX9_read 28 = .ok (.getfield 15, 3) := by decide +kernel
theorem dX9_read_31 : decode cX9_read 31 = .ok (.if_icmp .ge 61, 3) := by decide +kernel
theorem dX9_read_34 : decode cX9_read 34 = .ok (.aload_n 0, 1) := by decide +kernel
