theorem dX9_read_35 : decode cX9_read 35 = .ok (.invokevirtual 28, 3) := by decide +kernel
theorem dX9_read_38 : decode cX9_read 38 = .ok (.ifCond .ne 15, 3) := by decide +kernel
theorem dX9_read_41 : decode cX9_read 41 = .ok (.aload_n 0, 1) := by decide +kernel
theorem dX9_read_42 : decode cX9_read 42 = .ok (.getfield 9, 3) := by decide +kernel
theorem dX9_read_45 : decode cX9_read 45 = .ok (.aload_n 0, 1) := by decide +kernel
theorem dX9_read_46 : decode cX9_read 46 = .ok (.getfield 19, 3) := by decide +kernel
theorem dX9_read_49 : decode cX9_read 49 = .ok (.invokevirtual 32, 3) := by decide +kernel
theorem dX9_read_52 : decode cX9_read 52 = .ok (.ireturn, 1) := by decide +kernel
theorem dX9_read_53 : decode cX9_read 53 = .ok (.aload_n 0, 1) := by decide +kernel
theorem dX9_read_54 : decode cX9_read 54 = .ok (.sipush 259, 3) := by decide +kernel
theorem dX9_read_57 : decode cX9_read 57 = .ok (.invokevirtual 35, 3) := by decide +kernel
theorem dX9_read_60 : decode cX9_read 60 = .ok (.ifCond .eq 5, 3) := by decide +kernel
theorem dX9_read_63 : decode cX9_read 63 = .ok (.iconst (-1), 1) := by decide +kernel
theorem dX9_read_64 : decode cX9_read 64 = .ok (.ireturn, 1) := by decide +kernel
theorem dX9_read_65 : decode cX9_read 65 = .ok (.aload_n 0, 1) := by decide +kernel
theorem dX9_read_66 : decode cX9_read 66 = .ok (.bipush 59, 2) := by decide +kernel
theorem dX9_read_68 : decode cX9_read 68 = .ok (.invokevirtual 35, 3) := by decide +kernel
theorem dX9_read_71 : decode cX9_read 71 = .ok (.ifCond .ne 15, 3) := by decide +kernel
theorem dX9_read_74 : decode cX9_read 74 = .ok (.aload_n 0, 1) := by decide +kernel
theorem dX9_read_75 : decode cX9_read 75 = .ok (.getfield 9, 3) := by decide +kernel
theorem dX9_read_78 : decode cX9_read 78 = .ok (.aload_n 0, 1) := by decide +kernel
theorem dX9_read_79 : decode cX9_read 79 = .ok (.getfield 19, 3) := by decide +kernel
theorem dX9_read_82 : decode cX9_read 82 = .ok (.invokevirtual 32, 3) := by decide +kernel
theorem dX9_read_85 : decode cX9_read 85 = .ok (.ireturn, 1) := by decide +kernel
theorem dX9_read_86 : decode cX9_read 86 = .ok (.iinc 1 1, 3) := by decide +kernel
theorem dX9_read_89 : decode cX9_read 89 = .ok (.goto (-63), 3) := by decide +kernel
theorem dX9_read_92 : decode cX9_read 92 = .ok (.aload_n 0, 1) := by decide +kernel
theorem dX9_read_93 : decode cX9_read 93 = .ok (.getfield 9, 3) := by decide +kernel
theorem dX9_read_96 : decode cX9_read 96 = .ok (.aload_n 0, 1) := by decide +kernel
theorem dX9_read_97 : decode cX9_read 97 = .ok (.getfield 19, 3) := by decide +kernel
theorem dX9_read_100 : decode cX9_read 100 = .ok (.invokevirtual 32, 3) := by decide +kernel
theorem dX9_read_103 : decode cX9_read 103 = .ok (.ireturn, 1) := by decide +kernel
theorem dX9_skip_0 : decode cX9_skip 0 = .ok (.aload_n 0, 1) := by decide +kernel
theorem dX9_skip_1 : decode cX9_skip 1 = .ok (.getfield 19, 3) := by decide +kernel
theorem dX9_skip_4 : decode cX9_skip 4 = .ok (.aload_n 0, 1) := by decide +kernel
theorem dX9_skip_5 : decode cX9_skip 5 = .ok (.getfield 9, 3) := by decide +kernel
theorem dX9_skip_8 : decode cX9_skip 8 = .ok (.getfield 39, 3) := by decide +kernel
theorem dX9_skip_11 : decode cX9_skip 11 = .ok (.if_icmp .ge 19, 3) := by decide +kernel
theorem dX9_skip_14 : decode cX9_skip 14 = .ok (.aload_n 0, 1) := by decide +kernel
theorem dX9_skip_15 : decode cX9_skip 15 = .ok (.getfield 9, 3) := by decide +kernel
theorem dX9_skip_18 : decode cX9_skip 18 = .ok (.getfield 42, 3) := by decide +kernel
theorem dX9_skip_21 : decode cX9_skip 21 = .ok (.aload_n 0, 1) := by decide +kernel
theorem dX9_skip_22 : decode cX9_skip 22 = .ok (.getfield 19, 3) := by decide +kernel
theorem dX9_skip_25 : decode cX9_skip 25 = .ok (.iaload, 1) := by decide +kernel
theorem dX9_skip_26 : decode cX9_skip 26 = .ok (.iload_n 1, 1) := by decide +kernel
theorem dX9_skip_27 : decode cX9_skip 27 = .ok (.if_icmp .eq 5, 3) := by decide +kernel
theorem dX9_skip_30 : decode cX9_skip 30 = .ok (.iconst 0, 1) := by decide +kernel
theorem dX9_skip_31 : decode cX9_skip 31 = .ok (.ireturn, 1) := by decide +kernel
theorem dX9_skip_32 : decode cX9_skip 32 = .ok (.aload_n 0, 1) := by decide +kernel
theorem dX9_skip_33 : decode cX9_skip 33 = .ok (.dup, 1) := by decide +kernel
theorem dX9_skip_34 : decode cX9_skip 34 = .ok (.getfield 19, 3) := by decide +kernel
theorem dX9_skip_37 : decode cX9_skip 37 = .ok (.iconst 1, 1) := by decide +kernel
theorem dX9_skip_38 : decode cX9_skip 38 = .ok (.iadd, 1) := by decide +kernel
theorem dX9_skip_39 : decode cX9_skip 39 = .ok (.putfield 19, 3) := by decide +kernel
theorem dX9_skip_42 : decode cX9_skip 42 = .ok (.iconst 1, 1) := by decide +kernel
theorem dX9_skip_43 : decode cX9_skip 43 = .ok (.ireturn, 1) := by decide +kernel
theorem dX9_number_0 : decode cX9_number 0 = .ok (.aload_n 0, 1) := by decide +kernel
theorem dX9_number_1 : decode cX9_number 1 = .ok (.getfield 9, 3) := by decide +kernel
theorem dX9_number_4 : decode cX9_number 4 = .ok (.aload_n 0, 1) := by decide +kernel
theorem dX9_number_5 : decode cX9_number 5 = .ok (.getfield 19, 3) := by decide +kernel
theorem dX9_number_8 : decode cX9_number 8 = .ok (.invokevirtual 46, 3) := by decide +kernel
theorem dX9_number_11 : decode cX9_number 11 = .ok (.istore_n 3, 1) := by decide +kernel
theorem dX9_number_12 : decode cX9_number 12 = .ok (.aload_n 0, 1) := by decide +kernel
theorem dX9_number_13 : decode cX9_number 13 = .ok (.getfield 9, 3) := by decide +kernel
theorem dX9_number_16 : decode cX9_number 16 = .ok (.aload_n 0, 1) := by decide +kernel
theorem dX9_number_17 : decode cX9_number 17 = .ok (.getfield 19, 3) := by decide +kernel
theorem dX9_number_20 : decode cX9_number 20 = .ok (.invokevirtual 22, 3) := by decide +kernel
theorem dX9_number_23 : decode cX9_number 23 = .ok (.sipush 256, 3) := by decide +kernel
theorem dX9_number_26 : decode cX9_number 26 = .ok (.if_icmp .ne 13, 3) := by decide +kernel
theorem dX9_number_29 : decode cX9_number 29 = .ok (.iload_n 3, 1) := by decide +kernel
theorem dX9_number_30 : decode cX9_number 30 = .ok (.iload_n 1, 1) := by decide +kernel
theorem dX9_number_31 : decode cX9_number 31 = .ok (.if_icmp .lt 8, 3) := by decide +kernel
theorem dX9_number_34 : decode cX9_number 34 = .ok (.iload_n 3, 1) := by decide +kernel
theorem dX9_number_35 : decode cX9_number 35 = .ok (.iload_n 2, 1) := by decide +kernel
theorem dX9_number_36 : decode cX9_number 36 = .ok (.if_icmp .le 5, 3) := by decide +kernel
theorem dX9_number_39 : decode cX9_number 39 = .ok (.iconst (-1), 1) := by decide +kernel
theorem dX9_number_40 : decode cX9_number 40 = .ok (.ireturn, 1) := by decide +kernel
theorem dX9_number_41 : decode cX9_number 41 = .ok (.aload_n 0, 1) := by decide +kernel
theorem dX9_number_42 : decode cX9_number 42 = .ok (.dup, 1) := by decide +kernel
theorem dX9_number_43 : decode cX9_number 43 = .ok (.getfield 19, 3) := by decide +kernel
theorem dX9_number_46 : decode cX9_number 46 = .ok (.iconst 1, 1) := by decide +kernel
theorem dX9_number_47 : decode cX9_number 47 = .ok (.iadd, 1) := by decide +kernel
theorem dX9_number_48 : decode cX9_number 48 = .ok (.putfield 19, 3) := by decide +kernel
theorem dX9_number_51 : decode cX9_number 51 = .ok (.iload_n 3, 1) := by decide +kernel
theorem dX9_number_52 : decode cX9_number 52 = .ok (.ireturn, 1) := by decide +kernel
theorem dX10_init_0 : decode cX10_init 0 = .ok (.aload_n 0, 1) := by decide +kernel
theorem dX10_init_1 : decode cX10_init 1 = .ok (.invokespecial 3, 3) := by decide +kernel
theorem dX10_init_4 : decode cX10_init 4 = .ok (.aload_n 0, 1) := by decide +kernel
theorem dX10_init_5 : decode cX10_init 5 = .ok (.sipush 401, 3) := by decide +kernel
theorem dX10_init_8 : decode cX10_init 8 = .ok (.newarray .int, 2) := by decide +kernel
theorem dX10_init_10 : decode cX10_init 10 = .ok (.putfield 9, 3) := by decide +kernel
theorem dX10_init_13 : decode cX10_init 13 = .ok (.aload_n 0, 1) := by decide +kernel
theorem dX10_init_14 : decode cX10_init 14 = .ok (.sipush 401, 3) := by decide +kernel
theorem dX10_init_17 : decode cX10_init 17 = .ok (.newarray .int, 2) := by decide +kernel
theorem dX10_init_19 : decode cX10_init 19 = .ok (.putfield 15, 3) := by decide +kernel
theorem dX10_init_22 : decode cX10_init 22 = .ok (.aload_n 0, 1) := by decide +kernel
theorem dX10_init_23 : decode cX10_init 23 = .ok (.sipush 401, 3) := by decide +kernel
theorem dX10_init_26 : decode cX10_init 26 = .ok (.newarray .int, 2) := by decide +kernel
theorem dX10_init_28 : decode cX10_init 28 = .ok (.putfield 18, 3) := by decide +kernel
theorem dX10_init_31 : decode cX10_init 31 = .ok (.aload_n 0, 1) := by decide +kernel
theorem dX10_init_32 : decode cX10_init 32 = .ok (.iconst 0, 1) := by decide +kernel
theorem dX10_init_33 : decode cX10_init 33 = .ok (.putfield 21, 3) := by decide +kernel
theorem dX10_init_36 : decode cX10_init 36 = .ok (.return_, 1) := by decide +kernel
theorem dX10_split_0 : decode cX10_split 0 = .ok (.aload_n 0, 1) := by decide +kernel
theorem dX10_split_1 : decode cX10_split 1 = .ok (.iconst 0, 1) := by decide +kernel
theorem dX10_split_2 : decode cX10_split 2 = .ok (.putfield 21, 3) := by decide +kernel
theorem dX10_split_5 : decode cX10_split 5 = .ok (.iconst 0, 1) := by decide +kernel
theorem dX10_split_6 : decode cX10_split 6 = .ok (.istore_n 3, 1) := by decide +kernel
theorem dX10_split_7 : decode cX10_split 7 = .ok (.iconst 0, 1) := by decide +kernel
theorem dX10_split_8 : decode cX10_split 8 = .ok (.istore 4, 2) := by decide +kernel
theorem dX10_split_10 : decode cX10_split 10 = .ok (.iload 4, 2) := by decide +kernel
theorem dX10_split_12 : decode cX10_split 12 = .ok (.iload_n 2, 1) := by decide +kernel
theorem dX10_split_13 : decode cX10_split 13 = .ok (.if_icmp .ge 24, 3) := by decide +kernel
theorem dX10_split_16 : decode cX10_split 16 = .ok (.iload 4, 2) := by decide +kernel
theorem dX10_split_18 : decode cX10_split 18 = .ok (.iload_n 3, 1) := by decide +kernel
theorem dX10_split_19 : decode cX10_split 19 = .ok (.if_icmp .lt 12, 3) := by decide +kernel
theorem dX10_split_22 : decode cX10_split 22 = .ok (.aload_n 0, 1) := by decide +kernel
theorem dX10_split_23 : decode cX10_split 23 = .ok (.aload_n 1, 1) := by decide +kernel
theorem dX10_split_24 : decode cX10_split 24 = .ok (.iload 4, 2) := by decide +kernel
theorem dX10_split_26 : decode cX10_split 26 = .ok (.iload_n 2, 1) := by decide +kernel
theorem dX10_split_27 : decode cX10_split 27 = .ok (.invokevirtual 25, 3) := by decide +kernel
theorem dX10_split_30 : decode cX10_split 30 = .ok (.istore_n 3, 1) := by decide +kernel
theorem dX10_split_31 : decode cX10_split 31 = .ok (.iinc 4 1, 3) := by decide +kernel
theorem dX10_split_34 : decode cX10_split 34 = .ok (.goto (-24), 3) := by decide +kernel
theorem dX10_split_37 : decode cX10_split 37 = .ok (.aload_n 0, 1) := by decide +kernel
theorem dX10_split_38 : decode cX10_split 38 = .ok (.sipush 259, 3) := by decide +kernel
theorem dX10_split_41 : decode cX10_split 41 = .ok (.iconst 0, 1) := by decide +kernel
theorem dX10_split_42 : decode cX10_split 42 = .ok (.iload_n 2, 1) := by decide +kernel
theorem dX10_split_43 : decode cX10_split 43 = .ok (.invokevirtual 29, 3) := by decide +kernel
theorem dX10_split_46 : decode cX10_split 46 = .ok (.return_, 1) := by decide +kernel
theorem dX10_addFrom_0 : decode cX10_addFrom 0 = .ok (.aload_n 1, 1) := by decide +kernel
theorem dX10_addFrom_1 : decode cX10_addFrom 1 = .ok (.iload_n 2, 1) := by decide +kernel
theorem dX10_addFrom_2 : decode cX10_addFrom 2 = .ok (.baload, 1) := by decide +kernel
theorem dX10_addFrom_3 : decode cX10_addFrom 3 = .ok (.sipush 255, 3) := by decide +kernel
theorem dX10_addFrom_6 : decode cX10_addFrom 6 = .ok (.iand, 1) := by decide +kernel
theorem dX10_addFrom_7 : decode cX10_addFrom 7 = .ok (.istore 4, 2) := by decide +kernel
theorem dX10_addFrom_9 : decode cX10_addFrom 9 = .ok (.iload 4, 2) := by decide +kernel
theorem dX10_addFrom_11 : decode cX10_addFrom 11 = .ok (.invokestatic 33, 3) := by decide +kernel
theorem dX10_addFrom_14 : decode cX10_addFrom 14 = .ok (.ifCond .eq 27, 3) := by decide +kernel
theorem dX10_addFrom_17 : decode cX10_addFrom 17 = .ok (.aload_n 1, 1) := by decide +kernel
theorem dX10_addFrom_18 : decode cX10_addFrom 18 = .ok (.iload_n 2, 1) := by decide +kernel
theorem dX10_addFrom_19 : decode cX10_addFrom 19 = .ok (.iload_n 3, 1) := by decide +kernel
theorem dX10_addFrom_20 : decode cX10_addFrom 20 = .ok (.invokestatic 37, 3) := by decide +kernel
theorem dX10_addFrom_23 : decode cX10_addFrom 23 = .ok (.istore 5, 2) := by decide +kernel
theorem dX10_addFrom_25 : decode cX10_addFrom 25 = .ok (.aload_n 0, 1) := by decide +kernel
theorem dX10_addFrom_26 : decode cX10_addFrom 26 = .ok (.aload_n 1, 1) := by decide +kernel
theorem dX10_addFrom_27 : decode cX10_addFrom 27 = .ok (.iload_n 2, 1) := by decide +kernel
theorem dX10_addFrom_28 : decode cX10_addFrom 28 = .ok (.iload 5, 2) := by decide +kernel
theorem dX10_addFrom_30 : decode cX10_addFrom 30 = .ok (.invokestatic 40, 3) := by decide +kernel
theorem dX10_addFrom_33 : decode cX10_addFrom 33 = .ok (.iconst 0, 1) := by decide +kernel
theorem dX10_addFrom_34 : decode cX10_addFrom 34 = .ok (.iload_n 2, 1) := by decide +kernel
theorem dX10_addFrom_35 : decode cX10_addFrom 35 = .ok (.invokevirtual 29, 3) := by decide +kernel
theorem dX10_addFrom_38 : decode cX10_addFrom 38 = .ok (.iload 5, 2) := by decide +kernel
theorem dX10_addFrom_40 : decode cX10_addFrom 40 = .ok (.ireturn, 1) := by decide +kernel
theorem dX10_addFrom_41 : decode cX10_addFrom 41 = .ok (.iload 4, 2) := by decide +kernel
theorem dX10_addFrom_43 : decode cX10_addFrom 43 = .ok (.invokestatic 43, 3) := by decide +kernel
theorem dX10_addFrom_46 : decode cX10_addFrom 46 = .ok (.ifCond .eq 64, 3) := by decide +kernel
theorem dX10_addFrom_49 : decode cX10_addFrom 49 = .ok (.aload_n 1, 1) := by decide +kernel
theorem dX10_addFrom_50 : decode cX10_addFrom 50 = .ok (.iload_n 2, 1) := by decide +kernel
theorem dX10_addFrom_51 : decode cX10_addFrom 51 = .ok (.iload_n 3, 1) := by decide +kernel
theorem dX10_addFrom_52 : decode cX10_addFrom 52 = .ok (.invokestatic 46, 3) := by decide +kernel
theorem dX10_addFrom_55 : decode cX10_addFrom 55 = .ok (.istore 5, 2) := by decide +kernel
theorem dX10_addFrom_57 : decode cX10_addFrom 57 = .ok (.iload 5, 2) := by decide +kernel
theorem dX10_addFrom_59 : decode cX10_addFrom 59 = .ok (.iload_n 2, 1) := by decide +kernel
theorem dX10_addFrom_60 : decode cX10_addFrom 60 = .ok (.isub, 1) := by decide +kernel
theorem dX10_addFrom_61 : decode cX10_addFrom 61 = .ok (.iconst 3, 1) := by decide +kernel
theorem dX10_addFrom_62 : decode cX10_addFrom 62 = .ok (.if_icmp .le 7, 3) := by decide +kernel
theorem dX10_addFrom_65 : decode cX10_addFrom 65 = .ok (.iconst 1, 1) := by decide +kernel
theorem dX10_addFrom_66 : decode cX10_addFrom 66 = .ok (.goto 4, 3) := by decide +kernel
theorem dX10_addFrom_69 : decode cX10_addFrom 69 = .ok (.iconst 0, 1) := by decide +kernel
theorem dX10_addFrom_70 : decode cX10_addFrom 70 = .ok (.istore 6, 2) := by decide +kernel
theorem dX10_addFrom_72 : decode cX10_addFrom 72 = .ok (.aload_n 0, 1) := by decide +kernel
theorem dX10_addFrom_73 : decode cX10_addFrom 73 = .ok (.iload 6, 2) := by decide +kernel
theorem dX10_addFrom_75 : decode cX10_addFrom 75 = .ok (.ifCond .eq 9, 3) := by decide +kernel
theorem dX10_addFrom_78 : decode cX10_addFrom 78 = .ok (.sipush 257, 3) := by decide +kernel
theorem dX10_addFrom_81 : decode cX10_addFrom 81 = .ok (.goto 6, 3) := by decide +kernel
theorem dX10_addFrom_84 : decode cX10_addFrom 84 = .ok (.sipush 256, 3) := by decide +kernel
theorem dX10_addFrom_87 : decode cX10_addFrom 87 = .ok (.iload 6, 2) := by decide +kernel
theorem dX10_addFrom_89 : decode cX10_addFrom 89 = .ok (.ifCond .eq 7, 3) := by decide +kernel
theorem dX10_addFrom_92 : decode cX10_addFrom 92 = .ok (.iconst 0, 1) := by decide +kernel
theorem dX10_addFrom_93 : decode cX10_addFrom 93 = .ok (.goto 10, 3) := by decide +kernel
theorem dX10_addFrom_96 : decode cX10_addFrom 96 = .ok (.aload_n 1, 1) := by decide +kernel
theorem dX10_addFrom_97 : decode cX10_addFrom 97 = .ok (.iload_n 2, 1) := by decide +kernel
theorem dX10_addFrom_98 : decode cX10_addFrom 98 = .ok (.iload 5, 2) := by decide +kernel
theorem dX10_addFrom_100 : decode cX10_addFrom 100 = .ok (.invokestatic 49, 3) := by decide +kernel
theorem dX10_addFrom_103 : decode cX10_addFrom 103 = .ok (.iload_n 2, 1) := by decide +kernel
theorem dX10_addFrom_104 : decode cX10_addFrom 104 = .ok (.invokevirtual 29, 3) := by decide +kernel
theorem dX10_addFrom_107 : decode cX10_addFrom 107 = .ok (.iload 5, 2) := by decide +kernel
theorem dX10_addFrom_109 : decode cX10_addFrom 109 = .ok (.ireturn, 1) := by decide +kernel
theorem dX10_addFrom_110 : decode cX10_addFrom 110 = .ok (.iload 4, 2) := by decide +kernel
theorem dX10_addFrom_112 : decode cX10_addFrom 112 = .ok (.bipush 32, 2) := by decide +kernel
theorem dX10_addFrom_114 : decode cX10_addFrom 114 = .ok (.if_icmp .eq 11, 3) := by decide +kernel
theorem dX10_addFrom_117 : decode cX10_addFrom 117 = .ok (.aload_n 0, 1) := by decide +kernel
theorem dX10_addFrom_118 : decode cX10_addFrom 118 = .ok (.iload 4, 2) := by decide +kernel
theorem dX10_addFrom_120 : decode cX10_addFrom 120 = .ok (.iconst 0, 1) := by decide +kernel
theorem dX10_addFrom_121 : decode cX10_addFrom 121 = .ok (.iload_n 2, 1) := by decide +kernel
theorem dX10_addFrom_122 : decode cX10_addFrom 122 = .ok (.invokevirtual 29, 3) := by decide +kernel
theorem dX10_addFrom_125 : decode cX10_addFrom 125 = .ok (.iload_n 2, 1) := by decide +kernel
theorem dX10_addFrom_126 : decode cX10_addFrom 126 = .ok (.iconst 1, 1) := by decide +kernel
theorem dX10_addFrom_127 : decode cX10_addFrom 127 = .ok (.iadd, 1) := by decide +kernel
theorem dX10_addFrom_128 : decode cX10_addFrom 128 = .ok (.ireturn, 1) := by decide +kernel
theorem dX10_isLetter_0 : decode cX10_isLetter 0 = .ok (.iload_n 0, 1) := by decide +kernel
theorem dX10_isLetter_1 : decode cX10_isLetter 1 = .ok (.bipush 97, 2) := by decide +kernel
theorem dX10_isLetter_3 : decode cX10_isLetter 3 = .ok (.if_icmp .lt 13, 3) := by decide +kernel
theorem dX10_isLetter_6 : decode cX10_isLetter 6 = .ok (.iload_n 0, 1) := by decide +kernel
theorem dX10_isLetter_7 : decode cX10_isLetter 7 = .ok (.bipush 122, 2) := by decide +kernel
theorem dX10_isLetter_9 : decode cX10_isLetter 9 = .ok (.if_icmp .gt 7, 3) := by decide +kernel
theorem dX10_isLetter_12 : decode cX10_isLetter 12 = .ok (.iconst 1, 1) := by decide +kernel
theorem dX10_isLetter_13 : decode cX10_isLetter 13 = .ok (.goto 4, 3) := by decide +kernel
theorem dX10_isLetter_16 : decode cX10_isLetter 16 = .ok (.iconst 0, 1) := by decide +kernel
theorem dX10_isLetter_17 : decode cX10_isLetter 17 = .ok (.ireturn, 1) := by decide +kernel
theorem dX10_isDigit_0 : decode cX10_isDigit 0 = .ok (.iload_n 0, 1) := by decide +kernel
theorem dX10_isDigit_1 : decode cX10_isDigit 1 = .ok (.bipush 48, 2) := by decide +kernel
theorem dX10_isDigit_3 : decode cX10_isDigit 3 = .ok (.if_icmp .lt 13, 3) := by decide +kernel
theorem dX10_isDigit_6 : decode cX10_isDigit 6 = .ok (.iload_n 0, 1) := by decide +kernel
theorem dX10_isDigit_7 : decode cX10_isDigit 7 = .ok (.bipush 57, 2) := by decide +kernel
theorem dX10_isDigit_9 : decode cX10_isDigit 9 = .ok (.if_icmp .gt 7, 3) := by decide +kernel
theorem dX10_isDigit_12 : decode cX10_isDigit 12 = .ok (.iconst 1, 1) := by decide +kernel
theorem dX10_isDigit_13 : decode cX10_isDigit 13 = .ok (.goto 4, 3) := by decide +kernel
theorem dX10_isDigit_16 : decode cX10_isDigit 16 = .ok (.iconst 0, 1) := by decide +kernel
theorem dX10_isDigit_17 : decode cX10_isDigit 17 = .ok (.ireturn, 1) := by decide +kernel
theorem dX10_lettersEnd_0 : decode cX10_lettersEnd 0 = .ok (.iload_n 1, 1) := by decide +kernel
theorem dX10_lettersEnd_1 : decode cX10_lettersEnd 1 = .ok (.iconst 1, 1) := by decide +kernel
theorem dX10_lettersEnd_2 : decode cX10_lettersEnd 2 = .ok (.iadd, 1) := by decide +kernel
theorem dX10_lettersEnd_3 : decode cX10_lettersEnd 3 = .ok (.istore_n 3, 1) := by decide +kernel
theorem dX10_lettersEnd_4 : decode cX10_lettersEnd 4 = .ok (.iload_n 3, 1) := by decide +kernel
theorem dX10_lettersEnd_5 : decode cX10_lettersEnd 5 = .ok (.iload_n 2, 1) := by decide +kernel
theorem dX10_lettersEnd_6 : decode cX10_lettersEnd 6 = .ok (.if_icmp .ge 18, 3) := by decide +kernel
theorem dX10_lettersEnd_9 : decode cX10_lettersEnd 9 = .ok (.aload_n 0, 1) := by decide +kernel
theorem dX10_lettersEnd_10 : decode cX10_lettersEnd 10 = .ok (.iload_n 3, 1) := by decide +kernel
theorem dX10_lettersEnd_11 : decode cX10_lettersEnd 11 = .ok (.baload, 1) := by decide +kernel
theorem dX10_lettersEnd_12 : decode cX10_lettersEnd 12 = .ok (.invokestatic 33, 3) := by decide +kernel
theorem dX10_lettersEnd_15 : decode cX10_lettersEnd 15 = .ok (.ifCond .eq 9, 3) := by decide +kernel
theorem dX10_lettersEnd_18 : decode cX10_lettersEnd 18 = .ok (.iinc 3 1, 3) := by decide +kernel
theorem dX10_lettersEnd_21 : decode cX10_lettersEnd 21 = .ok (.goto (-17), 3) := by decide +kernel
theorem dX10_lettersEnd_24 : decode cX10_lettersEnd 24 = .ok (.iload_n 3, 1) := by decide +kernel
theorem dX10_lettersEnd_25 : decode cX10_lettersEnd 25 = .ok (.ireturn, 1) := by decide +kernel
theorem dX10_digitsEnd_0 : decode cX10_digitsEnd 0 = .ok (.iload_n 1, 1) := by decide +kernel
theorem dX10_digitsEnd_1 : decode cX10_digitsEnd 1 = .ok (.iconst 1, 1) := by decide +kernel
theorem dX10_digitsEnd_2 : decode cX10_digitsEnd 2 = .ok (.iadd, 1) := by decide +kernel
theorem dX10_digitsEnd_3 : decode cX10_digitsEnd 3 = .ok (.istore_n 3, 1) := by decide +kernel
theorem dX10_digitsEnd_4 : decode cX10_digitsEnd 4 = .ok (.iload_n 3, 1) := by decide +kernel
theorem dX10_digitsEnd_5 : decode cX10_digitsEnd 5 = .ok (.iload_n 2, 1) := by decide +kernel
theorem dX10_digitsEnd_6 : decode cX10_digitsEnd 6 = .ok (.if_icmp .ge 18, 3) := by decide +kernel
theorem dX10_digitsEnd_9 : decode cX10_digitsEnd 9 = .ok (.aload_n 0, 1) := by decide +kernel
theorem dX10_digitsEnd_10 : decode cX10_digitsEnd 10 = .ok (.iload_n 3, 1) := by decide +kernel
theorem dX10_digitsEnd_11 : decode cX10_digitsEnd 11 = .ok (.baload, 1) := by decide +kernel
theorem dX10_digitsEnd_12 : decode cX10_digitsEnd 12 = .ok (.invokestatic 43, 3) := by decide +kernel
theorem dX10_digitsEnd_15 : decode cX10_digitsEnd 15 = .ok (.ifCond .eq 9, 3) := by decide +kernel
theorem dX10_digitsEnd_18 : decode cX10_digitsEnd 18 = .ok (.iinc 3 1, 3) := by decide +kernel
theorem dX10_digitsEnd_21 : decode cX10_digitsEnd 21 = .ok (.goto (-17), 3) := by decide +kernel
theorem dX10_digitsEnd_24 : decode cX10_digitsEnd 24 = .ok (.iload_n 3, 1) := by decide +kernel
theorem dX10_digitsEnd_25 : decode cX10_digitsEnd 25 = .ok (.ireturn, 1) := by decide +kernel
theorem dX10_valueOf_0 : decode cX10_valueOf 0 = .ok (.iconst 0, 1) := by decide +kernel
theorem dX10_valueOf_1 : decode cX10_valueOf 1 = .ok (.istore_n 3, 1) := by decide +kernel
theorem dX10_valueOf_2 : decode cX10_valueOf 2 = .ok (.iload_n 1, 1) := by decide +kernel
theorem dX10_valueOf_3 : decode cX10_valueOf 3 = .ok (.istore 4, 2) := by decide +kernel
theorem dX10_valueOf_5 : decode cX10_valueOf 5 = .ok (.iload 4, 2) := by decide +kernel
theorem dX10_valueOf_7 : decode cX10_valueOf 7 = .ok (.iload_n 2, 1) := by decide +kernel
theorem dX10_valueOf_8 : decode cX10_valueOf 8 = .ok (.if_icmp .ge 22, 3) := by decide +kernel
theorem dX10_valueOf_11 : decode cX10_valueOf 11 = .ok (.bipush 10, 2) := by decide +kernel
theorem dX10_valueOf_13 : decode cX10_valueOf 13 = .ok (.iload_n 3, 1) := by decide +kernel
theorem dX10_valueOf_14 : decode cX10_valueOf 14 = .ok (.imul, 1) := by decide +kernel
theorem dX10_valueOf_15 : decode cX10_valueOf 15 = .ok (.aload_n 0, 1) := by decide +kernel
theorem dX10_valueOf_16 : decode cX10_valueOf 16 = .ok (.iload 4, 2) := by decide +kernel
theorem dX10_valueOf_18 : decode cX10_valueOf 18 = .ok (.baload, 1) := by decide +kernel
theorem dX10_valueOf_19 : decode cX10_valueOf 19 = .ok (.iadd, 1) := by decide +kernel
theorem dX10_valueOf_20 : decode cX10_valueOf 20 = .ok (.bipush 48, 2) := by decide +kernel
theorem dX10_valueOf_22 : decode cX10_valueOf 22 = .ok (.isub, 1) := by decide +kernel
theorem dX10_valueOf_23 : decode cX10_valueOf 23 = .ok (.istore_n 3, 1) := by decide +kernel
theorem dX10_valueOf_24 : decode cX10_valueOf 24 = .ok (.iinc 4 1, 3) := by decide +kernel
theorem dX10_valueOf_27 : decode cX10_valueOf 27 = .ok (.goto (-22), 3) := by decide +kernel
theorem dX10_valueOf_30 : decode cX10_valueOf 30 = .ok (.iload_n 3, 1) := by decide +kernel
theorem dX10_valueOf_31 : decode cX10_valueOf 31 = .ok (.ireturn, 1) := by decide +kernel
theorem dX10_wordCode_0 : decode cX10_wordCode 0 = .ok (.iload_n 2, 1) := by decide +kernel
theorem dX10_wordCode_1 : decode cX10_wordCode 1 = .ok (.iload_n 1, 1) := by decide +kernel
theorem dX10_wordCode_2 : decode cX10_wordCode 2 = .ok (.isub, 1) := by decide +kernel
theorem dX10_wordCode_3 : decode cX10_wordCode 3 = .ok (.istore_n 3, 1) := by decide +kernel
theorem dX10_wordCode_4 : decode cX10_wordCode 4 = .ok (.sipush 300, 3) := by decide +kernel
theorem dX10_wordCode_7 : decode cX10_wordCode 7 = .ok (.istore 4, 2) := by decide +kernel
theorem dX10_wordCode_9 : decode cX10_wordCode 9 = .ok (.iconst 0, 1) := by decide +kernel
theorem dX10_wordCode_10 : decode cX10_wordCode 10 = .ok (.istore 5, 2) := by decide +kernel
theorem dX10_wordCode_12 : decode cX10_wordCode 12 = .ok (.iconst 0, 1) := by decide +kernel
theorem dX10_wordCode_13 : decode cX10_wordCode 13 = .ok (.istore 6, 2) := by decide +kernel
theorem dX10_wordCode_15 : decode cX10_wordCode 15 = .ok (.iload 6, 2) := by decide +kernel
theorem dX10_wordCode_17 : decode cX10_wordCode 17 = .ok (.ldc 52, 2) := by decide +kernel
theorem dX10_wordCode_19 : decode cX10_wordCode 19 = .ok (.invokevirtual 54, 3) := by decide +kernel
theorem dX10_wordCode_22 : decode cX10_wordCode 22 = .ok (.if_icmp .ge 74, 3) := by decide +kernel
theorem dX10_wordCode_25 : decode cX10_wordCode 25 = .ok (.ldc 52, 2) := by decide +kernel
theorem dX10_wordCode_27 : decode cX10_wordCode 27 = .ok (.iload 6, 2) := by decide +kernel
theorem dX10_wordCode_29 : decode cX10_wordCode 29 = .ok (.invokevirtual 60, 3) := by decide +kernel
theorem dX10_wordCode_32 : decode cX10_wordCode 32 = .ok (.istore 7, 2) := by decide +kernel
theorem dX10_wordCode_34 : decode cX10_wordCode 34 = .ok (.iload 7, 2) := by decide +kernel
theorem dX10_wordCode_36 : decode cX10_wordCode 36 = .ok (.bipush 32, 2) := by decide +kernel
theorem dX10_wordCode_38 : decode cX10_wordCode 38 = .ok (.if_icmp .ne 21, 3) := by decide +kernel
theorem dX10_wordCode_41 : decode cX10_wordCode 41 = .ok (.iload 5, 2) := by decide +kernel
theorem dX10_wordCode_43 : decode cX10_wordCode 43 = .ok (.iload_n 3, 1) := by decide +kernel
theorem dX10_wordCode_44 : decode cX10_wordCode 44 = .ok (.if_icmp .ne 6, 3) := by decide +kernel
theorem dX10_wordCode_47 : decode cX10_wordCode 47 = .ok (.iload 4, 2) := by decide +kernel
theorem dX10_wordCode_49 : decode cX10_wordCode 49 = .ok (.ireturn, 1) := by decide +kernel
theorem dX10_wordCode_50 : decode cX10_wordCode 50 = .ok (.iinc 4 1, 3) := by decide +kernel
theorem dX10_wordCode_53 : decode cX10_wordCode 53 = .ok (.iconst 0, 1) := by decide +kernel
theorem dX10_wordCode_54 : decode cX10_wordCode 54 = .ok (.istore 5, 2) := by decide +kernel
theorem dX10_wordCode_56 : decode cX10_wordCode 56 = .ok (.goto 34, 3) := by decide +kernel
theorem dX10_wordCode_59 : decode cX10_wordCode 59 = .ok (.iload 5, 2) := by decide +kernel
theorem dX10_wordCode_61 : decode cX10_wordCode 61 = .ok (.ifCond .lt 26, 3) := by decide +kernel
theorem dX10_wordCode_64 : decode cX10_wordCode 64 = .ok (.iload 5, 2) := by decide +kernel
theorem dX10_wordCode_66 : decode cX10_wordCode 66 = .ok (.iload_n 3, 1) := by decide +kernel
theorem dX10_wordCode_67 : decode cX10_wordCode 67 = .ok (.if_icmp .ge 20, 3) := by decide +kernel
theorem dX10_wordCode_70 : decode cX10_wordCode 70 = .ok (.aload_n 0, 1) := by decide +kernel
theorem dX10_wordCode_71 : decode cX10_wordCode 71 = .ok (.iload_n 1, 1) := by decide +kernel
theorem dX10_wordCode_72 : decode cX10_wordCode 72 = .ok (.iload 5, 2) := by decide +kernel
theorem dX10_wordCode_74 : decode cX10_wordCode 74 = .ok (.iadd, 1) := by decide +kernel
theorem dX10_wordCode_75 : decode cX10_wordCode 75 = .ok (.baload, 1) := by decide +kernel
theorem dX10_wordCode_76 : decode cX10_wordCode 76 = .ok (.iload 7, 2) := by decide +kernel
theorem dX10_wordCode_78 : decode cX10_wordCode 78 = .ok (.if_icmp .ne 9, 3) := by decide +kernel
theorem dX10_wordCode_81 : decode cX10_wordCode 81 = .ok (.iinc 5 1, 3) := by decide +kernel
theorem dX10_wordCode_84 : decode cX10_wordCode 84 = .ok (.goto 6, 3) := by decide +kernel
theorem dX10_wordCode_87 : decode cX10_wordCode 87 = .ok (.iconst (-1), 1) := by decide +kernel
theorem dX10_wordCode_88 : decode cX10_wordCode 88 = .ok (.istore 5, 2) := by decide +kernel
theorem dX10_wordCode_90 : decode cX10_wordCode 90 = .ok (.iinc 6 1, 3) := by decide +kernel
theorem dX10_wordCode_93 : decode cX10_wordCode 93 = .ok (.goto (-78), 3) := by decide +kernel
theorem dX10_wordCode_96 : decode cX10_wordCode 96 = .ok (.sipush 258, 3) := by decide +kernel
theorem dX10_wordCode_99 : decode cX10_wordCode 99 = .ok (.ireturn, 1) := by decide +kernel
theorem dX10_add_0 : decode cX10_add 0 = .ok (.aload_n 0, 1) := by decide +kernel
theorem dX10_add_1 : decode cX10_add 1 = .ok (.getfield 21, 3) := by decide +kernel
theorem dX10_add_4 : decode cX10_add 4 = .ok (.aload_n 0, 1) := by decide +kernel
theorem dX10_add_5 : decode cX10_add 5 = .ok (.getfield 9, 3) := by decide +kernel
theorem dX10_add_8 : decode cX10_add 8 = .ok (.arraylength, 1) := by decide +kernel
theorem dX10_add_9 : decode cX10_add 9 = .ok (.if_icmp .ge 43, 3) := by decide +kernel
theorem dX10_add_12 : decode cX10_add 12 = .ok (.aload_n 0, 1) := by decide +kernel
theorem dX10_add_13 : decode cX10_add 13 = .ok (.getfield 9, 3) := by decide +kernel
theorem dX10_add_16 : decode cX10_add 16 = .ok (.aload_n 0, 1) := by decide +kernel
theorem dX10_add_17 : decode cX10_add 17 = .ok (.getfield 21, 3) := by decide +kernel
theorem dX10_add_20 : decode cX10_add 20 = .ok (.iload_n 1, 1) := by decide +kernel
theorem dX10_add_21 : decode cX10_add 21 = .ok (.iastore, 1) := by decide +kernel
theorem dX10_add_22 : decode cX10_add 22 = .ok (.aload_n 0, 1) := by decide +kernel
theorem dX10_add_23 : decode cX10_add 23 = .ok (.getfield 15, 3) := by decide +kernel
theorem dX10_add_26 : decode cX10_add 26 = .ok (.aload_n 0, 1) := by decide +kernel
theorem dX10_add_27 : decode cX10_add 27 = .ok (.getfield 21, 3) := by decide +kernel
theorem dX10_add_30 : decode cX10_add 30 = .ok (.iload_n 2, 1) := by decide +kernel
theorem dX10_add_31 : decode cX10_add 31 = .ok (.iastore, 1) := by decide +kernel
theorem dX10_add_32 : decode cX10_add 32 = .ok (.aload_n 0, 1) := by decide +kernel
theorem dX10_add_33 : decode cX10_add 33 = .ok (.getfield 18, 3) := by decide +kernel
theorem dX10_add_36 : decode cX10_add 36 = .ok (.aload_n 0, 1) := by decide +kernel
theorem dX10_add_37 : decode cX10_add 37 = .ok (.getfield 21, 3) := by decide +kernel
theorem dX10_add_40 : decode cX10_add 40 = .ok (.iload_n 3, 1) := by decide +kernel
theorem dX10_add_41 : decode cX10_add 41 = .ok (.iastore, 1) := by decide +kernel
theorem dX10_add_42 : decode cX10_add 42 = .ok (.aload_n 0, 1) := by decide +kernel
theorem dX10_add_43 : decode cX10_add 43 = .ok (.dup, 1) := by decide +kernel
theorem dX10_add_44 : decode cX10_add 44 = .ok (.getfield 21, 3) := by decide +kernel
theorem dX10_add_47 : decode cX10_add 47 = .ok (.iconst 1, 1) := by decide +kernel
theorem dX10_add_48 : decode cX10_add 48 = .ok (.iadd, 1) := by decide +kernel
theorem dX10_add_49 : decode cX10_add 49 = .ok (.putfield 21, 3) := by decide +kernel
theorem dX10_add_52 : decode cX10_add 52 = .ok (.return_, 1) := by decide +kernel
theorem dX10_code_0 : decode cX10_code 0 = .ok (.iload_n 1, 1) := by decide +kernel
theorem dX10_code_1 : decode cX10_code 1 = .ok (.ifCond .lt 20, 3) := by decide +kernel
theorem dX10_code_4 : decode cX10_code 4 = .ok (.iload_n 1, 1) := by decide +kernel
theorem dX10_code_5 : decode cX10_code 5 = .ok (.aload_n 0, 1) := by decide +kernel
theorem dX10_code_6 : decode cX10_code 6 = .ok (.getfield 21, 3) := by decide +kernel
theorem dX10_code_9 : decode cX10_code 9 = .ok (.if_icmp .ge 12, 3) := by decide +kernel
theorem dX10_code_12 : decode cX10_code 12 = .ok (.aload_n 0, 1) := by decide +kernel
theorem dX10_code_13 : decode cX10_code 13 = .ok (.getfield 9, 3) := by decide +kernel
theorem dX10_code_16 : decode cX10_code 16 = .ok (.iload_n 1, 1) := by decide +kernel
theorem dX10_code_17 : decode cX10_code 17 = .ok (.iaload, 1) := by decide +kernel
theorem dX10_code_18 : decode cX10_code 18 = .ok (.goto 6, 3) := by decide +kernel
theorem dX10_code_21 : decode cX10_code 21 = .ok (.sipush 259, 3) := by decide +kernel
theorem dX10_code_24 : decode cX10_code 24 = .ok (.ireturn, 1) := by decide +kernel
theorem dX10_value_0 : decode cX10_value 0 = .ok (.iload_n 1, 1) := by decide +kernel
theorem dX10_value_1 : decode cX10_value 1 = .ok (.ifCond .lt 20, 3) := by decide +kernel
theorem dX10_value_4 : decode cX10_value 4 = .ok (.iload_n 1, 1) := by decide +kernel
theorem dX10_value_5 : decode cX10_value 5 = .ok (.aload_n 0, 1) := by decide +kernel
theorem dX10_value_6 : decode cX10_value 6 = .ok (.getfield 21, 3) := by decide +kernel
theorem dX10_value_9 : decode cX10_value 9 = .ok (.if_icmp .ge 12, 3) := by decide +kernel
theorem dX10_value_12 : decode cX10_value 12 = .ok (.aload_n 0, 1) := by decide +kernel
theorem dX10_value_13 : decode cX10_value 13 = .ok (.getfield 15, 3) := by decide +kernel
theorem dX10_value_16 : decode cX10_value 16 = .ok (.iload_n 1, 1) := by decide +kernel
theorem dX10_value_17 : decode cX10_value 17 = .ok (.iaload, 1) := by decide +kernel
theorem dX10_value_18 : decode cX10_value 18 = .ok (.goto 4, 3) := by decide +kernel
theorem dX10_value_21 : decode cX10_value 21 = .ok (.iconst 0, 1) := by decide +kernel
theorem dX10_value_22 : decode cX10_value 22 = .ok (.ireturn, 1) := by decide +kernel
theorem dX10_start_0 : decode cX10_start 0 = .ok (.iload_n 1, 1) := by decide +kernel
theorem dX10_start_1 : decode cX10_start 1 = .ok (.ifCond .lt 20, 3) := by decide +kernel
theorem dX10_start_4 : decode cX10_start 4 = .ok (.iload_n 1, 1) := by decide +kernel
theorem dX10_start_5 : decode cX10_start 5 = .ok (.aload_n 0, 1) := by decide +kernel
theorem dX10_start_6 : decode cX10_start 6 = .ok (.getfield 21, 3) := by decide +kernel
theorem dX10_start_9 : decode cX10_start 9 = .ok (.if_icmp .ge 12, 3) := by decide +kernel
theorem dX10_start_12 : decode cX10_start 12 = .ok (.aload_n 0, 1) := by decide +kernel
theorem dX10_start_13 : decode cX10_start 13 = .ok (.getfield 18, 3) := by decide +kernel
theorem dX10_start_16 : decode cX10_start 16 = .ok (.iload_n 1, 1) := by decide +kernel
theorem dX10_start_17 : decode cX10_start 17 = .ok (.iaload, 1) := by decide +kernel
theorem dX10_start_18 : decode cX10_start 18 = .ok (.goto 4, 3) := by decide +kernel
theorem dX10_start_21 : decode cX10_start 21 = .ok (.iconst 0, 1) := by decide +kernel
theorem dX10_start_22 : decode cX10_start 22 = .ok (.ireturn, 1) := by decide +kernel
theorem dX11_init_0 : decode cX11_init 0 = .ok (.aload_n 0, 1) := by decide +kernel
theorem dX11_init_1 : decode cX11_init 1 = .ok (.invokespecial 1, 3) := by decide +kernel
theorem dX11_init_4 : decode cX11_init 4 = .ok (.aload_n 0, 1) := by decide +kernel
theorem dX11_init_5 : decode cX11_init 5 = .ok (.sipush 400, 3) := by decide +kernel
theorem dX11_init_8 : decode cX11_init 8 = .ok (.newarray .byte, 2) := by decide +kernel
theorem dX11_init_10 : decode cX11_init 10 = .ok (.putfield 9, 3) := by decide +kernel
theorem dX11_init_13 : decode cX11_init 13 = .ok (.aload_n 0, 1) := by decide +kernel
theorem dX11_init_14 : decode cX11_init 14 = .ok (.iconst 0, 1) := by decide +kernel
theorem dX11_init_15 : decode cX11_init 15 = .ok (.putfield 13, 3) := by decide +kernel
theorem dX11_init_18 : decode cX11_init 18 = .ok (.aload_n 0, 1) := by decide +kernel
theorem dX11_init_19 : decode cX11_init 19 = .ok (.iconst (-1), 1) := by decide +kernel
theorem dX11_init_20 : decode cX11_init 20 = .ok (.putfield 17, 3) := by decide +kernel
theorem dX11_init_23 : decode cX11_init 23 = .ok (.aload_n 0, 1) := by decide +kernel
theorem dX11_init_24 : decode cX11_init 24 = .ok (.new 20, 3) := by decide +kernel
theorem dX11_init_27 : decode cX11_init 27 = .ok (.dup, 1) := by decide +kernel
theorem dX11_init_28 : decode cX11_init 28 = .ok (.invokespecial 22, 3) := by decide +kernel
theorem dX11_init_31 : decode cX11_init 31 = .ok (.putfield 23, 3) := by decide +kernel
theorem dX11_init_34 : decode cX11_init 34 = .ok (.aload_n 0, 1) := by decide +kernel
theorem dX11_init_35 : decode cX11_init 35 = .ok (.iconst 0, 1) := by decide +kernel
theorem dX11_init_36 : decode cX11_init 36 = .ok (.putfield 27, 3) := by decide +kernel
theorem dX11_init_39 : decode cX11_init 39 = .ok (.aload_n 0, 1) := by decide +kernel
theorem dX11_init_40 : decode cX11_init 40 = .ok (.new 30, 3) := by decide +kernel
theorem dX11_init_43 : decode cX11_init 43 = .ok (.dup, 1) := by decide +kernel
theorem dX11_init_44 : decode cX11_init 44 = .ok (.invokespecial 32, 3) := by decide +kernel
theorem dX11_init_47 : decode cX11_init 47 = .ok (.putfield 33, 3) := by decide +kernel
theorem dX11_init_50 : decode cX11_init 50 = .ok (.aload_n 0, 1) := by decide +kernel
theorem dX11_init_51 : decode cX11_init 51 = .ok (.new 37, 3) := by decide +kernel
theorem dX11_init_54 : decode cX11_init 54 = .ok (.dup, 1) := by decide +kernel
theorem dX11_init_55 : decode cX11_init 55 = .ok (.invokespecial 39, 3) := by decide +kernel
theorem dX11_init_58 : decode cX11_init 58 = .ok (.putfield 40, 3) := by decide +kernel
theorem dX11_init_61 : decode cX11_init 61 = .ok (.aload_n 0, 1) := by decide +kernel
theorem dX11_init_62 : decode cX11_init 62 = .ok (.new 44, 3) := by decide +kernel
theorem dX11_init_65 : decode cX11_init 65 = .ok (.dup, 1) := by decide +kernel
theorem dX11_init_66 : decode cX11_init 66 = .ok (.invokespecial 46, 3) := by decide +kernel
theorem dX11_init_69 : decode cX11_init 69 = .ok (.putfield 47, 3) := by decide +kernel
theorem dX11_init_72 : decode cX11_init 72 = .ok (.aload_n 0, 1) := by decide +kernel
theorem dX11_init_73 : decode cX11_init 73 = .ok (.new 30, 3) := by decide +kernel
theorem dX11_init_76 : decode cX11_init 76 = .ok (.dup, 1) := by decide +kernel
theorem dX11_init_77 : decode cX11_init 77 = .ok (.invokespecial 32, 3) := by decide +kernel
theorem dX11_init_80 : decode cX11_init 80 = .ok (.putfield 51, 3) := by decide +kernel
theorem dX11_init_83 : decode cX11_init 83 = .ok (.aload_n 0, 1) := by decide +kernel
theorem dX11_init_84 : decode cX11_init 84 = .ok (.new 37, 3) := by decide +kernel
theorem dX11_init_87 : decode cX11_init 87 = .ok (.dup, 1) := by decide +kernel
theorem dX11_init_88 : decode cX11_init 88 = .ok (.invokespecial 39, 3) := by decide +kernel
theorem dX11_init_91 : decode cX11_init 91 = .ok (.putfield 54, 3) := by decide +kernel
theorem dX11_init_94 : decode cX11_init 94 = .ok (.aload_n 0, 1) := by decide +kernel
theorem dX11_init_95 : decode cX11_init 95 = .ok (.new 44, 3) := by decide +kernel
theorem dX11_init_98 : decode cX11_init 98 = .ok (.dup, 1) := by decide +kernel
theorem dX11_init_99 : decode cX11_init 99 = .ok (.invokespecial 46, 3) := by decide +kernel
theorem dX11_init_102 : decode cX11_init 102 = .ok (.putfield 57, 3) := by decide +kernel
theorem dX11_init_105 : decode cX11_init 105 = .ok (.aload_n 0, 1) := by decide +kernel
theorem dX11_init_106 : decode cX11_init 106 = .ok (.new 60, 3) := by decide +kernel
theorem dX11_init_109 : decode cX11_init 109 = .ok (.dup, 1) := by decide +kernel
theorem dX11_init_110 : decode cX11_init 110 = .ok (.aload_n 0, 1) := by decide +kernel
theorem dX11_init_111 : decode cX11_init 111 = .ok (.getfield 23, 3) := by decide +kernel
theorem dX11_init_114 : decode cX11_init 114 = .ok (.aload_n 0, 1) := by decide +kernel
theorem dX11_init_115 : decode cX11_init 115 = .ok (.getfield 51, 3) := by decide +kernel
theorem dX11_init_118 : decode cX11_init 118 = .ok (.invokespecial 62, 3) := by decide +kernel
theorem dX11_init_121 : decode cX11_init 121 = .ok (.putfield 65, 3) := by decide +kernel
theorem dX11_init_124 : decode cX11_init 124 = .ok (.aload_n 0, 1) := by decide +kernel
theorem dX11_init_125 : decode cX11_init 125 = .ok (.new 69, 3) := by decide +kernel
theorem dX11_init_128 : decode cX11_init 128 = .ok (.dup, 1) := by decide +kernel
theorem dX11_init_129 : decode cX11_init 129 = .ok (.aload_n 0, 1) := by decide +kernel
theorem dX11_init_130 : decode cX11_init 130 = .ok (.getfield 23, 3) := by decide +kernel
theorem dX11_init_133 : decode cX11_init 133 = .ok (.aload_n 0, 1) := by decide +kernel
theorem dX11_init_134 : decode cX11_init 134 = .ok (.getfield 54, 3) := by decide +kernel
theorem dX11_init_137 : decode cX11_init 137 = .ok (.invokespecial 71, 3) := by decide +kernel
theorem dX11_init_140 : decode cX11_init 140 = .ok (.putfield 74, 3) := by decide +kernel
theorem dX11_init_143 : decode cX11_init 143 = .ok (.aload_n 0, 1) := by decide +kernel
theorem dX11_init_144 : decode cX11_init 144 = .ok (.new 78, 3) := by decide +kernel
theorem dX11_init_147 : decode cX11_init 147 = .ok (.dup, 1) := by decide +kernel
theorem dX11_init_148 : decode cX11_init 148 = .ok (.invokespecial 80, 3) := by decide +kernel
theorem dX11_init_151 : decode cX11_init 151 = .ok (.putfield 81, 3) := by decide +kernel
theorem dX11_init_154 : decode cX11_init 154 = .ok (.aload_n 0, 1) := by decide +kernel
theorem dX11_init_155 : decode cX11_init 155 = .ok (.new 85, 3) := by decide +kernel
theorem dX11_init_158 : decode cX11_init 158 = .ok (.dup, 1) := by decide +kernel
theorem dX11_init_159 : decode cX11_init 159 = .ok (.invokespecial 87, 3) := by decide +kernel
theorem dX11_init_162 : decode cX11_init 162 = .ok (.putfield 88, 3) := by decide +kernel
theorem dX11_init_165 : decode cX11_init 165 = .ok (.aload_n 0, 1) := by decide +kernel
theorem dX11_init_166 : decode cX11_init 166 = .ok (.iconst 0, 1) := by decide +kernel
theorem dX11_init_167 : decode cX11_init 167 = .ok (.putfield 92, 3) := by decide +kernel
theorem dX11_init_170 : decode cX11_init 170 = .ok (.aload_n 0, 1) := by decide +kernel
theorem dX11_init_171 : decode cX11_init 171 = .ok (.iconst 0, 1) := by decide +kernel
theorem dX11_init_172 : decode cX11_init 172 = .ok (.putfield 96, 3) := by decide +kernel
theorem dX11_init_175 : decode cX11_init 175 = .ok (.aload_n 0, 1) := by decide +kernel
theorem dX11_init_176 : decode cX11_init 176 = .ok (.new 30, 3) := by decide +kernel
theorem dX11_init_179 : decode cX11_init 179 = .ok (.dup, 1) := by decide +kernel
theorem dX11_init_180 : decode cX11_init 180 = .ok (.invokespecial 32, 3) := by decide +kernel
theorem dX11_init_183 : decode cX11_init 183 = .ok (.putfield 99, 3) := by decide +kernel
theorem dX11_init_186 : decode cX11_init 186 = .ok (.aload_n 0, 1) := by decide +kernel
theorem dX11_init_187 : decode cX11_init 187 = .ok (.new 37, 3) := by decide +kernel
theorem dX11_init_190 : decode cX11_init 190 = .ok (.dup, 1) := by decide +kernel
theorem dX11_init_191 : decode cX11_init 191 = .ok (.invokespecial 39, 3) := by decide +kernel
theorem dX11_init_194 : decode cX11_init 194 = .ok (.putfield 102, 3) := by decide +kernel
theorem dX11_init_197 : decode cX11_init 197 = .ok (.aload_n 0, 1) := by decide +kernel
theorem dX11_init_198 : decode cX11_init 198 = .ok (.new 44, 3) := by decide +kernel
theorem dX11_init_201 : decode cX11_init 201 = .ok (.dup, 1) := by decide +kernel
theorem dX11_init_202 : decode cX11_init 202 = .ok (.invokespecial 46, 3) := by decide +kernel
theorem dX11_init_205 : decode cX11_init 205 = .ok (.putfield 105, 3) := by decide +kernel
theorem dX11_init_208 : decode cX11_init 208 = .ok (.return_, 1) := by decide +kernel
theorem dX11_feed_0 : decode cX11_feed 0 = .ok (.aload_n 0, 1) := by decide +kernel
theorem dX11_feed_1 : decode cX11_feed 1 = .ok (.getfield 13, 3) := by decide +kernel
theorem dX11_feed_4 : decode cX11_feed 4 = .ok (.bipush 20, 2) := by decide +kernel
theorem dX11_feed_6 : decode cX11_feed 6 = .ok (.iadd, 1) := by decide +kernel
theorem dX11_feed_7 : decode cX11_feed 7 = .ok (.sipush 400, 3) := by decide +kernel
theorem dX11_feed_10 : decode cX11_feed 10 = .ok (.if_icmp .le 5, 3) := by decide +kernel
theorem dX11_feed_13 : decode cX11_feed 13 = .ok (.iconst (-1), 1) := by decide +kernel
theorem dX11_feed_14 : decode cX11_feed 14 = .ok (.ireturn, 1) := by decide +kernel
theorem dX11_feed_15 : decode cX11_feed 15 = .ok (.aload_n 0, 1) := by decide +kernel
theorem dX11_feed_16 : decode cX11_feed 16 = .ok (.iload_n 1, 1) := by decide +kernel
theorem dX11_feed_17 : decode cX11_feed 17 = .ok (.invokevirtual 108, 3) := by decide +kernel
theorem dX11_feed_20 : decode cX11_feed 20 = .ok (.aload_n 0, 1) := by decide +kernel
theorem dX11_feed_21 : decode cX11_feed 21 = .ok (.iload_n 2, 1) := by decide +kernel
theorem dX11_feed_22 : decode cX11_feed 22 = .ok (.invokevirtual 108, 3) := by decide +kernel
theorem dX11_feed_25 : decode cX11_feed 25 = .ok (.aload_n 0, 1) := by decide +kernel
theorem dX11_feed_26 : decode cX11_feed 26 = .ok (.iload_n 3, 1) := by decide +kernel
theorem dX11_feed_27 : decode cX11_feed 27 = .ok (.invokevirtual 108, 3) := by decide +kernel
theorem dX11_feed_30 : decode cX11_feed 30 = .ok (.aload_n 0, 1) := by decide +kernel
theorem dX11_feed_31 : decode cX11_feed 31 = .ok (.iload 4, 2) := by decide +kernel
theorem dX11_feed_33 : decode cX11_feed 33 = .ok (.invokevirtual 108, 3) := by decide +kernel
theorem dX11_feed_36 : decode cX11_feed 36 = .ok (.aload_n 0, 1) := by decide +kernel
theorem dX11_feed_37 : decode cX11_feed 37 = .ok (.iload 5, 2) := by decide +kernel
theorem dX11_feed_39 : decode cX11_feed 39 = .ok (.invokevirtual 108, 3) := by decide +kernel
theorem dX11_feed_42 : decode cX11_feed 42 = .ok (.aload_n 0, 1) := by decide +kernel
theorem dX11_feed_43 : decode cX11_feed 43 = .ok (.getfield 13, 3) := by decide +kernel
theorem dX11_feed_46 : decode cX11_feed 46 = .ok (.ireturn, 1) := by decide +kernel
theorem dX11_putBytes_0 : decode cX11_putBytes 0 = .ok (.bipush 24, 2) := by decide +kernel
theorem dX11_putBytes_2 : decode cX11_putBytes 2 = .ok (.istore_n 2, 1) := by decide +kernel
theorem dX11_putBytes_3 : decode cX11_putBytes 3 = .ok (.iload_n 2, 1) := by decide +kernel
theorem dX11_putBytes_4 : decode cX11_putBytes 4 = .ok (.ifCond .lt 42, 3) := by decide +kernel
theorem dX11_putBytes_7 : decode cX11_putBytes 7 = .ok (.aload_n 0, 1) := by decide +kernel
theorem dX11_putBytes_8 : decode cX11_putBytes 8 = .ok (.getfield 13, 3) := by decide +kernel
theorem dX11_putBytes_11 : decode cX11_putBytes 11 = .ok (.sipush 400, 3) := by decide +kernel
theorem dX11_putBytes_14 : decode cX11_putBytes 14 = .ok (.if_icmp .ge 32, 3) := by decide +kernel
theorem dX11_putBytes_17 : decode cX11_putBytes 17 = .ok (.aload_n 0, 1) := by decide +kernel
theorem dX11_putBytes_18 : decode cX11_putBytes 18 = .ok (.getfield 9, 3) := by decide +kernel
theorem dX11_putBytes_21 : decode cX11_putBytes 21 = .ok (.aload_n 0, 1) := by decide +kernel
theorem dX11_putBytes_22 : decode cX11_putBytes 22 = .ok (.getfield 13, 3) := by decide +kernel
theorem dX11_putBytes_25 : decode cX11_putBytes 25 = .ok (.iload_n 1, 1) := by decide +kernel
theorem dX11_putBytes_26 : decode cX11_putBytes 26 = .ok (.iload_n 2, 1) := by decide +kernel
theorem dX11_putBytes_27 : decode cX11_putBytes 27 = .ok (.iushr, 1) := by decide +kernel
theorem dX11_putBytes_28 : decode cX11_putBytes 28 = .ok (.i2b, 1) := by decide +kernel
theorem dX11_putBytes_29 : decode cX11_putBytes 29 = .ok (.bastore, 1) := by decide +kernel
theorem dX11_putBytes_30 : decode cX11_putBytes 30 = .ok (.aload_n 0, 1) := by decide +kernel
theorem dX11_putBytes_31 : decode cX11_putBytes 31 = .ok (.dup, 1) := by decide +kernel
theorem dX11_putBytes_32 : decode cX11_putBytes 32 = .ok (.getfield 13, 3) := by decide +kernel
theorem dX11_putBytes_35 : decode cX11_putBytes 35 = .ok (.iconst 1, 1) := by decide +kernel
theorem dX11_putBytes_36 : decode cX11_putBytes 36 = .ok (.iadd, 1) := by decide +kernel
theorem dX11_putBytes_37 : decode cX11_putBytes 37 = .ok (.putfield 13, 3) := by decide +kernel
theorem dX11_putBytes_40 : decode cX11_putBytes 40 = .ok (.iinc 2 (-8), 3) := by decide +kernel
theorem dX11_putBytes_43 : decode cX11_putBytes 43 = .ok (.goto (-40), 3) := by decide +kernel
theorem dX11_putBytes_46 : decode cX11_putBytes 46 = .ok (.return_, 1) := by decide +kernel
theorem dX11_end_0 : decode cX11_end 0 = .ok (.iload_n 1, 1) := by decide +kernel
theorem dX11_end_1 : decode cX11_end 1 = .ok (.ifCond .lt 11, 3) := by decide +kernel
theorem dX11_end_4 : decode cX11_end 4 = .ok (.iload_n 1, 1) := by decide +kernel
theorem dX11_end_5 : decode cX11_end 5 = .ok (.aload_n 0, 1) := by decide +kernel
theorem dX11_end_6 : decode cX11_end 6 = .ok (.getfield 13, 3) := by decide +kernel
theorem dX11_end_9 : decode cX11_end 9 = .ok (.if_icmp .le 5, 3) := by decide +kernel
theorem dX11_end_12 : decode cX11_end 12 = .ok (.iconst 0, 1) := by decide +kernel
theorem dX11_end_13 : decode cX11_end 13 = .ok (.ireturn, 1) := by decide +kernel
theorem dX11_end_14 : decode cX11_end 14 = .ok (.aload_n 0, 1) := by decide +kernel
theorem dX11_end_15 : decode cX11_end 15 = .ok (.iload_n 1, 1) := by decide +kernel
theorem dX11_end_16 : decode cX11_end 16 = .ok (.putfield 13, 3) := by decide +kernel
theorem dX11_end_19 : decode cX11_end 19 = .ok (.iconst 1, 1) := by decide +kernel
theorem dX11_end_20 : decode cX11_end 20 = .ok (.ireturn, 1) := by decide +kernel
theorem dX11_useTapeUp_0 : decode cX11_useTapeUp 0 = .ok (.aload_n 0, 1) := by decide +kernel
theorem dX11_useTapeUp_1 : decode cX11_useTapeUp 1 = .ok (.getfield 13, 3) := by decide +kernel
theorem dX11_useTapeUp_4 : decode cX11_useTapeUp 4 = .ok (.istore_n 1, 1) := by decide +kernel
theorem dX11_useTapeUp_5 : decode cX11_useTapeUp 5 = .ok (.aload_n 0, 1) := by decide +kernel
theorem dX11_useTapeUp_6 : decode cX11_useTapeUp 6 = .ok (.iconst 0, 1) := by decide +kernel
theorem dX11_useTapeUp_7 : decode cX11_useTapeUp 7 = .ok (.putfield 13, 3) := by decide +kernel
theorem dX11_useTapeUp_10 : decode cX11_useTapeUp 10 = .ok (.iload_n 1, 1) := by decide +kernel
theorem dX11_useTapeUp_11 : decode cX11_useTapeUp 11 = .ok (.ireturn, 1) := by decide +kernel
theorem dX11_hill_0 : decode cX11_hill 0 = .ok (.aload_n 0, 1) := by decide +kernel
theorem dX11_hill_1 : decode cX11_hill 1 = .ok (.getfield 23, 3) := by decide +kernel
theorem dX11_hill_4 : decode cX11_hill 4 = .ok (.aload_n 0, 1) := by decide +kernel
theorem dX11_hill_5 : decode cX11_hill 5 = .ok (.getfield 9, 3) := by decide +kernel
theorem dX11_hill_8 : decode cX11_hill 8 = .ok (.aload_n 0, 1) := by decide +kernel
theorem dX11_hill_9 : decode cX11_hill 9 = .ok (.invokevirtual 112, 3) := by decide +kernel
theorem dX11_hill_12 : decode cX11_hill 12 = .ok (.invokevirtual 116, 3) := by decide +kernel
theorem dX11_hill_15 : decode cX11_hill 15 = .ok (.aload_n 0, 1) := by decide +kernel
theorem dX11_hill_16 : decode cX11_hill 16 = .ok (.getfield 51, 3) := by decide +kernel
theorem dX11_hill_19 : decode cX11_hill 19 = .ok (.aload_n 0, 1) := by decide +kernel
theorem dX11_hill_20 : decode cX11_hill 20 = .ok (.getfield 33, 3) := by decide +kernel
theorem dX11_hill_23 : decode cX11_hill 23 = .ok (.invokevirtual 120, 3) := by decide +kernel
theorem dX11_hill_26 : decode cX11_hill 26 = .ok (.aload_n 0, 1) := by decide +kernel
theorem dX11_hill_27 : decode cX11_hill 27 = .ok (.aload_n 0, 1) := by decide +kernel
theorem dX11_hill_28 : decode cX11_hill 28 = .ok (.getfield 65, 3) := by decide +kernel
theorem dX11_hill_31 : decode cX11_hill 31 = .ok (.invokevirtual 124, 3) := by decide +kernel
theorem dX11_hill_34 : decode cX11_hill 34 = .ok (.putfield 17, 3) := by decide +kernel
theorem dX11_hill_37 : decode cX11_hill 37 = .ok (.aload_n 0, 1) := by decide +kernel
theorem dX11_hill_38 : decode cX11_hill 38 = .ok (.getfield 17, 3) := by decide +kernel
theorem dX11_hill_41 : decode cX11_hill 41 = .ok (.iconst (-1), 1) := by decide +kernel
theorem dX11_hill_42 : decode cX11_hill 42 = .ok (.if_icmp .eq 11, 3) := by decide +kernel
theorem dX11_hill_45 : decode cX11_hill 45 = .ok (.new 127, 3) := by decide +kernel
theorem dX11_hill_48 : decode cX11_hill 48 = .ok (.dup, 1) := by decide +kernel
theorem dX11_hill_49 : decode cX11_hill 49 = .ok (.invokespecial 129, 3) := by decide +kernel
theorem dX11_hill_52 : decode cX11_hill 52 = .ok (.athrow, 1) := by decide +kernel
theorem dX11_hill_53 : decode cX11_hill 53 = .ok (.aload_n 0, 1) := by decide +kernel
theorem dX11_hill_54 : decode cX11_hill 54 = .ok (.getfield 27, 3) := by decide +kernel
theorem dX11_hill_57 : decode cX11_hill 57 = .ok (.bipush 12, 2) := by decide +kernel
theorem dX11_hill_59 : decode cX11_hill 59 = .ok (.if_icmp .lt 11, 3) := by decide +kernel
theorem dX11_hill_62 : decode cX11_hill 62 = .ok (.new 130, 3) := by decide +kernel
theorem dX11_hill_65 : decode cX11_hill 65 = .ok (.dup, 1) := by decide +kernel
theorem dX11_hill_66 : decode cX11_hill 66 = .ok (.invokespecial 132, 3) := by decide +kernel
theorem dX11_hill_69 : decode cX11_hill 69 = .ok (.athrow, 1) := by decide +kernel
theorem dX11_hill_70 : decode cX11_hill 70 = .ok (.aload_n 0, 1) := by decide +kernel
theorem dX11_hill_71 : decode cX11_hill 71 = .ok (.dup, 1) := by decide +kernel
theorem dX11_hill_72 : decode cX11_hill 72 = .ok (.getfield 27, 3) := by decide +kernel
theorem dX11_hill_75 : decode cX11_hill 75 = .ok (.iconst 1, 1) := by decide +kernel
theorem dX11_hill_76 : decode cX11_hill 76 = .ok (.iadd, 1) := by decide +kernel
theorem dX11_hill_77 : decode cX11_hill 77 = .ok (.putfield 27, 3) := by decide +kernel
theorem dX11_hill_80 : decode cX11_hill 80 = .ok (.aload_n 0, 1) := by decide +kernel
theorem dX11_hill_81 : decode cX11_hill 81 = .ok (.getfield 51, 3) := by decide +kernel
theorem dX11_hill_84 : decode cX11_hill 84 = .ok (.invokevirtual 133, 3) := by decide +kernel
theorem dX11_hill_87 : decode cX11_hill 87 = .ok (.aload_n 0, 1) := by decide +kernel
theorem dX11_hill_88 : decode cX11_hill 88 = .ok (.getfield 33, 3) := by decide +kernel
theorem dX11_hill_91 : decode cX11_hill 91 = .ok (.aload_n 0, 1) := by decide +kernel
theorem dX11_hill_92 : decode cX11_hill 92 = .ok (.getfield 51, 3) := by decide +kernel
theorem dX11_hill_95 : decode cX11_hill 95 = .ok (.invokevirtual 120, 3) := by decide +kernel
theorem dX11_hill_98 : decode cX11_hill 98 = .ok (.aload_n 0, 1) := by decide +kernel
theorem dX11_hill_99 : decode cX11_hill 99 = .ok (.getfield 88, 3) := by decide +kernel
theorem dX11_hill_102 : decode cX11_hill 102 = .ok (.invokevirtual 136, 3) := by decide +kernel
theorem dX11_hill_105 : decode cX11_hill 105 = .ok (.aload_n 0, 1) := by decide +kernel
theorem dX11_hill_106 : decode cX11_hill 106 = .ok (.getfield 27, 3) := by decide +kernel
theorem dX11_hill_109 : decode cX11_hill 109 = .ok (.ireturn, 1) := by decide +kernel
theorem dX11_law_0 : decode cX11_law 0 = .ok (.aload_n 0, 1) := by decide +kernel
theorem dX11_law_1 : decode cX11_law 1 = .ok (.getfield 23, 3) := by decide +kernel
theorem dX11_law_4 : decode cX11_law 4 = .ok (.aload_n 0, 1) := by decide +kernel
theorem dX11_law_5 : decode cX11_law 5 = .ok (.getfield 9, 3) := by decide +kernel
theorem dX11_law_8 : decode cX11_law 8 = .ok (.aload_n 0, 1) := by decide +kernel
theorem dX11_law_9 : decode cX11_law 9 = .ok (.invokevirtual 112, 3) := by decide +kernel
theorem dX11_law_12 : decode cX11_law 12 = .ok (.invokevirtual 116, 3) := by decide +kernel
theorem dX11_law_15 : decode cX11_law 15 = .ok (.aload_n 0, 1) := by decide +kernel
theorem dX11_law_16 : decode cX11_law 16 = .ok (.getfield 54, 3) := by decide +kernel
theorem dX11_law_19 : decode cX11_law 19 = .ok (.invokevirtual 139, 3) := by decide +kernel
theorem dX11_law_22 : decode cX11_law 22 = .ok (.aload_n 0, 1) := by decide +kernel
theorem dX11_law_23 : decode cX11_law 23 = .ok (.aload_n 0, 1) := by decide +kernel
theorem dX11_law_24 : decode cX11_law 24 = .ok (.getfield 74, 3) := by decide +kernel
theorem dX11_law_27 : decode cX11_law 27 = .ok (.invokevirtual 142, 3) := by decide +kernel
theorem dX11_law_30 : decode cX11_law 30 = .ok (.putfield 17, 3) := by decide +kernel
theorem dX11_law_33 : decode cX11_law 33 = .ok (.aload_n 0, 1) := by decide +kernel
theorem dX11_law_34 : decode cX11_law 34 = .ok (.getfield 17, 3) := by decide +kernel
theorem dX11_law_37 : decode cX11_law 37 = .ok (.iconst (-1), 1) := by decide +kernel
theorem dX11_law_38 : decode cX11_law 38 = .ok (.if_icmp .eq 11, 3) := by decide +kernel
theorem dX11_law_41 : decode cX11_law 41 = .ok (.new 127, 3) := by decide +kernel
theorem dX11_law_44 : decode cX11_law 44 = .ok (.dup, 1) := by decide +kernel
theorem dX11_law_45 : decode cX11_law 45 = .ok (.invokespecial 129, 3) := by decide +kernel
theorem dX11_law_48 : decode cX11_law 48 = .ok (.athrow, 1) := by decide +kernel
theorem dX11_law_49 : decode cX11_law 49 = .ok (.aload_n 0, 1) := by decide +kernel
theorem dX11_law_50 : decode cX11_law 50 = .ok (.getfield 40, 3) := by decide +kernel
theorem dX11_law_53 : decode cX11_law 53 = .ok (.aload_n 0, 1) := by decide +kernel
theorem dX11_law_54 : decode cX11_law 54 = .ok (.getfield 54, 3) := by decide +kernel
theorem dX11_law_57 : decode cX11_law 57 = .ok (.invokevirtual 143, 3) := by decide +kernel
theorem dX11_law_60 : decode cX11_law 60 = .ok (.aload_n 0, 1) := by decide +kernel
theorem dX11_law_61 : decode cX11_law 61 = .ok (.getfield 88, 3) := by decide +kernel
theorem dX11_law_64 : decode cX11_law 64 = .ok (.invokevirtual 136, 3) := by decide +kernel
theorem dX11_law_67 : decode cX11_law 67 = .ok (.aload_n 0, 1) := by decide +kernel
theorem dX11_law_68 : decode cX11_law 68 = .ok (.getfield 40, 3) := by decide +kernel
theorem dX11_law_71 : decode cX11_law 71 = .ok (.getfield 146, 3) := by decide +kernel
theorem dX11_law_74 : decode cX11_law 74 = .ok (.ireturn, 1) := by decide +kernel
theorem dX11_fault_0 : decode cX11_fault 0 = .ok (.aload_n 0, 1) := by decide +kernel
theorem dX11_fault_1 : decode cX11_fault 1 = .ok (.getfield 17, 3) := by decide +kernel
theorem dX11_fault_4 : decode cX11_fault 4 = .ok (.ireturn, 1) := by decide +kernel
theorem dX11_checkPlank_0 : decode cX11_checkPlank 0 = .ok (.iload_n 1, 1) := by decide +kernel
theorem dX11_checkPlank_1 : decode cX11_checkPlank 1 = .ok (.ifCond .lt 14, 3) := by decide +kernel
theorem dX11_checkPlank_4 : decode cX11_checkPlank 4 = .ok (.iload_n 1, 1) := by decide +kernel
theorem dX11_checkPlank_5 : decode cX11_checkPlank 5 = .ok (.aload_n 0, 1) := by decide +kernel
theorem dX11_checkPlank_6 : decode cX11_checkPlank 6 = .ok (.getfield 33, 3) := by decide +kernel
theorem dX11_checkPlank_9 : decode cX11_checkPlank 9 = .ok (.getfield 149, 3) := by decide +kernel
theorem dX11_checkPlank_12 : decode cX11_checkPlank 12 = .ok (.if_icmp .lt 11, 3) := by decide +kernel
theorem dX11_checkPlank_15 : decode cX11_checkPlank 15 = .ok (.new 152, 3) := by decide +kernel
theorem dX11_checkPlank_18 : decode cX11_checkPlank 18 = .ok (.dup, 1) := by decide +kernel
theorem dX11_checkPlank_19 : decode cX11_checkPlank 19 = .ok (.invokespecial 154, 3) := by decide +kernel
theorem dX11_checkPlank_22 : decode cX11_checkPlank 22 = .ok (.athrow, 1) := by decide +kernel
theorem dX11_checkPlank_23 : decode cX11_checkPlank 23 = .ok (.return_, 1) := by decide +kernel
theorem dX11_checkHouse_0 : decode cX11_checkHouse 0 = .ok (.iload_n 1, 1) := by decide +kernel
theorem dX11_checkHouse_1 : decode cX11_checkHouse 1 = .ok (.ifCond .lt 14, 3) := by decide +kernel
theorem dX11_checkHouse_4 : decode cX11_checkHouse 4 = .ok (.iload_n 1, 1) := by decide +kernel
theorem dX11_checkHouse_5 : decode cX11_checkHouse 5 = .ok (.aload_n 0, 1) := by decide +kernel
theorem dX11_checkHouse_6 : decode cX11_checkHouse 6 = .ok (.getfield 33, 3) := by decide +kernel
theorem dX11_checkHouse_9 : decode cX11_checkHouse 9 = .ok (.invokevirtual 155, 3) := by decide +kernel
theorem dX11_checkHouse_12 : decode cX11_checkHouse 12 = .ok (.if_icmp .lt 11, 3) := by decide +kernel
theorem dX11_checkHouse_15 : decode cX11_checkHouse 15 = .ok (.new 152, 3) := by decide +kernel
theorem dX11_checkHouse_18 : decode cX11_checkHouse 18 = .ok (.dup, 1) := by decide +kernel
theorem dX11_checkHouse_19 : decode cX11_checkHouse 19 = .ok (.invokespecial 154, 3) := by decide +kernel
theorem dX11_checkHouse_22 : decode cX11_checkHouse 22 = .ok (.athrow, 1) := by decide +kernel
theorem dX11_checkHouse_23 : decode cX11_checkHouse 23 = .ok (.return_, 1) := by decide +kernel
theorem dX11_checkThing_0 : decode cX11_checkThing 0 = .ok (.iload_n 1, 1) := by decide +kernel
theorem dX11_checkThing_1 : decode cX11_checkThing 1 = .ok (.ifCond .lt 14, 3) := by decide +kernel
theorem dX11_checkThing_4 : decode cX11_checkThing 4 = .ok (.iload_n 1, 1) := by decide +kernel
theorem dX11_checkThing_5 : decode cX11_checkThing 5 = .ok (.aload_n 0, 1) := by decide +kernel
theorem dX11_checkThing_6 : decode cX11_checkThing 6 = .ok (.getfield 33, 3) := by decide +kernel
theorem dX11_checkThing_9 : decode cX11_checkThing 9 = .ok (.getfield 158, 3) := by decide +kernel
theorem dX11_checkThing_12 : decode cX11_checkThing 12 = .ok (.if_icmp .lt 11, 3) := by decide +kernel
theorem dX11_checkThing_15 : decode cX11_checkThing 15 = .ok (.new 152, 3) := by decide +kernel
theorem dX11_checkThing_18 : decode cX11_checkThing 18 = .ok (.dup, 1) := by decide +kernel
theorem dX11_checkThing_19 : decode cX11_checkThing 19 = .ok (.invokespecial 154, 3) := by decide +kernel
theorem dX11_checkThing_22 : decode cX11_checkThing 22 = .ok (.athrow, 1) := by decide +kernel
theorem dX11_checkThing_23 : decode cX11_checkThing 23 = .ok (.return_, 1) := by decide +kernel
theorem dX11_checkNumber_0 : decode cX11_checkNumber 0 = .ok (.iload_n 0, 1) := by decide +kernel
theorem dX11_checkNumber_1 : decode cX11_checkNumber 1 = .ok (.iload_n 1, 1) := by decide +kernel
theorem dX11_checkNumber_2 : decode cX11_checkNumber 2 = .ok (.if_icmp .lt 8, 3) := by decide +kernel
theorem dX11_checkNumber_5 : decode cX11_checkNumber 5 = .ok (.iload_n 0, 1) := by decide +kernel
theorem dX11_checkNumber_6 : decode cX11_checkNumber 6 = .ok (.iload_n 2, 1) := by decide +kernel
theorem dX11_checkNumber_7 : decode cX11_checkNumber 7 = .ok (.if_icmp .le 11, 3) := by decide +kernel
theorem dX11_checkNumber_10 : decode cX11_checkNumber 10 = .ok (.new 127, 3) := by decide +kernel
theorem dX11_checkNumber_13 : decode cX11_checkNumber 13 = .ok (.dup, 1) := by decide +kernel
theorem dX11_checkNumber_14 : decode cX11_checkNumber 14 = .ok (.invokespecial 129, 3) := by decide +kernel
theorem dX11_checkNumber_17 : decode cX11_checkNumber 17 = .ok (.athrow, 1) := by decide +kernel
theorem dX11_checkNumber_18 : decode cX11_checkNumber 18 = .ok (.return_, 1) := by decide +kernel
theorem dX11_plank_0 : decode cX11_plank 0 = .ok (.aload_n 0, 1) := by decide +kernel
theorem dX11_plank_1 : decode cX11_plank 1 = .ok (.iload_n 1, 1) := by decide +kernel
theorem dX11_plank_2 : decode cX11_plank 2 = .ok (.invokevirtual 161, 3) := by decide +kernel
theorem dX11_plank_5 : decode cX11_plank 5 = .ok (.iload_n 2, 1) := by decide +kernel
theorem dX11_plank_6 : decode cX11_plank 6 = .ok (.tableswitch 139 0 6 #[42, 52, 62, 80, 98, 109, 126], 42) := by decide +kernel
theorem dX11_plank_48 : decode cX11_plank 48 = .ok (.aload_n 0, 1) := by decide +kernel
theorem dX11_plank_49 : decode cX11_plank 49 = .ok (.getfield 33, 3) := by decide +kernel
theorem dX11_plank_52 : decode cX11_plank 52 = .ok (.getfield 164, 3) := by decide +kernel
theorem dX11_plank_55 : decode cX11_plank 55 = .ok (.iload_n 1, 1) := by decide +kernel
theorem dX11_plank_56 : decode cX11_plank 56 = .ok (.iaload, 1) := by decide +kernel
theorem dX11_plank_57 : decode cX11_plank 57 = .ok (.ireturn, 1) := by decide +kernel
theorem dX11_plank_58 : decode cX11_plank 58 = .ok (.aload_n 0, 1) := by decide +kernel
theorem dX11_plank_59 : decode cX11_plank 59 = .ok (.getfield 33, 3) := by decide +kernel
theorem dX11_plank_62 : decode cX11_plank 62 = .ok (.getfield 168, 3) := by decide +kernel
theorem dX11_plank_65 : decode cX11_plank 65 = .ok (.iload_n 1, 1) := by decide +kernel
theorem dX11_plank_66 : decode cX11_plank 66 = .ok (.iaload, 1) := by decide +kernel
theorem dX11_plank_67 : decode cX11_plank 67 = .ok (.ireturn, 1) := by decide +kernel
theorem dX11_plank_68 : decode cX11_plank 68 = .ok (.aload_n 0, 1) := by decide +kernel
theorem dX11_plank_69 : decode cX11_plank 69 = .ok (.getfield 33, 3) := by decide +kernel
theorem dX11_plank_72 : decode cX11_plank 72 = .ok (.getfield 171, 3) := by decide +kernel
theorem dX11_plank_75 : decode cX11_plank 75 = .ok (.iload_n 1, 1) := by decide +kernel
theorem dX11_plank_76 : decode cX11_plank 76 = .ok (.baload, 1) := by decide +kernel
theorem dX11_plank_77 : decode cX11_plank 77 = .ok (.ifCond .eq 7, 3) := by decide +kernel
theorem dX11_plank_80 : decode cX11_plank 80 = .ok (.iconst 1, 1) := by decide +kernel
theorem dX11_plank_81 : decode cX11_plank 81 = .ok (.goto 4, 3) := by decide +kernel
theorem dX11_plank_84 : decode cX11_plank 84 = .ok (.iconst 0, 1) := by decide +kernel
theorem dX11_plank_85 : decode cX11_plank 85 = .ok (.ireturn, 1) := by decide +kernel
theorem dX11_plank_86 : decode cX11_plank 86 = .ok (.aload_n 0, 1) := by decide +kernel
theorem dX11_plank_87 : decode cX11_plank 87 = .ok (.getfield 33, 3) := by decide +kernel
theorem dX11_plank_90 : decode cX11_plank 90 = .ok (.getfield 175, 3) := by decide +kernel
theorem dX11_plank_93 : decode cX11_plank 93 = .ok (.iload_n 1, 1) := by decide +kernel
theorem dX11_plank_94 : decode cX11_plank 94 = .ok (.baload, 1) := by decide +kernel
theorem dX11_plank_95 : decode cX11_plank 95 = .ok (.ifCond .eq 7, 3) := by decide +kernel
theorem dX11_plank_98 : decode cX11_plank 98 = .ok (.iconst 1, 1) := by decide +kernel
theorem dX11_plank_99 : decode cX11_plank 99 = .ok (.goto 4, 3) := by decide +kernel
theorem dX11_plank_102 : decode cX11_plank 102 = .ok (.iconst 0, 1) := by decide +kernel
theorem dX11_plank_103 : decode cX11_plank 103 = .ok (.ireturn, 1) := by decide +kernel
theorem dX11_plank_104 : decode cX11_plank 104 = .ok (.aload_n 0, 1) := by decide +kernel
theorem dX11_plank_105 : decode cX11_plank 105 = .ok (.getfield 33, 3) := by decide +kernel
theorem dX11_plank_108 : decode cX11_plank 108 = .ok (.iload_n 1, 1) := by decide +kernel
theorem dX11_plank_109 : decode cX11_plank 109 = .ok (.invokevirtual 178, 3) := by decide +kernel
theorem dX11_plank_112 : decode cX11_plank 112 = .ok (.iconst 5, 1) := by decide +kernel
theorem dX11_plank_113 : decode cX11_plank 113 = .ok (.iadd, 1) := by decide +kernel
theorem dX11_plank_114 : decode cX11_plank 114 = .ok (.ireturn, 1) := by decide +kernel
theorem dX11_plank_115 : decode cX11_plank 115 = .ok (.aload_n 0, 1) := by decide +kernel
theorem dX11_plank_116 : decode cX11_plank 116 = .ok (.getfield 33, 3) := by decide +kernel
theorem dX11_plank_119 : decode cX11_plank 119 = .ok (.iload_n 1, 1) := by decide +kernel
theorem dX11_plank_120 : decode cX11_plank 120 = .ok (.invokevirtual 182, 3) := by decide +kernel
theorem dX11_plank_123 : decode cX11_plank 123 = .ok (.ifCond .eq 7, 3) := by decide +kernel
theorem dX11_plank_126 : decode cX11_plank 126 = .ok (.iconst 1, 1) := by decide +kernel
theorem dX11_plank_127 : decode cX11_plank 127 = .ok (.goto 4, 3) := by decide +kernel
theorem dX11_plank_130 : decode cX11_plank 130 = .ok (.iconst 0, 1) := by decide +kernel
theorem dX11_plank_131 : decode cX11_plank 131 = .ok (.ireturn, 1) := by decide +kernel
theorem dX11_plank_132 : decode cX11_plank 132 = .ok (.aload_n 0, 1) := by decide +kernel
theorem dX11_plank_133 : decode cX11_plank 133 = .ok (.getfield 33, 3) := by decide +kernel
theorem dX11_plank_136 : decode cX11_plank 136 = .ok (.aload_n 0, 1) := by decide +kernel
theorem dX11_plank_137 : decode cX11_plank 137 = .ok (.getfield 40, 3) := by decide +kernel
theorem dX11_plank_140 : decode cX11_plank 140 = .ok (.iload_n 1, 1) := by decide +kernel
theorem dX11_plank_141 : decode cX11_plank 141 = .ok (.invokevirtual 186, 3) := by decide +kernel
theorem dX11_plank_144 : decode cX11_plank 144 = .ok (.ireturn, 1) := by decide +kernel
theorem dX11_plank_145 : decode cX11_plank 145 = .ok (.new 190, 3) := by decide +kernel
theorem dX11_plank_148 : decode cX11_plank 148 = .ok (.dup, 1) := by decide +kernel
theorem dX11_plank_149 : decode cX11_plank 149 = .ok (.invokespecial 192, 3) := by decide +kernel
theorem dX11_plank_152 : decode cX11_plank 152 = .ok (.athrow, 1) := by decide +kernel
theorem dX11_house_0 : decode cX11_house 0 = .ok (.aload_n 0, 1) := by decide +kernel
theorem dX11_house_1 : decode cX11_house 1 = .ok (.iload_n 1, 1) := by decide +kernel
theorem dX11_house_2 : decode cX11_house 2 = .ok (.invokevirtual 193, 3) := by decide +kernel
theorem dX11_house_5 : decode cX11_house 5 = .ok (.iload_n 2, 1) := by decide +kernel
theorem dX11_house_6 : decode cX11_house 6 = .ok (.tableswitch 143 0 8 #[50, 60, 70, 80, 90, 99, 112, 125, 134], 50) := by decide +kernel
theorem dX11_house_56 : decode cX11_house 56 = .ok (.aload_n 0, 1) := by decide +kernel
theorem dX11_house_57 : decode cX11_house 57 = .ok (.getfield 33, 3) := by decide +kernel
theorem dX11_house_60 : decode cX11_house 60 = .ok (.getfield 196, 3) := by decide +kernel
theorem dX11_house_63 : decode cX11_house 63 = .ok (.iload_n 1, 1) := by decide +kernel
theorem dX11_house_64 : decode cX11_house 64 = .ok (.iaload, 1) := by decide +kernel
theorem dX11_house_65 : decode cX11_house 65 = .ok (.ireturn, 1) := by decide +kernel
theorem dX11_house_66 : decode cX11_house 66 = .ok (.aload_n 0, 1) := by decide +kernel
theorem dX11_house_67 : decode cX11_house 67 = .ok (.getfield 33, 3) := by decide +kernel
theorem dX11_house_70 : decode cX11_house 70 = .ok (.getfield 199, 3) := by decide +kernel
theorem dX11_house_73 : decode cX11_house 73 = .ok (.iload_n 1, 1) := by decide +kernel
theorem dX11_house_74 : decode cX11_house 74 = .ok (.iaload, 1) := by decide +kernel
theorem dX11_house_75 : decode cX11_house 75 = .ok (.ireturn, 1) := by decide +kernel
theorem dX11_house_76 : decode cX11_house 76 = .ok (.aload_n 0, 1) := by decide +kernel
theorem dX11_house_77 : decode cX11_house 77 = .ok (.getfield 33, 3) := by decide +kernel
theorem dX11_house_80 : decode cX11_house 80 = .ok (.getfield 202, 3) := by decide +kernel
theorem dX11_house_83 : decode cX11_house 83 = .ok (.iload_n 1, 1) := by decide +kernel
theorem dX11_house_84 : decode cX11_house 84 = .ok (.iaload, 1) := by decide +kernel
theorem dX11_house_85 : decode cX11_house 85 = .ok (.ireturn, 1) := by decide +kernel
theorem dX11_house_86 : decode cX11_house 86 = .ok (.aload_n 0, 1) := by decide +kernel
theorem dX11_house_87 : decode cX11_house 87 = .ok (.getfield 33, 3) := by decide +kernel
theorem dX11_house_90 : decode cX11_house 90 = .ok (.getfield 205, 3) := by decide +kernel
theorem dX11_house_93 : decode cX11_house 93 = .ok (.iload_n 1, 1) := by decide +kernel
theorem dX11_house_94 : decode cX11_house 94 = .ok (.iaload, 1) := by decide +kernel
theorem dX11_house_95 : decode cX11_house 95 = .ok (.ireturn, 1) := by decide +kernel
theorem dX11_house_96 : decode cX11_house 96 = .ok (.aload_n 0, 1) := by decide +kernel
theorem dX11_house_97 : decode cX11_house 97 = .ok (.getfield 33, 3) := by decide +kernel
theorem dX11_house_100 : decode cX11_house 100 = .ok (.iload_n 1, 1) := by decide +kernel
theorem dX11_house_101 : decode cX11_house 101 = .ok (.invokevirtual 208, 3) := by decide +kernel
theorem dX11_house_104 : decode cX11_house 104 = .ok (.ireturn, 1) := by decide +kernel
theorem dX11_house_105 : decode cX11_house 105 = .ok (.aload_n 0, 1) := by decide +kernel
theorem dX11_house_106 : decode cX11_house 106 = .ok (.getfield 33, 3) := by decide +kernel
theorem dX11_house_109 : decode cX11_house 109 = .ok (.aload_n 0, 1) := by decide +kernel
theorem dX11_house_110 : decode cX11_house 110 = .ok (.getfield 40, 3) := by decide +kernel
theorem dX11_house_113 : decode cX11_house 113 = .ok (.iload_n 1, 1) := by decide +kernel
theorem dX11_house_114 : decode cX11_house 114 = .ok (.invokevirtual 211, 3) := by decide +kernel
theorem dX11_house_117 : decode cX11_house 117 = .ok (.ireturn, 1) := by decide +kernel
theorem dX11_house_118 : decode cX11_house 118 = .ok (.aload_n 0, 1) := by decide +kernel
theorem dX11_house_119 : decode cX11_house 119 = .ok (.getfield 33, 3) := by decide +kernel
theorem dX11_house_122 : decode cX11_house 122 = .ok (.aload_n 0, 1) := by decide +kernel
theorem dX11_house_123 : decode cX11_house 123 = .ok (.getfield 40, 3) := by decide +kernel
theorem dX11_house_126 : decode cX11_house 126 = .ok (.iload_n 1, 1) := by decide +kernel
theorem dX11_house_127 : decode cX11_house 127 = .ok (.invokevirtual 214, 3) := by decide +kernel
theorem dX11_house_130 : decode cX11_house 130 = .ok (.ireturn, 1) := by decide +kernel
theorem dX11_house_131 : decode cX11_house 131 = .ok (.aload_n 0, 1) := by decide +kernel
theorem dX11_house_132 : decode cX11_house 132 = .ok (.getfield 33, 3) := by decide +kernel
theorem dX11_house_135 : decode cX11_house 135 = .ok (.iload_n 1, 1) := by decide +kernel
theorem dX11_house_136 : decode cX11_house 136 = .ok (.invokevirtual 217, 3) := by decide +kernel
theorem dX11_house_139 : decode cX11_house 139 = .ok (.ireturn, 1) := by decide +kernel
theorem dX11_house_140 : decode cX11_house 140 = .ok (.aload_n 0, 1) := by decide +kernel
theorem dX11_house_141 : decode cX11_house 141 = .ok (.getfield 33, 3) := by decide +kernel
theorem dX11_house_144 : decode cX11_house 144 = .ok (.iload_n 1, 1) := by decide +kernel
theorem dX11_house_145 : decode cX11_house 145 = .ok (.invokevirtual 220, 3) := by decide +kernel
theorem dX11_house_148 : decode cX11_house 148 = .ok (.ireturn, 1) := by decide +kernel
theorem dX11_house_149 : decode cX11_house 149 = .ok (.new 190, 3) := by decide +kernel
theorem dX11_house_152 : decode cX11_house 152 = .ok (.dup, 1) := by decide +kernel
theorem dX11_house_153 : decode cX11_house 153 = .ok (.invokespecial 192, 3) := by decide +kernel
theorem dX11_house_156 : decode cX11_house 156 = .ok (.athrow, 1) := by decide +kernel
theorem dX11_thing_0 : decode cX11_thing 0 = .ok (.aload_n 0, 1) := by decide +kernel
theorem dX11_thing_1 : decode cX11_thing 1 = .ok (.iload_n 1, 1) := by decide +kernel
theorem dX11_thing_2 : decode cX11_thing 2 = .ok (.invokevirtual 223, 3) := by decide +kernel
theorem dX11_thing_5 : decode cX11_thing 5 = .ok (.iload_n 2, 1) := by decide +kernel
theorem dX11_thing_6 : decode cX11_thing 6 = .ok (.tableswitch 56 0 2 #[26, 36, 46], 26) := by decide +kernel
theorem dX11_thing_32 : decode cX11_thing 32 = .ok (.aload_n 0, 1) := by decide +kernel
theorem dX11_thing_33 : decode cX11_thing 33 = .ok (.getfield 33, 3) := by decide +kernel
theorem dX11_thing_36 : decode cX11_thing 36 = .ok (.getfield 226, 3) := by decide +kernel
theorem dX11_thing_39 : decode cX11_thing 39 = .ok (.iload_n 1, 1) := by decide +kernel
theorem dX11_thing_40 : decode cX11_thing 40 = .ok (.iaload, 1) := by decide +kernel
theorem dX11_thing_41 : decode cX11_thing 41 = .ok (.ireturn, 1) := by decide +kernel
theorem dX11_thing_42 : decode cX11_thing 42 = .ok (.aload_n 0, 1) := by decide +kernel
theorem dX11_thing_43 : decode cX11_thing 43 = .ok (.getfield 33, 3) := by decide +kernel
theorem dX11_thing_46 : decode cX11_thing 46 = .ok (.getfield 229, 3) := by decide +kernel
theorem dX11_thing_49 : decode cX11_thing 49 = .ok (.iload_n 1, 1) := by decide +kernel
theorem dX11_thing_50 : decode cX11_thing 50 = .ok (.iaload, 1) := by decide +kernel
theorem dX11_thing_51 : decode cX11_thing 51 = .ok (.ireturn, 1) := by decide +kernel
theorem dX11_thing_52 : decode cX11_thing 52 = .ok (.aload_n 0, 1) := by decide +kernel
theorem dX11_thing_53 : decode cX11_thing 53 = .ok (.getfield 33, 3) := by decide +kernel
theorem dX11_thing_56 : decode cX11_thing 56 = .ok (.getfield 232, 3) := by decide +kernel
theorem dX11_thing_59 : decode cX11_thing 59 = .ok (.iload_n 1, 1) := by decide +kernel
theorem dX11_thing_60 : decode cX11_thing 60 = .ok (.iaload, 1) := by decide +kernel
theorem dX11_thing_61 : decode cX11_thing 61 = .ok (.ireturn, 1) := by decide +kernel
theorem dX11_thing_62 : decode cX11_thing 62 = .ok (.new 190, 3) := by decide +kernel
theorem dX11_thing_65 : decode cX11_thing 65 = .ok (.dup, 1) := by decide +kernel
theorem dX11_thing_66 : decode cX11_thing 66 = .ok (.invokespecial 192, 3) := by decide +kernel
theorem dX11_thing_69 : decode cX11_thing 69 = .ok (.athrow, 1) := by decide +kernel
theorem dX11_carry_0 : decode cX11_carry 0 = .ok (.aload_n 0, 1) := by decide +kernel
theorem dX11_carry_1 : decode cX11_carry 1 = .ok (.iload_n 1, 1) := by decide +kernel
theorem dX11_carry_2 : decode cX11_carry 2 = .ok (.invokevirtual 223, 3) := by decide +kernel
theorem dX11_carry_5 : decode cX11_carry 5 = .ok (.aload_n 0, 1) := by decide +kernel
theorem dX11_carry_6 : decode cX11_carry 6 = .ok (.iload_n 2, 1) := by decide +kernel
theorem dX11_carry_7 : decode cX11_carry 7 = .ok (.invokevirtual 193, 3) := by decide +kernel
theorem dX11_carry_10 : decode cX11_carry 10 = .ok (.aload_n 0, 1) := by decide +kernel
theorem dX11_carry_11 : decode cX11_carry 11 = .ok (.getfield 33, 3) := by decide +kernel
theorem dX11_carry_14 : decode cX11_carry 14 = .ok (.getfield 232, 3) := by decide +kernel
theorem dX11_carry_17 : decode cX11_carry 17 = .ok (.iload_n 1, 1) := by decide +kernel
theorem dX11_carry_18 : decode cX11_carry 18 = .ok (.iaload, 1) := by decide +kernel
theorem dX11_carry_19 : decode cX11_carry 19 = .ok (.istore_n 3, 1) := by decide +kernel
theorem dX11_carry_20 : decode cX11_carry 20 = .ok (.iload_n 3, 1) := by decide +kernel
theorem dX11_carry_21 : decode cX11_carry 21 = .ok (.iconst (-1), 1) := by decide +kernel
theorem dX11_carry_22 : decode cX11_carry 22 = .ok (.if_icmp .ne 11, 3) := by decide +kernel
theorem dX11_carry_25 : decode cX11_carry 25 = .ok (.new 235, 3) := by decide +kernel
theorem dX11_carry_28 : decode cX11_carry 28 = .ok (.dup, 1) := by decide +kernel
theorem dX11_carry_29 : decode cX11_carry 29 = .ok (.invokespecial 237, 3) := by decide +kernel
theorem dX11_carry_32 : decode cX11_carry 32 = .ok (.athrow, 1) := by decide +kernel
theorem dX11_carry_33 : decode cX11_carry 33 = .ok (.aload_n 0, 1) := by decide +kernel
theorem dX11_carry_34 : decode cX11_carry 34 = .ok (.getfield 88, 3) := by decide +kernel
theorem dX11_carry_37 : decode cX11_carry 37 = .ok (.aload_n 0, 1) := by decide +kernel
theorem dX11_carry_38 : decode cX11_carry 38 = .ok (.getfield 33, 3) := by decide +kernel
theorem dX11_carry_41 : decode cX11_carry 41 = .ok (.aload_n 0, 1) := by decide +kernel
theorem dX11_carry_42 : decode cX11_carry 42 = .ok (.getfield 47, 3) := by decide +kernel
theorem dX11_carry_45 : decode cX11_carry 45 = .ok (.invokevirtual 238, 3) := by decide +kernel
theorem dX11_carry_48 : decode cX11_carry 48 = .ok (.aload_n 0, 1) := by decide +kernel
theorem dX11_carry_49 : decode cX11_carry 49 = .ok (.getfield 47, 3) := by decide +kernel
theorem dX11_carry_52 : decode cX11_carry 52 = .ok (.aload_n 0, 1) := by decide +kernel
theorem dX11_carry_53 : decode cX11_carry 53 = .ok (.getfield 33, 3) := by decide +kernel
theorem dX11_carry_56 : decode cX11_carry 56 = .ok (.getfield 242, 3) := by decide +kernel
theorem dX11_carry_59 : decode cX11_carry 59 = .ok (.iload_n 1, 1) := by decide +kernel
theorem dX11_carry_60 : decode cX11_carry 60 = .ok (.iload_n 3, 1) := by decide +kernel
theorem dX11_carry_61 : decode cX11_carry 61 = .ok (.iload_n 2, 1) := by decide +kernel
theorem dX11_carry_62 : decode cX11_carry 62 = .ok (.invokevirtual 245, 3) := by decide +kernel
theorem dX11_carry_65 : decode cX11_carry 65 = .ok (.aload_n 0, 1) := by decide +kernel
theorem dX11_carry_66 : decode cX11_carry 66 = .ok (.getfield 33, 3) := by decide +kernel
theorem dX11_carry_69 : decode cX11_carry 69 = .ok (.getfield 232, 3) := by decide +kernel
theorem dX11_carry_72 : decode cX11_carry 72 = .ok (.iload_n 1, 1) := by decide +kernel
theorem dX11_carry_73 : decode cX11_carry 73 = .ok (.iload_n 2, 1) := by decide +kernel
theorem dX11_carry_74 : decode cX11_carry 74 = .ok (.iastore, 1) := by decide +kernel
theorem dX11_carry_75 : decode cX11_carry 75 = .ok (.aload_n 0, 1) := by decide +kernel
theorem dX11_carry_76 : decode cX11_carry 76 = .ok (.getfield 33, 3) := by decide +kernel
theorem dX11_carry_79 : decode cX11_carry 79 = .ok (.invokevirtual 133, 3) := by decide +kernel
theorem dX11_carry_82 : decode cX11_carry 82 = .ok (.iload_n 3, 1) := by decide +kernel
theorem dX11_carry_83 : decode cX11_carry 83 = .ok (.ireturn, 1) := by decide +kernel
theorem dX11_guests_0 : decode cX11_guests 0 = .ok (.aload_n 0, 1) := by decide +kernel
theorem dX11_guests_1 : decode cX11_guests 1 = .ok (.iload_n 1, 1) := by decide +kernel
theorem dX11_guests_2 : decode cX11_guests 2 = .ok (.invokevirtual 193, 3) := by decide +kernel
theorem dX11_guests_5 : decode cX11_guests 5 = .ok (.iload_n 2, 1) := by decide +kernel
theorem dX11_guests_6 : decode cX11_guests 6 = .ok (.iconst 0, 1) := by decide +kernel
theorem dX11_guests_7 : decode cX11_guests 7 = .ok (.bipush 9, 2) := by decide +kernel
theorem dX11_guests_9 : decode cX11_guests 9 = .ok (.invokestatic 249, 3) := by decide +kernel
theorem dX11_guests_12 : decode cX11_guests 12 = .ok (.aload_n 0, 1) := by decide +kernel
theorem dX11_guests_13 : decode cX11_guests 13 = .ok (.getfield 88, 3) := by decide +kernel
theorem dX11_guests_16 : decode cX11_guests 16 = .ok (.aload_n 0, 1) := by decide +kernel
theorem dX11_guests_17 : decode cX11_guests 17 = .ok (.getfield 33, 3) := by decide +kernel
theorem dX11_guests_20 : decode cX11_guests 20 = .ok (.aload_n 0, 1) := by decide +kernel
theorem dX11_guests_21 : decode cX11_guests 21 = .ok (.getfield 47, 3) := by decide +kernel
theorem dX11_guests_24 : decode cX11_guests 24 = .ok (.invokevirtual 238, 3) := by decide +kernel
theorem dX11_guests_27 : decode cX11_guests 27 = .ok (.aload_n 0, 1) := by decide +kernel
theorem dX11_guests_28 : decode cX11_guests 28 = .ok (.getfield 33, 3) := by decide +kernel
theorem dX11_guests_31 : decode cX11_guests 31 = .ok (.getfield 199, 3) := by decide +kernel
theorem dX11_guests_34 : decode cX11_guests 34 = .ok (.iload_n 1, 1) := by decide +kernel
theorem dX11_guests_35 : decode cX11_guests 35 = .ok (.iaload, 1) := by decide +kernel
theorem dX11_guests_36 : decode cX11_guests 36 = .ok (.istore_n 3, 1) := by decide +kernel
theorem dX11_guests_37 : decode cX11_guests 37 = .ok (.aload_n 0, 1) := by decide +kernel
theorem dX11_guests_38 : decode cX11_guests 38 = .ok (.getfield 33, 3) := by decide +kernel
theorem dX11_guests_41 : decode cX11_guests 41 = .ok (.getfield 199, 3) := by decide +kernel
theorem dX11_guests_44 : decode cX11_guests 44 = .ok (.iload_n 1, 1) := by decide +kernel
theorem dX11_guests_45 : decode cX11_guests 45 = .ok (.iload_n 2, 1) := by decide +kernel
theorem dX11_guests_46 : decode cX11_guests 46 = .ok (.iastore, 1) := by decide +kernel
theorem dX11_guests_47 : decode cX11_guests 47 = .ok (.aload_n 0, 1) := by decide +kernel
theorem dX11_guests_48 : decode cX11_guests 48 = .ok (.getfield 33, 3) := by decide +kernel
theorem dX11_guests_51 : decode cX11_guests 51 = .ok (.invokevirtual 133, 3) := by decide +kernel
theorem dX11_guests_54 : decode cX11_guests 54 = .ok (.iload_n 3, 1) := by decide +kernel
theorem dX11_guests_55 : decode cX11_guests 55 = .ok (.ireturn, 1) := by decide +kernel
theorem dX11_prop_0 : decode cX11_prop 0 = .ok (.aload_n 0, 1) := by decide +kernel
theorem dX11_prop_1 : decode cX11_prop 1 = .ok (.iload_n 1, 1) := by decide +kernel
theorem dX11_prop_2 : decode cX11_prop 2 = .ok (.invokevirtual 161, 3) := by decide +kernel
theorem dX11_prop_5 : decode cX11_prop 5 = .ok (.aload_n 0, 1) := by decide +kernel
theorem dX11_prop_6 : decode cX11_prop 6 = .ok (.getfield 88, 3) := by decide +kernel
theorem dX11_prop_9 : decode cX11_prop 9 = .ok (.aload_n 0, 1) := by decide +kernel
theorem dX11_prop_10 : decode cX11_prop 10 = .ok (.getfield 33, 3) := by decide +kernel
theorem dX11_prop_13 : decode cX11_prop 13 = .ok (.aload_n 0, 1) := by decide +kernel
theorem dX11_prop_14 : decode cX11_prop 14 = .ok (.getfield 47, 3) := by decide +kernel
theorem dX11_prop_17 : decode cX11_prop 17 = .ok (.invokevirtual 238, 3) := by decide +kernel
theorem dX11_prop_20 : decode cX11_prop 20 = .ok (.aload_n 0, 1) := by decide +kernel
theorem dX11_prop_21 : decode cX11_prop 21 = .ok (.getfield 33, 3) := by decide +kernel
theorem dX11_prop_24 : decode cX11_prop 24 = .ok (.getfield 171, 3) := by decide +kernel
theorem dX11_prop_27 : decode cX11_prop 27 = .ok (.iload_n 1, 1) := by decide +kernel
theorem dX11_prop_28 : decode cX11_prop 28 = .ok (.baload, 1) := by decide +kernel
theorem dX11_prop_29 : decode cX11_prop 29 = .ok (.istore_n 3, 1) := by decide +kernel
theorem dX11_prop_30 : decode cX11_prop 30 = .ok (.aload_n 0, 1) := by decide +kernel
theorem dX11_prop_31 : decode cX11_prop 31 = .ok (.getfield 33, 3) := by decide +kernel
theorem dX11_prop_34 : decode cX11_prop 34 = .ok (.getfield 171, 3) := by decide +kernel
theorem dX11_prop_37 : decode cX11_prop 37 = .ok (.iload_n 1, 1) := by decide +kernel
theorem dX11_prop_38 : decode cX11_prop 38 = .ok (.iload_n 2, 1) := by decide +kernel
theorem dX11_prop_39 : decode cX11_prop 39 = .ok (.bastore, 1) := by decide +kernel
theorem dX11_prop_40 : decode cX11_prop 40 = .ok (.aload_n 0, 1) := by decide +kernel
theorem dX11_prop_41 : decode cX11_prop 41 = .ok (.getfield 33, 3) := by decide +kernel
theorem dX11_prop_44 : decode cX11_prop 44 = .ok (.invokevirtual 133, 3) := by decide +kernel
theorem dX11_prop_47 : decode cX11_prop 47 = .ok (.iload_n 3, 1) := by decide +kernel
theorem dX11_prop_48 : decode cX11_prop 48 = .ok (.iload_n 2, 1) := by decide +kernel
theorem dX11_prop_49 : decode cX11_prop 49 = .ok (.if_icmp .eq 7, 3) := by decide +kernel
theorem dX11_prop_52 : decode cX11_prop 52 = .ok (.iconst 1, 1) := by decide +kernel
theorem dX11_prop_53 : decode cX11_prop 53 = .ok (.goto 4, 3) := by decide +kernel
theorem dX11_prop_56 : decode cX11_prop 56 = .ok (.iconst 0, 1) := by decide +kernel
theorem dX11_prop_57 : decode cX11_prop 57 = .ok (.ireturn, 1) := by decide +kernel
theorem dX11_mend_0 : decode cX11_mend 0 = .ok (.aload_n 0, 1) := by decide +kernel
theorem dX11_mend_1 : decode cX11_mend 1 = .ok (.iload_n 1, 1) := by decide +kernel
theorem dX11_mend_2 : decode cX11_mend 2 = .ok (.invokevirtual 161, 3) := by decide +kernel
theorem dX11_mend_5 : decode cX11_mend 5 = .ok (.aload_n 0, 1) := by decide +kernel
theorem dX11_mend_6 : decode cX11_mend 6 = .ok (.getfield 33, 3) := by decide +kernel
theorem dX11_mend_9 : decode cX11_mend 9 = .ok (.getfield 175, 3) := by decide +kernel
theorem dX11_mend_12 : decode cX11_mend 12 = .ok (.iload_n 1, 1) := by decide +kernel
theorem dX11_mend_13 : decode cX11_mend 13 = .ok (.baload, 1) := by decide +kernel
theorem dX11_mend_14 : decode cX11_mend 14 = .ok (.ifCond .ne 11, 3) := by decide +kernel
theorem dX11_mend_17 : decode cX11_mend 17 = .ok (.new 235, 3) := by decide +kernel
theorem dX11_mend_20 : decode cX11_mend 20 = .ok (.dup, 1) := by decide +kernel
theorem dX11_mend_21 : decode cX11_mend 21 = .ok (.invokespecial 237, 3) := by decide +kernel
theorem dX11_mend_24 : decode cX11_mend 24 = .ok (.athrow, 1) := by decide +kernel
theorem dX11_mend_25 : decode cX11_mend 25 = .ok (.aload_n 0, 1) := by decide +kernel
theorem dX11_mend_26 : decode cX11_mend 26 = .ok (.getfield 88, 3) := by decide +kernel
theorem dX11_mend_29 : decode cX11_mend 29 = .ok (.aload_n 0, 1) := by decide +kernel
theorem dX11_mend_30 : decode cX11_mend 30 = .ok (.getfield 33, 3) := by decide +kernel
theorem dX11_mend_33 : decode cX11_mend 33 = .ok (.aload_n 0, 1) := by decide +kernel
theorem dX11_mend_34 : decode cX11_mend 34 = .ok (.getfield 47, 3) := by decide +kernel
theorem dX11_mend_37 : decode cX11_mend 37 = .ok (.invokevirtual 238, 3) := by decide +kernel
theorem dX11_mend_40 : decode cX11_mend 40 = .ok (.aload_n 0, 1) := by decide +kernel
theorem dX11_mend_41 : decode cX11_mend 41 = .ok (.getfield 33, 3) := by decide +kernel
theorem dX11_mend_44 : decode cX11_mend 44 = .ok (.getfield 168, 3) := by decide +kernel
theorem dX11_mend_47 : decode cX11_mend 47 = .ok (.iload_n 1, 1) := by decide +kernel
theorem dX11_mend_48 : decode cX11_mend 48 = .ok (.iaload, 1) := by decide +kernel
theorem dX11_mend_49 : decode cX11_mend 49 = .ok (.istore_n 2, 1) := by decide +kernel
theorem dX11_mend_50 : decode cX11_mend 50 = .ok (.aload_n 0, 1) := by decide +kernel
theorem dX11_mend_51 : decode cX11_mend 51 = .ok (.getfield 33, 3) := by decide +kernel
theorem dX11_mend_54 : decode cX11_mend 54 = .ok (.getfield 175, 3) := by decide +kernel
theorem dX11_mend_57 : decode cX11_mend 57 = .ok (.iload_n 1, 1) := by decide +kernel
theorem dX11_mend_58 : decode cX11_mend 58 = .ok (.iconst 0, 1) := by decide +kernel
theorem dX11_mend_59 : decode cX11_mend 59 = .ok (.bastore, 1) := by decide +kernel
theorem dX11_mend_60 : decode cX11_mend 60 = .ok (.aload_n 0, 1) := by decide +kernel
theorem dX11_mend_61 : decode cX11_mend 61 = .ok (.getfield 33, 3) := by decide +kernel
theorem dX11_mend_64 : decode cX11_mend 64 = .ok (.getfield 168, 3) := by decide +kernel
theorem dX11_mend_67 : decode cX11_mend 67 = .ok (.iload_n 1, 1) := by decide +kernel
theorem dX11_mend_68 : decode cX11_mend 68 = .ok (.iconst 0, 1) := by decide +kernel
theorem dX11_mend_69 : decode cX11_mend 69 = .ok (.iastore, 1) := by decide +kernel
theorem dX11_mend_70 : decode cX11_mend 70 = .ok (.aload_n 0, 1) := by decide +kernel
theorem dX11_mend_71 : decode cX11_mend 71 = .ok (.getfield 33, 3) := by decide +kernel
theorem dX11_mend_74 : decode cX11_mend 74 = .ok (.invokevirtual 133, 3) := by decide +kernel
theorem dX11_mend_77 : decode cX11_mend 77 = .ok (.iload_n 2, 1) := by decide +kernel
theorem dX11_mend_78 : decode cX11_mend 78 = .ok (.ireturn, 1) := by decide +kernel
theorem dX11_give_0 : decode cX11_give 0 = .ok (.aload_n 0, 1) := by decide +kernel
theorem dX11_give_1 : decode cX11_give 1 = .ok (.iload_n 1, 1) := by decide +kernel
theorem dX11_give_2 : decode cX11_give 2 = .ok (.invokevirtual 193, 3) := by decide +kernel
theorem dX11_give_5 : decode cX11_give 5 = .ok (.aload_n 0, 1) := by decide +kernel
theorem dX11_give_6 : decode cX11_give 6 = .ok (.iload_n 2, 1) := by decide +kernel
theorem dX11_give_7 : decode cX11_give 7 = .ok (.invokevirtual 193, 3) := by decide +kernel
theorem dX11_give_10 : decode cX11_give 10 = .ok (.iload_n 1, 1) := by decide +kernel
theorem dX11_give_11 : decode cX11_give 11 = .ok (.iload_n 2, 1) := by decide +kernel
theorem dX11_give_12 : decode cX11_give 12 = .ok (.if_icmp .ne 11, 3) := by decide +kernel
theorem dX11_give_15 : decode cX11_give 15 = .ok (.new 127, 3) := by decide +kernel
theorem dX11_give_18 : decode cX11_give 18 = .ok (.dup, 1) := by decide +kernel
theorem dX11_give_19 : decode cX11_give 19 = .ok (.invokespecial 129, 3) := by decide +kernel
theorem dX11_give_22 : decode cX11_give 22 = .ok (.athrow, 1) := by decide +kernel
theorem dX11_give_23 : decode cX11_give 23 = .ok (.iload_n 3, 1) := by decide +kernel
theorem dX11_give_24 : decode cX11_give 24 = .ok (.iconst 1, 1) := by decide +kernel
theorem dX11_give_25 : decode cX11_give 25 = .ok (.aload_n 0, 1) := by decide +kernel
theorem dX11_give_26 : decode cX11_give 26 = .ok (.getfield 33, 3) := by decide +kernel
theorem dX11_give_29 : decode cX11_give 29 = .ok (.getfield 196, 3) := by decide +kernel
theorem dX11_give_32 : decode cX11_give 32 = .ok (.iload_n 1, 1) := by decide +kernel
theorem dX11_give_33 : decode cX11_give 33 = .ok (.iaload, 1) := by decide +kernel
theorem dX11_give_34 : decode cX11_give 34 = .ok (.invokestatic 249, 3) := by decide +kernel
theorem dX11_give_37 : decode cX11_give 37 = .ok (.aload_n 0, 1) := by decide +kernel
theorem dX11_give_38 : decode cX11_give 38 = .ok (.getfield 88, 3) := by decide +kernel
theorem dX11_give_41 : decode cX11_give 41 = .ok (.aload_n 0, 1) := by decide +kernel
theorem dX11_give_42 : decode cX11_give 42 = .ok (.getfield 33, 3) := by decide +kernel
theorem dX11_give_45 : decode cX11_give 45 = .ok (.aload_n 0, 1) := by decide +kernel
theorem dX11_give_46 : decode cX11_give 46 = .ok (.getfield 47, 3) := by decide +kernel
theorem dX11_give_49 : decode cX11_give 49 = .ok (.invokevirtual 238, 3) := by decide +kernel
theorem dX11_give_52 : decode cX11_give 52 = .ok (.aload_n 0, 1) := by decide +kernel
theorem dX11_give_53 : decode cX11_give 53 = .ok (.getfield 33, 3) := by decide +kernel
theorem dX11_give_56 : decode cX11_give 56 = .ok (.getfield 196, 3) := by decide +kernel
theorem dX11_give_59 : decode cX11_give 59 = .ok (.iload_n 1, 1) := by decide +kernel
theorem dX11_give_60 : decode cX11_give 60 = .ok (.dup2, 1) := by decide +kernel
theorem dX11_give_61 : decode cX11_give 61 = .ok (.iaload, 1) := by decide +kernel
theorem dX11_give_62 : decode cX11_give 62 = .ok (.iload_n 3, 1) := by decide +kernel
theorem dX11_give_63 : decode cX11_give 63 = .ok (.isub, 1) := by decide +kernel
theorem dX11_give_64 : decode cX11_give 64 = .ok (.iastore, 1) := by decide +kernel
theorem dX11_give_65 : decode cX11_give 65 = .ok (.aload_n 0, 1) := by decide +kernel
theorem dX11_give_66 : decode cX11_give 66 = .ok (.getfield 33, 3) := by decide +kernel
theorem dX11_give_69 : decode cX11_give 69 = .ok (.getfield 196, 3) := by decide +kernel
theorem dX11_give_72 : decode cX11_give 72 = .ok (.iload_n 2, 1) := by decide +kernel
theorem dX11_give_73 : decode cX11_give 73 = .ok (.sipush 9999, 3) := by decide +kernel
theorem dX11_give_76 : decode cX11_give 76 = .ok (.aload_n 0, 1) := by decide +kernel
theorem dX11_give_77 : decode cX11_give 77 = .ok (.getfield 33, 3) := by decide +kernel
theorem dX11_give_80 : decode cX11_give 80 = .ok (.getfield 196, 3) := by decide +kernel
theorem dX11_give_83 : decode cX11_give 83 = .ok (.iload_n 2, 1) := by decide +kernel
theorem dX11_give_84 : decode cX11_give 84 = .ok (.iaload, 1) := by decide +kernel
theorem dX11_give_85 : decode cX11_give 85 = .ok (.iload_n 3, 1) := by decide +kernel
theorem dX11_give_86 : decode cX11_give 86 = .ok (.iadd, 1) := by decide +kernel
theorem dX11_give_87 : decode cX11_give 87 = .ok (.invokestatic 253, 3) := by decide +kernel
theorem dX11_give_90 : decode cX11_give 90 = .ok (.iastore, 1) := by decide +kernel
theorem dX11_give_91 : decode cX11_give 91 = .ok (.aload_n 0, 1) := by decide +kernel
theorem dX11_give_92 : decode cX11_give 92 = .ok (.getfield 33, 3) := by decide +kernel
theorem dX11_give_95 : decode cX11_give 95 = .ok (.getfield 196, 3) := by decide +kernel
theorem dX11_give_98 : decode cX11_give 98 = .ok (.iload_n 2, 1) := by decide +kernel
theorem dX11_give_99 : decode cX11_give 99 = .ok (.iaload, 1) := by decide +kernel
theorem dX11_give_100 : decode cX11_give 100 = .ok (.ireturn, 1) := by decide +kernel
theorem dX11_sweep_0 : decode cX11_sweep 0 = .ok (.aload_n 0, 1) := by decide +kernel
theorem dX11_sweep_1 : decode cX11_sweep 1 = .ok (.getfield 88, 3) := by decide +kernel
theorem dX11_sweep_4 : decode cX11_sweep 4 = .ok (.aload_n 0, 1) := by decide +kernel
theorem dX11_sweep_5 : decode cX11_sweep 5 = .ok (.getfield 33, 3) := by decide +kernel
theorem dX11_sweep_8 : decode cX11_sweep 8 = .ok (.aload_n 0, 1) := by decide +kernel
theorem dX11_sweep_9 : decode cX11_sweep 9 = .ok (.getfield 47, 3) := by decide +kernel
theorem dX11_sweep_12 : decode cX11_sweep 12 = .ok (.invokevirtual 238, 3) := by decide +kernel
theorem dX11_sweep_15 : decode cX11_sweep 15 = .ok (.aload_n 0, 1) := by decide +kernel
theorem dX11_sweep_16 : decode cX11_sweep 16 = .ok (.getfield 33, 3) := by decide +kernel
theorem dX11_sweep_19 : decode cX11_sweep 19 = .ok (.getfield 259, 3) := by decide +kernel
theorem dX11_sweep_22 : decode cX11_sweep 22 = .ok (.istore_n 1, 1) := by decide +kernel
theorem dX11_sweep_23 : decode cX11_sweep 23 = .ok (.aload_n 0, 1) := by decide +kernel
theorem dX11_sweep_24 : decode cX11_sweep 24 = .ok (.getfield 33, 3) := by decide +kernel
theorem dX11_sweep_27 : decode cX11_sweep 27 = .ok (.iconst 0, 1) := by decide +kernel
theorem dX11_sweep_28 : decode cX11_sweep 28 = .ok (.putfield 259, 3) := by decide +kernel
theorem dX11_sweep_31 : decode cX11_sweep 31 = .ok (.aload_n 0, 1) := by decide +kernel
theorem dX11_sweep_32 : decode cX11_sweep 32 = .ok (.getfield 33, 3) := by decide +kernel
theorem dX11_sweep_35 : decode cX11_sweep 35 = .ok (.invokevirtual 133, 3) := by decide +kernel
theorem dX11_sweep_38 : decode cX11_sweep 38 = .ok (.iload_n 1, 1) := by decide +kernel
theorem dX11_sweep_39 : decode cX11_sweep 39 = .ok (.ireturn, 1) := by decide +kernel
theorem dX11_weeks_0 : decode cX11_weeks 0 = .ok (.iload_n 1, 1) := by decide +kernel
theorem dX11_weeks_1 : decode cX11_weeks 1 = .ok (.iconst 1, 1) := by decide +kernel
theorem dX11_weeks_2 : decode cX11_weeks 2 = .ok (.bipush 60, 2) := by decide +kernel
theorem dX11_weeks_4 : decode cX11_weeks 4 = .ok (.invokestatic 249, 3) := by decide +kernel
theorem dX11_weeks_7 : decode cX11_weeks 7 = .ok (.aload_n 0, 1) := by decide +kernel
theorem dX11_weeks_8 : decode cX11_weeks 8 = .ok (.getfield 88, 3) := by decide +kernel
theorem dX11_weeks_11 : decode cX11_weeks 11 = .ok (.aload_n 0, 1) := by decide +kernel
theorem dX11_weeks_12 : decode cX11_weeks 12 = .ok (.getfield 33, 3) := by decide +kernel
theorem dX11_weeks_15 : decode cX11_weeks 15 = .ok (.aload_n 0, 1) := by decide +kernel
theorem dX11_weeks_16 : decode cX11_weeks 16 = .ok (.getfield 47, 3) := by decide +kernel
theorem dX11_weeks_19 : decode cX11_weeks 19 = .ok (.invokevirtual 238, 3) := by decide +kernel
theorem dX11_weeks_22 : decode cX11_weeks 22 = .ok (.iconst 0, 1) := by decide +kernel
theorem dX11_weeks_23 : decode cX11_weeks 23 = .ok (.istore_n 2, 1) := by decide +kernel
theorem dX11_weeks_24 : decode cX11_weeks 24 = .ok (.iconst 0, 1) := by decide +kernel
theorem dX11_weeks_25 : decode cX11_weeks 25 = .ok (.istore_n 3, 1) := by decide +kernel
theorem dX11_weeks_26 : decode cX11_weeks 26 = .ok (.iload_n 3, 1) := by decide +kernel
theorem dX11_weeks_27 : decode cX11_weeks 27 = .ok (.iload_n 1, 1) := by decide +kernel
theorem dX11_weeks_28 : decode cX11_weeks 28 = .ok (.if_icmp .ge 27, 3) := by decide +kernel
theorem dX11_weeks_31 : decode cX11_weeks 31 = .ok (.iload_n 2, 1) := by decide +kernel
theorem dX11_weeks_32 : decode cX11_weeks 32 = .ok (.aload_n 0, 1) := by decide +kernel
theorem dX11_weeks_33 : decode cX11_weeks 33 = .ok (.getfield 33, 3) := by decide +kernel
theorem dX11_weeks_36 : decode cX11_weeks 36 = .ok (.aload_n 0, 1) := by decide +kernel
theorem dX11_weeks_37 : decode cX11_weeks 37 = .ok (.getfield 40, 3) := by decide +kernel
theorem dX11_weeks_40 : decode cX11_weeks 40 = .ok (.aload_n 0, 1) := by decide +kernel
theorem dX11_weeks_41 : decode cX11_weeks 41 = .ok (.getfield 47, 3) := by decide +kernel
theorem dX11_weeks_44 : decode cX11_weeks 44 = .ok (.invokevirtual 262, 3) := by decide +kernel
theorem dX11_weeks_47 : decode cX11_weeks 47 = .ok (.iadd, 1) := by decide +kernel
theorem dX11_weeks_48 : decode cX11_weeks 48 = .ok (.istore_n 2, 1) := by decide +kernel
theorem dX11_weeks_49 : decode cX11_weeks 49 = .ok (.iinc 3 1, 3) := by decide +kernel
theorem dX11_weeks_52 : decode cX11_weeks 52 = .ok (.goto (-26), 3) := by decide +kernel
theorem dX11_weeks_55 : decode cX11_weeks 55 = .ok (.iload_n 2, 1) := by decide +kernel
theorem dX11_weeks_56 : decode cX11_weeks 56 = .ok (.ireturn, 1) := by decide +kernel
theorem dX11_view_0 : decode cX11_view 0 = .ok (.iconst 0, 1) := by decide +kernel
theorem dX11_view_1 : decode cX11_view 1 = .ok (.istore_n 1, 1) := by decide +kernel
theorem dX11_view_2 : decode cX11_view 2 = .ok (.iconst 0, 1) := by decide +kernel
theorem dX11_view_3 : decode cX11_view 3 = .ok (.istore_n 2, 1) := by decide +kernel
theorem dX11_view_4 : decode cX11_view 4 = .ok (.iload_n 2, 1) := by decide +kernel
theorem dX11_view_5 : decode cX11_view 5 = .ok (.aload_n 0, 1) := by decide +kernel
theorem dX11_view_6 : decode cX11_view 6 = .ok (.getfield 33, 3) := by decide +kernel
theorem dX11_view_9 : decode cX11_view 9 = .ok (.invokevirtual 155, 3) := by decide +kernel
theorem dX11_view_12 : decode cX11_view 12 = .ok (.if_icmp .ge 28, 3) := by decide +kernel
theorem dX11_view_15 : decode cX11_view 15 = .ok (.aload_n 0, 1) := by decide +kernel
theorem dX11_view_16 : decode cX11_view 16 = .ok (.getfield 33, 3) := by decide +kernel
theorem dX11_view_19 : decode cX11_view 19 = .ok (.getfield 205, 3) := by decide +kernel
theorem dX11_view_22 : decode cX11_view 22 = .ok (.iload_n 2, 1) := by decide +kernel
theorem dX11_view_23 : decode cX11_view 23 = .ok (.iaload, 1) := by decide +kernel
theorem dX11_view_24 : decode cX11_view 24 = .ok (.iconst 5, 1) := by decide +kernel
theorem dX11_view_25 : decode cX11_view 25 = .ok (.if_icmp .le 9, 3) := by decide +kernel
theorem dX11_view_28 : decode cX11_view 28 = .ok (.iload_n 1, 1) := by decide +kernel
theorem dX11_view_29 : decode cX11_view 29 = .ok (.iconst 1, 1) := by decide +kernel
theorem dX11_view_30 : decode cX11_view 30 = .ok (.iload_n 2, 1) := by decide +kernel
theorem dX11_view_31 : decode cX11_view 31 = .ok (.ishl, 1) := by decide +kernel
theorem dX11_view_32 : decode cX11_view 32 = .ok (.ior, 1) := by decide +kernel
theorem dX11_view_33 : decode cX11_view 33 = .ok (.istore_n 1, 1) := by decide +kernel
theorem dX11_view_34 : decode cX11_view 34 = .ok (.iinc 2 1, 3) := by decide +kernel
theorem dX11_view_37 : decode cX11_view 37 = .ok (.goto (-33), 3) := by decide +kernel
theorem dX11_view_40 : decode cX11_view 40 = .ok (.iload_n 1, 1) := by decide +kernel
theorem dX11_view_41 : decode cX11_view 41 = .ok (.ireturn, 1) := by decide +kernel
theorem dX11_well_0 : decode cX11_well 0 = .ok (.iconst 0, 1) := by decide +kernel
theorem dX11_well_1 : decode cX11_well 1 = .ok (.istore_n 1, 1) := by decide +kernel
theorem dX11_well_2 : decode cX11_well 2 = .ok (.iconst 0, 1) := by decide +kernel
theorem dX11_well_3 : decode cX11_well 3 = .ok (.istore_n 2, 1) := by decide +kernel
theorem dX11_well_4 : decode cX11_well 4 = .ok (.iload_n 2, 1) := by decide +kernel
theorem dX11_well_5 : decode cX11_well 5 = .ok (.aload_n 0, 1) := by decide +kernel
theorem dX11_well_6 : decode cX11_well 6 = .ok (.getfield 33, 3) := by decide +kernel
theorem dX11_well_9 : decode cX11_well 9 = .ok (.invokevirtual 155, 3) := by decide +kernel
theorem dX11_well_12 : decode cX11_well 12 = .ok (.if_icmp .ge 28, 3) := by decide +kernel
theorem dX11_well_15 : decode cX11_well 15 = .ok (.aload_n 0, 1) := by decide +kernel
theorem dX11_well_16 : decode cX11_well 16 = .ok (.getfield 33, 3) := by decide +kernel
theorem dX11_well_19 : decode cX11_well 19 = .ok (.getfield 205, 3) := by decide +kernel
theorem dX11_well_22 : decode cX11_well 22 = .ok (.iload_n 2, 1) := by decide +kernel
theorem dX11_well_23 : decode cX11_well 23 = .ok (.iaload, 1) := by decide +kernel
theorem dX11_well_24 : decode cX11_well 24 = .ok (.iconst 5, 1) := by decide +kernel
theorem dX11_well_25 : decode cX11_well 25 = .ok (.if_icmp .ge 9, 3) := by decide +kernel
theorem dX11_well_28 : decode cX11_well 28 = .ok (.iload_n 1, 1) := by decide +kernel
theorem dX11_well_29 : decode cX11_well 29 = .ok (.iconst 1, 1) := by decide +kernel
theorem dX11_well_30 : decode cX11_well 30 = .ok (.iload_n 2, 1) := by decide +kernel
theorem dX11_well_31 : decode cX11_well 31 = .ok (.ishl, 1) := by decide +kernel
theorem dX11_well_32 : decode cX11_well 32 = .ok (.ior, 1) := by decide +kernel
theorem dX11_well_33 : decode cX11_well 33 = .ok (.istore_n 1, 1) := by decide +kernel
theorem dX11_well_34 : decode cX11_well 34 = .ok (.iinc 2 1, 3) := by decide +kernel
theorem dX11_well_37 : decode cX11_well 37 = .ok (.goto (-33), 3) := by decide +kernel
theorem dX11_well_40 : decode cX11_well 40 = .ok (.iload_n 1, 1) := by decide +kernel
theorem dX11_well_41 : decode cX11_well 41 = .ok (.ireturn, 1) := by decide +kernel
theorem dX11_twins_0 : decode cX11_twins 0 = .ok (.iconst 0, 1) := by decide +kernel
theorem dX11_twins_1 : decode cX11_twins 1 = .ok (.istore_n 1, 1) := by decide +kernel
theorem dX11_twins_2 : decode cX11_twins 2 = .ok (.iconst 0, 1) := by decide +kernel
theorem dX11_twins_3 : decode cX11_twins 3 = .ok (.istore_n 2, 1) := by decide +kernel
theorem dX11_twins_4 : decode cX11_twins 4 = .ok (.iload_n 2, 1) := by decide +kernel
theorem dX11_twins_5 : decode cX11_twins 5 = .ok (.aload_n 0, 1) := by decide +kernel
theorem dX11_twins_6 : decode cX11_twins 6 = .ok (.getfield 33, 3) := by decide +kernel
theorem dX11_twins_9 : decode cX11_twins 9 = .ok (.getfield 149, 3) := by decide +kernel
theorem dX11_twins_12 : decode cX11_twins 12 = .ok (.if_icmp .ge 88, 3) := by decide +kernel
theorem dX11_twins_15 : decode cX11_twins 15 = .ok (.iload_n 2, 1) := by decide +kernel
theorem dX11_twins_16 : decode cX11_twins 16 = .ok (.iconst 1, 1) := by decide +kernel
theorem dX11_twins_17 : decode cX11_twins 17 = .ok (.iadd, 1) := by decide +kernel
theorem dX11_twins_18 : decode cX11_twins 18 = .ok (.istore_n 3, 1) := by decide +kernel
theorem dX11_twins_19 : decode cX11_twins 19 = .ok (.iload_n 3, 1) := by decide +kernel
theorem dX11_twins_20 : decode cX11_twins 20 = .ok (.aload_n 0, 1) := by decide +kernel
theorem dX11_twins_21 : decode cX11_twins 21 = .ok (.getfield 33, 3) := by decide +kernel
theorem dX11_twins_24 : decode cX11_twins 24 = .ok (.getfield 149, 3) := by decide +kernel
theorem dX11_twins_27 : decode cX11_twins 27 = .ok (.if_icmp .ge 67, 3) := by decide +kernel
theorem dX11_twins_30 : decode cX11_twins 30 = .ok (.aload_n 0, 1) := by decide +kernel
theorem dX11_twins_31 : decode cX11_twins 31 = .ok (.getfield 33, 3) := by decide +kernel
theorem dX11_twins_34 : decode cX11_twins 34 = .ok (.getfield 175, 3) := by decide +kernel
theorem dX11_twins_37 : decode cX11_twins 37 = .ok (.iload_n 2, 1) := by decide +kernel
theorem dX11_twins_38 : decode cX11_twins 38 = .ok (.baload, 1) := by decide +kernel
theorem dX11_twins_39 : decode cX11_twins 39 = .ok (.ifCond .ne 19, 3) := by decide +kernel
theorem dX11_twins_42 : decode cX11_twins 42 = .ok (.aload_n 0, 1) := by decide +kernel
theorem dX11_twins_43 : decode cX11_twins 43 = .ok (.getfield 33, 3) := by decide +kernel
theorem dX11_twins_46 : decode cX11_twins 46 = .ok (.getfield 175, 3) := by decide +kernel
theorem dX11_twins_49 : decode cX11_twins 49 = .ok (.iload_n 3, 1) := by decide +kernel
theorem dX11_twins_50 : decode cX11_twins 50 = .ok (.baload, 1) := by decide +kernel
theorem dX11_twins_51 : decode cX11_twins 51 = .ok (.ifCond .ne 7, 3) := by decide +kernel
theorem dX11_twins_54 : decode cX11_twins 54 = .ok (.iconst 1, 1) := by decide +kernel
theorem dX11_twins_55 : decode cX11_twins 55 = .ok (.goto 4, 3) := by decide +kernel
theorem dX11_twins_58 : decode cX11_twins 58 = .ok (.iconst 0, 1) := by decide +kernel
theorem dX11_twins_59 : decode cX11_twins 59 = .ok (.istore 4, 2) := by decide +kernel
theorem dX11_twins_61 : decode cX11_twins 61 = .ok (.iload 4, 2) := by decide +kernel
theorem dX11_twins_63 : decode cX11_twins 63 = .ok (.ifCond .eq 25, 3) := by decide +kernel
theorem dX11_twins_66 : decode cX11_twins 66 = .ok (.aload_n 0, 1) := by decide +kernel
theorem dX11_twins_67 : decode cX11_twins 67 = .ok (.getfield 33, 3) := by decide +kernel
theorem dX11_twins_70 : decode cX11_twins 70 = .ok (.iload_n 2, 1) := by decide +kernel
theorem dX11_twins_71 : decode cX11_twins 71 = .ok (.invokevirtual 178, 3) := by decide +kernel
theorem dX11_twins_74 : decode cX11_twins 74 = .ok (.aload_n 0, 1) := by decide +kernel
theorem dX11_twins_75 : decode cX11_twins 75 = .ok (.getfield 33, 3) := by decide +kernel
theorem dX11_twins_78 : decode cX11_twins 78 = .ok (.iload_n 3, 1) := by decide +kernel
theorem dX11_twins_79 : decode cX11_twins 79 = .ok (.invokevirtual 178, 3) := by decide +kernel
theorem dX11_twins_82 : decode cX11_twins 82 = .ok (.if_icmp .ne 6, 3) := by decide +kernel
theorem dX11_twins_85 : decode cX11_twins 85 = .ok (.iinc 1 1, 3) := by decide +kernel
theorem dX11_twins_88 : decode cX11_twins 88 = .ok (.iinc 3 1, 3) := by decide +kernel
theorem dX11_twins_91 : decode cX11_twins 91 = .ok (.goto (-72), 3) := by decide +kernel
theorem dX11_twins_94 : decode cX11_twins 94 = .ok (.iinc 2 1, 3) := by decide +kernel
theorem dX11_twins_97 : decode cX11_twins 97 = .ok (.goto (-93), 3) := by decide +kernel
theorem dX11_twins_100 : decode cX11_twins 100 = .ok (.iload_n 1, 1) := by decide +kernel
theorem dX11_twins_101 : decode cX11_twins 101 = .ok (.ireturn, 1) := by decide +kernel
theorem dX11_best_0 : decode cX11_best 0 = .ok (.aload_n 0, 1) := by decide +kernel
theorem dX11_best_1 : decode cX11_best 1 = .ok (.iload_n 1, 1) := by decide +kernel
theorem dX11_best_2 : decode cX11_best 2 = .ok (.invokevirtual 161, 3) := by decide +kernel
theorem dX11_best_5 : decode cX11_best 5 = .ok (.aload_n 0, 1) := by decide +kernel
theorem dX11_best_6 : decode cX11_best 6 = .ok (.getfield 33, 3) := by decide +kernel
theorem dX11_best_9 : decode cX11_best 9 = .ok (.iload_n 1, 1) := by decide +kernel
theorem dX11_best_10 : decode cX11_best 10 = .ok (.invokestatic 266, 3) := by decide +kernel
theorem dX11_best_13 : decode cX11_best 13 = .ok (.ireturn, 1) := by decide +kernel
theorem dX11_stand_0 : decode cX11_stand 0 = .ok (.aload_n 0, 1) := by decide +kernel
theorem dX11_stand_1 : decode cX11_stand 1 = .ok (.iload_n 1, 1) := by decide +kernel
theorem dX11_stand_2 : decode cX11_stand 2 = .ok (.invokevirtual 161, 3) := by decide +kernel
theorem dX11_stand_5 : decode cX11_stand 5 = .ok (.iload_n 2, 1) := by decide +kernel
theorem dX11_stand_6 : decode cX11_stand 6 = .ok (.bipush (-5), 2) := by decide +kernel
theorem dX11_stand_8 : decode cX11_stand 8 = .ok (.iconst 5, 1) := by decide +kernel
theorem dX11_stand_9 : decode cX11_stand 9 = .ok (.invokestatic 249, 3) := by decide +kernel
theorem dX11_stand_12 : decode cX11_stand 12 = .ok (.aload_n 0, 1) := by decide +kernel
theorem dX11_stand_13 : decode cX11_stand 13 = .ok (.getfield 33, 3) := by decide +kernel
theorem dX11_stand_16 : decode cX11_stand 16 = .ok (.iload_n 1, 1) := by decide +kernel
theorem dX11_stand_17 : decode cX11_stand 17 = .ok (.iload_n 2, 1) := by decide +kernel
theorem dX11_stand_18 : decode cX11_stand 18 = .ok (.iconst 0, 1) := by decide +kernel
theorem dX11_stand_19 : decode cX11_stand 19 = .ok (.invokestatic 272, 3) := by decide +kernel
theorem dX11_stand_22 : decode cX11_stand 22 = .ok (.ireturn, 1) := by decide +kernel
theorem dX11_heave_0 : decode cX11_heave 0 = .ok (.aload_n 0, 1) := by decide +kernel
theorem dX11_heave_1 : decode cX11_heave 1 = .ok (.iload_n 1, 1) := by decide +kernel
theorem dX11_heave_2 : decode cX11_heave 2 = .ok (.invokevirtual 161, 3) := by decide +kernel
theorem dX11_heave_5 : decode cX11_heave 5 = .ok (.iload_n 2, 1) := by decide +kernel
theorem dX11_heave_6 : decode cX11_heave 6 = .ok (.bipush (-5), 2) := by decide +kernel
theorem dX11_heave_8 : decode cX11_heave 8 = .ok (.iconst 5, 1) := by decide +kernel
theorem dX11_heave_9 : decode cX11_heave 9 = .ok (.invokestatic 249, 3) := by decide +kernel
theorem dX11_heave_12 : decode cX11_heave 12 = .ok (.aload_n 0, 1) := by decide +kernel
theorem dX11_heave_13 : decode cX11_heave 13 = .ok (.getfield 33, 3) := by decide +kernel
theorem dX11_heave_16 : decode cX11_heave 16 = .ok (.iload_n 1, 1) := by decide +kernel
theorem dX11_heave_17 : decode cX11_heave 17 = .ok (.iload_n 2, 1) := by decide +kernel
theorem dX11_heave_18 : decode cX11_heave 18 = .ok (.iconst 1, 1) := by decide +kernel
theorem dX11_heave_19 : decode cX11_heave 19 = .ok (.invokestatic 272, 3) := by decide +kernel
theorem dX11_heave_22 : decode cX11_heave 22 = .ok (.istore 4, 2) := by decide +kernel
theorem dX11_heave_24 : decode cX11_heave 24 = .ok (.iload_n 3, 1) := by decide +kernel
theorem dX11_heave_25 : decode cX11_heave 25 = .ok (.ifCond .eq 21, 3) := by decide +kernel
theorem dX11_heave_28 : decode cX11_heave 28 = .ok (.iload 4, 2) := by decide +kernel
theorem dX11_heave_30 : decode cX11_heave 30 = .ok (.iconst (-1), 1) := by decide +kernel
theorem dX11_heave_31 : decode cX11_heave 31 = .ok (.if_icmp .eq 15, 3) := by decide +kernel
theorem dX11_heave_34 : decode cX11_heave 34 = .ok (.aload_n 0, 1) := by decide +kernel
theorem dX11_heave_35 : decode cX11_heave 35 = .ok (.getfield 33, 3) := by decide +kernel
theorem dX11_heave_38 : decode cX11_heave 38 = .ok (.iload 4, 2) := by decide +kernel
theorem dX11_heave_40 : decode cX11_heave 40 = .ok (.invokevirtual 276, 3) := by decide +kernel
theorem dX11_heave_43 : decode cX11_heave 43 = .ok (.goto 5, 3) := by decide +kernel
theorem dX11_heave_46 : decode cX11_heave 46 = .ok (.iload 4, 2) := by decide +kernel
theorem dX11_heave_48 : decode cX11_heave 48 = .ok (.ireturn, 1) := by decide +kernel
theorem dX11_breaks_0 : decode cX11_breaks 0 = .ok (.aload_n 0, 1) := by decide +kernel
theorem dX11_breaks_1 : decode cX11_breaks 1 = .ok (.iload_n 1, 1) := by decide +kernel
theorem dX11_breaks_2 : decode cX11_breaks 2 = .ok (.invokevirtual 161, 3) := by decide +kernel
theorem dX11_breaks_5 : decode cX11_breaks 5 = .ok (.aload_n 0, 1) := by decide +kernel
theorem dX11_breaks_6 : decode cX11_breaks 6 = .ok (.iload_n 1, 1) := by decide +kernel
theorem dX11_breaks_7 : decode cX11_breaks 7 = .ok (.invokevirtual 279, 3) := by decide +kernel
theorem dX11_breaks_10 : decode cX11_breaks 10 = .ok (.ireturn, 1) := by decide +kernel
theorem dX11_weeksToBreak_0 : decode cX11_weeksToBreak 0 = .ok (.aload_n 0, 1) := by decide +kernel
theorem dX11_weeksToBreak_1 : decode cX11_weeksToBreak 1 = .ok (.getfield 33, 3) := by decide +kernel
theorem dX11_weeksToBreak_4 : decode cX11_weeksToBreak 4 = .ok (.getfield 175, 3) := by decide +kernel
theorem dX11_weeksToBreak_7 : decode cX11_weeksToBreak 7 = .ok (.iload_n 1, 1) := by decide +kernel
theorem dX11_weeksToBreak_8 : decode cX11_weeksToBreak 8 = .ok (.baload, 1) := by decide +kernel
theorem dX11_weeksToBreak_9 : decode cX11_weeksToBreak 9 = .ok (.ifCond .eq 5, 3) := by decide +kernel
theorem dX11_weeksToBreak_12 : decode cX11_weeksToBreak 12 = .ok (.iconst (-1), 1) := by decide +kernel
theorem dX11_weeksToBreak_13 : decode cX11_weeksToBreak 13 = .ok (.ireturn, 1) := by decide +kernel
theorem dX11_weeksToBreak_14 : decode cX11_weeksToBreak 14 = .ok (.aload_n 0, 1) := by decide +kernel
theorem dX11_weeksToBreak_15 : decode cX11_weeksToBreak 15 = .ok (.getfield 51, 3) := by decide +kernel
theorem dX11_weeksToBreak_18 : decode cX11_weeksToBreak 18 = .ok (.aload_n 0, 1) := by decide +kernel
theorem dX11_weeksToBreak_19 : decode cX11_weeksToBreak 19 = .ok (.getfield 33, 3) := by decide +kernel
theorem dX11_weeksToBreak_22 : decode cX11_weeksToBreak 22 = .ok (.invokevirtual 120, 3) := by decide +kernel
theorem dX11_weeksToBreak_25 : decode cX11_weeksToBreak 25 = .ok (.iconst 1, 1) := by decide +kernel
theorem dX11_weeksToBreak_26 : decode cX11_weeksToBreak 26 = .ok (.istore_n 2, 1) := by decide +kernel
theorem dX11_weeksToBreak_27 : decode cX11_weeksToBreak 27 = .ok (.iload_n 2, 1) := by decide +kernel
theorem dX11_weeksToBreak_28 : decode cX11_weeksToBreak 28 = .ok (.bipush 100, 2) := by decide +kernel
theorem dX11_weeksToBreak_30 : decode cX11_weeksToBreak 30 = .ok (.if_icmp .gt 42, 3) := by decide +kernel
theorem dX11_weeksToBreak_33 : decode cX11_weeksToBreak 33 = .ok (.aload_n 0, 1) := by decide +kernel
theorem dX11_weeksToBreak_34 : decode cX11_weeksToBreak 34 = .ok (.getfield 51, 3) := by decide +kernel
theorem dX11_weeksToBreak_37 : decode cX11_weeksToBreak 37 = .ok (.aload_n 0, 1) := by decide +kernel
theorem dX11_weeksToBreak_38 : decode cX11_weeksToBreak 38 = .ok (.getfield 40, 3) := by decide +kernel
theorem dX11_weeksToBreak_41 : decode cX11_weeksToBreak 41 = .ok (.iload_n 1, 1) := by decide +kernel
theorem dX11_weeksToBreak_42 : decode cX11_weeksToBreak 42 = .ok (.invokevirtual 282, 3) := by decide +kernel
theorem dX11_weeksToBreak_45 : decode cX11_weeksToBreak 45 = .ok (.aload_n 0, 1) := by decide +kernel
theorem dX11_weeksToBreak_46 : decode cX11_weeksToBreak 46 = .ok (.getfield 51, 3) := by decide +kernel
theorem dX11_weeksToBreak_49 : decode cX11_weeksToBreak 49 = .ok (.invokevirtual 286, 3) := by decide +kernel
theorem dX11_weeksToBreak_52 : decode cX11_weeksToBreak 52 = .ok (.aload_n 0, 1) := by decide +kernel
theorem dX11_weeksToBreak_53 : decode cX11_weeksToBreak 53 = .ok (.getfield 51, 3) := by decide +kernel
theorem dX11_weeksToBreak_56 : decode cX11_weeksToBreak 56 = .ok (.getfield 175, 3) := by decide +kernel
theorem dX11_weeksToBreak_59 : decode cX11_weeksToBreak 59 = .ok (.iload_n 1, 1) := by decide +kernel
theorem dX11_weeksToBreak_60 : decode cX11_weeksToBreak 60 = .ok (.baload, 1) := by decide +kernel
theorem dX11_weeksToBreak_61 : decode cX11_weeksToBreak 61 = .ok (.ifCond .eq 5, 3) := by decide +kernel
theorem dX11_weeksToBreak_64 : decode cX11_weeksToBreak 64 = .ok (.iload_n 2, 1) := by decide +kernel
theorem dX11_weeksToBreak_65 : decode cX11_weeksToBreak 65 = .ok (.ireturn, 1) := by decide +kernel
theorem dX11_weeksToBreak_66 : decode cX11_weeksToBreak 66 = .ok (.iinc 2 1, 3) := by decide +kernel
theorem dX11_weeksToBreak_69 : decode cX11_weeksToBreak 69 = .ok (.goto (-42), 3) := by decide +kernel
theorem dX11_weeksToBreak_72 : decode cX11_weeksToBreak 72 = .ok (.iconst (-1), 1) := by decide +kernel
theorem dX11_weeksToBreak_73 : decode cX11_weeksToBreak 73 = .ok (.ireturn, 1) := by decide +kernel
theorem dX11_more_0 : decode cX11_more 0 = .ok (.aload_n 0, 1) := by decide +kernel
theorem dX11_more_1 : decode cX11_more 1 = .ok (.iload_n 1, 1) := by decide +kernel
theorem dX11_more_2 : decode cX11_more 2 = .ok (.invokevirtual 161, 3) := by decide +kernel
theorem dX11_more_5 : decode cX11_more 5 = .ok (.aload_n 0, 1) := by decide +kernel
theorem dX11_more_6 : decode cX11_more 6 = .ok (.getfield 33, 3) := by decide +kernel
theorem dX11_more_9 : decode cX11_more 9 = .ok (.getfield 175, 3) := by decide +kernel
theorem dX11_more_12 : decode cX11_more 12 = .ok (.iload_n 1, 1) := by decide +kernel
theorem dX11_more_13 : decode cX11_more 13 = .ok (.baload, 1) := by decide +kernel
theorem dX11_more_14 : decode cX11_more 14 = .ok (.ifCond .eq 9, 3) := by decide +kernel
theorem dX11_more_17 : decode cX11_more 17 = .ok (.sipush (-10000), 3) := by decide +kernel
theorem dX11_more_20 : decode cX11_more 20 = .ok (.goto 11, 3) := by decide +kernel
theorem dX11_more_23 : decode cX11_more 23 = .ok (.aload_n 0, 1) := by decide +kernel
theorem dX11_more_24 : decode cX11_more 24 = .ok (.getfield 33, 3) := by decide +kernel
theorem dX11_more_27 : decode cX11_more 27 = .ok (.iload_n 1, 1) := by decide +kernel
theorem dX11_more_28 : decode cX11_more 28 = .ok (.invokevirtual 289, 3) := by decide +kernel
theorem dX11_more_31 : decode cX11_more 31 = .ok (.ireturn, 1) := by decide +kernel
theorem dX11_last_0 : decode cX11_last 0 = .ok (.iconst (-1), 1) := by decide +kernel
theorem dX11_last_1 : decode cX11_last 1 = .ok (.istore_n 1, 1) := by decide +kernel
theorem dX11_last_2 : decode cX11_last 2 = .ok (.iconst (-1), 1) := by decide +kernel
theorem dX11_last_3 : decode cX11_last 3 = .ok (.istore_n 2, 1) := by decide +kernel
theorem dX11_last_4 : decode cX11_last 4 = .ok (.iconst 0, 1) := by decide +kernel
theorem dX11_last_5 : decode cX11_last 5 = .ok (.istore_n 3, 1) := by decide +kernel
theorem dX11_last_6 : decode cX11_last 6 = .ok (.iload_n 3, 1) := by decide +kernel
theorem dX11_last_7 : decode cX11_last 7 = .ok (.aload_n 0, 1) := by decide +kernel
theorem dX11_last_8 : decode cX11_last 8 = .ok (.getfield 33, 3) := by decide +kernel
theorem dX11_last_11 : decode cX11_last 11 = .ok (.getfield 149, 3) := by decide +kernel
theorem dX11_last_14 : decode cX11_last 14 = .ok (.if_icmp .ge 50, 3) := by decide +kernel
theorem dX11_last_17 : decode cX11_last 17 = .ok (.aload_n 0, 1) := by decide +kernel
theorem dX11_last_18 : decode cX11_last 18 = .ok (.getfield 33, 3) := by decide +kernel
theorem dX11_last_21 : decode cX11_last 21 = .ok (.getfield 175, 3) := by decide +kernel
theorem dX11_last_24 : decode cX11_last 24 = .ok (.iload_n 3, 1) := by decide +kernel
theorem dX11_last_25 : decode cX11_last 25 = .ok (.baload, 1) := by decide +kernel
theorem dX11_last_26 : decode cX11_last 26 = .ok (.ifCond .eq 6, 3) := by decide +kernel
theorem dX11_last_29 : decode cX11_last 29 = .ok (.goto 29, 3) := by decide +kernel
theorem dX11_last_32 : decode cX11_last 32 = .ok (.aload_n 0, 1) := by decide +kernel
theorem dX11_last_33 : decode cX11_last 33 = .ok (.iload_n 3, 1) := by decide +kernel
theorem dX11_last_34 : decode cX11_last 34 = .ok (.invokevirtual 279, 3) := by decide +kernel
theorem dX11_last_37 : decode cX11_last 37 = .ok (.istore 4, 2) := by decide +kernel
theorem dX11_last_39 : decode cX11_last 39 = .ok (.iload 4, 2) := by decide +kernel
theorem dX11_last_41 : decode cX11_last 41 = .ok (.iconst (-1), 1) := by decide +kernel
theorem dX11_last_42 : decode cX11_last 42 = .ok (.if_icmp .ne 5, 3) := by decide +kernel
theorem dX11_last_45 : decode cX11_last 45 = .ok (.iload_n 3, 1) := by decide +kernel
theorem dX11_last_46 : decode cX11_last 46 = .ok (.ireturn, 1) := by decide +kernel
theorem dX11_last_47 : decode cX11_last 47 = .ok (.iload 4, 2) := by decide +kernel
theorem dX11_last_49 : decode cX11_last 49 = .ok (.iload_n 2, 1) := by decide +kernel
theorem dX11_last_50 : decode cX11_last 50 = .ok (.if_icmp .le 8, 3) := by decide +kernel
theorem dX11_last_53 : decode cX11_last 53 = .ok (.iload_n 3, 1) := by decide +kernel
theorem dX11_last_54 : decode cX11_last 54 = .ok (.istore_n 1, 1) := by decide +kernel
theorem dX11_last_55 : decode cX11_last 55 = .ok (.iload 4, 2) := by decide +kernel
theorem dX11_last_57 : decode cX11_last 57 = .ok (.istore_n 2, 1) := by decide +kernel
theorem dX11_last_58 : decode cX11_last 58 = .ok (.iinc 3 1, 3) := by decide +kernel
theorem dX11_last_61 : decode cX11_last 61 = .ok (.goto (-55), 3) := by decide +kernel
theorem dX11_last_64 : decode cX11_last 64 = .ok (.iload_n 1, 1) := by decide +kernel
theorem dX11_last_65 : decode cX11_last 65 = .ok (.ireturn, 1) := by decide +kernel
theorem dX11_match_0 : decode cX11_match 0 = .ok (.iload_n 2, 1) := by decide +kernel
theorem dX11_match_1 : decode cX11_match 1 = .ok (.iconst (-1), 1) := by decide +kernel
theorem dX11_match_2 : decode cX11_match 2 = .ok (.if_icmp .eq 8, 3) := by decide +kernel
theorem dX11_match_5 : decode cX11_match 5 = .ok (.aload_n 0, 1) := by decide +kernel
theorem dX11_match_6 : decode cX11_match 6 = .ok (.iload_n 2, 1) := by decide +kernel
theorem dX11_match_7 : decode cX11_match 7 = .ok (.invokevirtual 193, 3) := by decide +kernel
theorem dX11_match_10 : decode cX11_match 10 = .ok (.iload_n 1, 1) := by decide +kernel
theorem dX11_match_11 : decode cX11_match 11 = .ok (.iconst 1, 1) := by decide +kernel
theorem dX11_match_12 : decode cX11_match 12 = .ok (.aload_n 0, 1) := by decide +kernel
theorem dX11_match_13 : decode cX11_match 13 = .ok (.getfield 33, 3) := by decide +kernel
theorem dX11_match_16 : decode cX11_match 16 = .ok (.invokevirtual 155, 3) := by decide +kernel
theorem dX11_match_19 : decode cX11_match 19 = .ok (.ishl, 1) := by decide +kernel
theorem dX11_match_20 : decode cX11_match 20 = .ok (.iconst 1, 1) := by decide +kernel
theorem dX11_match_21 : decode cX11_match 21 = .ok (.isub, 1) := by decide +kernel
theorem dX11_match_22 : decode cX11_match 22 = .ok (.iand, 1) := by decide +kernel
theorem dX11_match_23 : decode cX11_match 23 = .ok (.istore_n 3, 1) := by decide +kernel
theorem dX11_match_24 : decode cX11_match 24 = .ok (.iload_n 3, 1) := by decide +kernel
theorem dX11_match_25 : decode cX11_match 25 = .ok (.invokestatic 292, 3) := by decide +kernel
theorem dX11_match_28 : decode cX11_match 28 = .ok (.istore 4, 2) := by decide +kernel
theorem dX11_match_30 : decode cX11_match 30 = .ok (.iload 4, 2) := by decide +kernel
theorem dX11_match_32 : decode cX11_match 32 = .ok (.iconst 2, 1) := by decide +kernel
theorem dX11_match_33 : decode cX11_match 33 = .ok (.irem, 1) := by decide +kernel
theorem dX11_match_34 : decode cX11_match 34 = .ok (.ifCond .ne 10, 3) := by decide +kernel
theorem dX11_match_37 : decode cX11_match 37 = .ok (.iload 4, 2) := by decide +kernel
theorem dX11_match_39 : decode cX11_match 39 = .ok (.bipush 8, 2) := by decide +kernel
theorem dX11_match_41 : decode cX11_match 41 = .ok (.if_icmp .le 5, 3) := by decide +kernel
theorem dX11_match_44 : decode cX11_match 44 = .ok (.iconst (-1), 1) := by decide +kernel
theorem dX11_match_45 : decode cX11_match 45 = .ok (.ireturn, 1) := by decide +kernel
theorem dX11_match_46 : decode cX11_match 46 = .ok (.iload_n 2, 1) := by decide +kernel
theorem dX11_match_47 : decode cX11_match 47 = .ok (.iconst (-1), 1) := by decide +kernel
theorem dX11_match_48 : decode cX11_match 48 = .ok (.if_icmp .ne 17, 3) := by decide +kernel
theorem dX11_match_51 : decode cX11_match 51 = .ok (.aload_n 0, 1) := by decide +kernel
theorem dX11_match_52 : decode cX11_match 52 = .ok (.getfield 33, 3) := by decide +kernel
theorem dX11_match_55 : decode cX11_match 55 = .ok (.getfield 202, 3) := by decide +kernel
theorem dX11_match_58 : decode cX11_match 58 = .ok (.iload_n 3, 1) := by decide +kernel
theorem dX11_match_59 : decode cX11_match 59 = .ok (.invokestatic 297, 3) := by decide +kernel
theorem dX11_match_62 : decode cX11_match 62 = .ok (.goto 15, 3) := by decide +kernel
theorem dX11_match_65 : decode cX11_match 65 = .ok (.aload_n 0, 1) := by decide +kernel
theorem dX11_match_66 : decode cX11_match 66 = .ok (.getfield 33, 3) := by decide +kernel
theorem dX11_match_69 : decode cX11_match 69 = .ok (.getfield 202, 3) := by decide +kernel
theorem dX11_match_72 : decode cX11_match 72 = .ok (.iload_n 3, 1) := by decide +kernel
theorem dX11_match_73 : decode cX11_match 73 = .ok (.iload_n 2, 1) := by decide +kernel
theorem dX11_match_74 : decode cX11_match 74 = .ok (.invokestatic 303, 3) := by decide +kernel
theorem dX11_match_77 : decode cX11_match 77 = .ok (.ireturn, 1) := by decide +kernel
theorem dX11_has_0 : decode cX11_has 0 = .ok (.aload_n 0, 1) := by decide +kernel
theorem dX11_has_1 : decode cX11_has 1 = .ok (.iload_n 1, 1) := by decide +kernel
theorem dX11_has_2 : decode cX11_has 2 = .ok (.invokevirtual 307, 3) := by decide +kernel
theorem dX11_has_5 : decode cX11_has 5 = .ok (.iload_n 2, 1) := by decide +kernel
theorem dX11_has_6 : decode cX11_has 6 = .ok (.ifCond .eq 13, 3) := by decide +kernel
theorem dX11_has_9 : decode cX11_has 9 = .ok (.aload_n 0, 1) := by decide +kernel
theorem dX11_has_10 : decode cX11_has 10 = .ok (.getfield 81, 3) := by decide +kernel
theorem dX11_has_13 : decode cX11_has 13 = .ok (.getfield 310, 3) := by decide +kernel
theorem dX11_has_16 : decode cX11_has 16 = .ok (.goto 10, 3) := by decide +kernel
theorem dX11_has_19 : decode cX11_has 19 = .ok (.aload_n 0, 1) := by decide +kernel
theorem dX11_has_20 : decode cX11_has 20 = .ok (.getfield 81, 3) := by decide +kernel
theorem dX11_has_23 : decode cX11_has 23 = .ok (.getfield 313, 3) := by decide +kernel
theorem dX11_has_26 : decode cX11_has 26 = .ok (.ireturn, 1) := by decide +kernel
theorem dX11_ask_0 : decode cX11_ask 0 = .ok (.aload_n 0, 1) := by decide +kernel
theorem dX11_ask_1 : decode cX11_ask 1 = .ok (.iload_n 1, 1) := by decide +kernel
theorem dX11_ask_2 : decode cX11_ask 2 = .ok (.invokevirtual 307, 3) := by decide +kernel
theorem dX11_ask_5 : decode cX11_ask 5 = .ok (.aload_n 0, 1) := by decide +kernel
theorem dX11_ask_6 : decode cX11_ask 6 = .ok (.getfield 81, 3) := by decide +kernel
theorem dX11_ask_9 : decode cX11_ask 9 = .ok (.getfield 313, 3) := by decide +kernel
theorem dX11_ask_12 : decode cX11_ask 12 = .ok (.iconst 2, 1) := by decide +kernel
theorem dX11_ask_13 : decode cX11_ask 13 = .ok (.if_icmp .ge 7, 3) := by decide +kernel
theorem dX11_ask_16 : decode cX11_ask 16 = .ok (.iconst (-1), 1) := by decide +kernel
theorem dX11_ask_17 : decode cX11_ask 17 = .ok (.goto 15, 3) := by decide +kernel
theorem dX11_ask_20 : decode cX11_ask 20 = .ok (.aload_n 0, 1) := by decide +kernel
theorem dX11_ask_21 : decode cX11_ask 21 = .ok (.getfield 81, 3) := by decide +kernel
theorem dX11_ask_24 : decode cX11_ask 24 = .ok (.aload_n 0, 1) := by decide +kernel
theorem dX11_ask_25 : decode cX11_ask 25 = .ok (.getfield 33, 3) := by decide +kernel
theorem dX11_ask_28 : decode cX11_ask 28 = .ok (.iload_n 1, 1) := by decide +kernel
theorem dX11_ask_29 : decode cX11_ask 29 = .ok (.invokevirtual 316, 3) := by decide +kernel
theorem dX11_ask_32 : decode cX11_ask 32 = .ok (.ireturn, 1) := by decide +kernel
theorem dX11_findFits_0 : decode cX11_findFits 0 = .ok (.aload_n 0, 1) := by decide +kernel
theorem dX11_findFits_1 : decode cX11_findFits 1 = .ok (.invokevirtual 112, 3) := by decide +kernel
theorem dX11_findFits_4 : decode cX11_findFits 4 = .ok (.istore_n 2, 1) := by decide +kernel
theorem dX11_findFits_5 : decode cX11_findFits 5 = .ok (.aload_n 0, 1) := by decide +kernel
theorem dX11_findFits_6 : decode cX11_findFits 6 = .ok (.iload_n 1, 1) := by decide +kernel
theorem dX11_findFits_7 : decode cX11_findFits 7 = .ok (.invokevirtual 161, 3) := by decide +kernel
theorem dX11_findFits_10 : decode cX11_findFits 10 = .ok (.aload_n 0, 1) := by decide +kernel
theorem dX11_findFits_11 : decode cX11_findFits 11 = .ok (.getfield 9, 3) := by decide +kernel
theorem dX11_findFits_14 : decode cX11_findFits 14 = .ok (.iload_n 2, 1) := by decide +kernel
theorem dX11_findFits_15 : decode cX11_findFits 15 = .ok (.invokestatic 319, 3) := by decide +kernel
theorem dX11_findFits_18 : decode cX11_findFits 18 = .ok (.ifCond .ne 11, 3) := by decide +kernel
theorem dX11_findFits_21 : decode cX11_findFits 21 = .ok (.new 127, 3) := by decide +kernel
theorem dX11_findFits_24 : decode cX11_findFits 24 = .ok (.dup, 1) := by decide +kernel
theorem dX11_findFits_25 : decode cX11_findFits 25 = .ok (.invokespecial 129, 3) := by decide +kernel
theorem dX11_findFits_28 : decode cX11_findFits 28 = .ok (.athrow, 1) := by decide +kernel
theorem dX11_findFits_29 : decode cX11_findFits 29 = .ok (.aload_n 0, 1) := by decide +kernel
theorem dX11_findFits_30 : decode cX11_findFits 30 = .ok (.getfield 81, 3) := by decide +kernel
theorem dX11_findFits_33 : decode cX11_findFits 33 = .ok (.aload_n 0, 1) := by decide +kernel
theorem dX11_findFits_34 : decode cX11_findFits 34 = .ok (.getfield 33, 3) := by decide +kernel
theorem dX11_findFits_37 : decode cX11_findFits 37 = .ok (.iload_n 1, 1) := by decide +kernel
theorem dX11_findFits_38 : decode cX11_findFits 38 = .ok (.aload_n 0, 1) := by decide +kernel
theorem dX11_findFits_39 : decode cX11_findFits 39 = .ok (.getfield 9, 3) := by decide +kernel
theorem dX11_findFits_42 : decode cX11_findFits 42 = .ok (.iload_n 2, 1) := by decide +kernel
theorem dX11_findFits_43 : decode cX11_findFits 43 = .ok (.invokevirtual 323, 3) := by decide +kernel
theorem dX11_findFits_46 : decode cX11_findFits 46 = .ok (.return_, 1) := by decide +kernel
theorem dX11_ballast_0 : decode cX11_ballast 0 = .ok (.aload_n 0, 1) := by decide +kernel
theorem dX11_ballast_1 : decode cX11_ballast 1 = .ok (.iload_n 1, 1) := by decide +kernel
theorem dX11_ballast_2 : decode cX11_ballast 2 = .ok (.invokevirtual 161, 3) := by decide +kernel
theorem dX11_ballast_5 : decode cX11_ballast 5 = .ok (.aload_n 0, 1) := by decide +kernel
theorem dX11_ballast_6 : decode cX11_ballast 6 = .ok (.getfield 33, 3) := by decide +kernel
theorem dX11_ballast_9 : decode cX11_ballast 9 = .ok (.iload_n 1, 1) := by decide +kernel
theorem dX11_ballast_10 : decode cX11_ballast 10 = .ok (.invokestatic 327, 3) := by decide +kernel
theorem dX11_ballast_13 : decode cX11_ballast 13 = .ok (.ireturn, 1) := by decide +kernel
theorem dX11_thief_0 : decode cX11_thief 0 = .ok (.aload_n 0, 1) := by decide +kernel
theorem dX11_thief_1 : decode cX11_thief 1 = .ok (.getfield 33, 3) := by decide +kernel
theorem dX11_thief_4 : decode cX11_thief 4 = .ok (.aload_n 0, 1) := by decide +kernel
theorem dX11_thief_5 : decode cX11_thief 5 = .ok (.getfield 40, 3) := by decide +kernel
theorem dX11_thief_8 : decode cX11_thief 8 = .ok (.iconst 0, 1) := by decide +kernel
theorem dX11_thief_9 : decode cX11_thief 9 = .ok (.invokevirtual 330, 3) := by decide +kernel
theorem dX11_thief_12 : decode cX11_thief 12 = .ok (.ireturn, 1) := by decide +kernel
theorem dX11_guards_0 : decode cX11_guards 0 = .ok (.iload_n 1, 1) := by decide +kernel
theorem dX11_guards_1 : decode cX11_guards 1 = .ok (.iconst 0, 1) := by decide +kernel
theorem dX11_guards_2 : decode cX11_guards 2 = .ok (.bipush 8, 2) := by decide +kernel
theorem dX11_guards_4 : decode cX11_guards 4 = .ok (.invokestatic 249, 3) := by decide +kernel
theorem dX11_guards_7 : decode cX11_guards 7 = .ok (.iload_n 2, 1) := by decide +kernel
theorem dX11_guards_8 : decode cX11_guards 8 = .ok (.iconst 0, 1) := by decide +kernel
theorem dX11_guards_9 : decode cX11_guards 9 = .ok (.bipush 99, 2) := by decide +kernel
theorem dX11_guards_11 : decode cX11_guards 11 = .ok (.invokestatic 249, 3) := by decide +kernel
theorem dX11_guards_14 : decode cX11_guards 14 = .ok (.iconst 1, 1) := by decide +kernel
theorem dX11_guards_15 : decode cX11_guards 15 = .ok (.aload_n 0, 1) := by decide +kernel
theorem dX11_guards_16 : decode cX11_guards 16 = .ok (.getfield 33, 3) := by decide +kernel
theorem dX11_guards_19 : decode cX11_guards 19 = .ok (.invokevirtual 155, 3) := by decide +kernel
theorem dX11_guards_22 : decode cX11_guards 22 = .ok (.ishl, 1) := by decide +kernel
theorem dX11_guards_23 : decode cX11_guards 23 = .ok (.istore_n 3, 1) := by decide +kernel
theorem dX11_guards_24 : decode cX11_guards 24 = .ok (.iconst 0, 1) := by decide +kernel
theorem dX11_guards_25 : decode cX11_guards 25 = .ok (.istore 4, 2) := by decide +kernel
theorem dX11_guards_27 : decode cX11_guards 27 = .ok (.iload 4, 2) := by decide +kernel
theorem dX11_guards_29 : decode cX11_guards 29 = .ok (.iconst 3, 1) := by decide +kernel
theorem dX11_guards_30 : decode cX11_guards 30 = .ok (.if_icmp .gt 48, 3) := by decide +kernel
theorem dX11_guards_33 : decode cX11_guards 33 = .ok (.iconst 0, 1) := by decide +kernel
theorem dX11_guards_34 : decode cX11_guards 34 = .ok (.istore 5, 2) := by decide +kernel
theorem dX11_guards_36 : decode cX11_guards 36 = .ok (.iload 5, 2) := by decide +kernel
theorem dX11_guards_38 : decode cX11_guards 38 = .ok (.iload_n 3, 1) := by decide +kernel
theorem dX11_guards_39 : decode cX11_guards 39 = .ok (.if_icmp .ge 33, 3) := by decide +kernel
theorem dX11_guards_42 : decode cX11_guards 42 = .ok (.iload 5, 2) := by decide +kernel
theorem dX11_guards_44 : decode cX11_guards 44 = .ok (.invokestatic 292, 3) := by decide +kernel
theorem dX11_guards_47 : decode cX11_guards 47 = .ok (.iload 4, 2) := by decide +kernel
theorem dX11_guards_49 : decode cX11_guards 49 = .ok (.if_icmp .ne 17, 3) := by decide +kernel
theorem dX11_guards_52 : decode cX11_guards 52 = .ok (.aload_n 0, 1) := by decide +kernel
theorem dX11_guards_53 : decode cX11_guards 53 = .ok (.iload 5, 2) := by decide +kernel
theorem dX11_guards_55 : decode cX11_guards 55 = .ok (.iload_n 1, 1) := by decide +kernel
theorem dX11_guards_56 : decode cX11_guards 56 = .ok (.iload_n 2, 1) := by decide +kernel
theorem dX11_guards_57 : decode cX11_guards 57 = .ok (.invokevirtual 333, 3) := by decide +kernel
theorem dX11_guards_60 : decode cX11_guards 60 = .ok (.ifCond .eq 6, 3) := by decide +kernel
theorem dX11_guards_63 : decode cX11_guards 63 = .ok (.iload 5, 2) := by decide +kernel
theorem dX11_guards_65 : decode cX11_guards 65 = .ok (.ireturn, 1) := by decide +kernel
theorem dX11_guards_66 : decode cX11_guards 66 = .ok (.iinc 5 1, 3) := by decide +kernel
theorem dX11_guards_69 : decode cX11_guards 69 = .ok (.goto (-33), 3) := by decide +kernel
theorem dX11_guards_72 : decode cX11_guards 72 = .ok (.iinc 4 1, 3) := by decide +kernel
theorem dX11_guards_75 : decode cX11_guards 75 = .ok (.goto (-48), 3) := by decide +kernel
theorem dX11_guards_78 : decode cX11_guards 78 = .ok (.iconst (-1), 1) := by decide +kernel
theorem dX11_guards_79 : decode cX11_guards 79 = .ok (.ireturn, 1) := by decide +kernel
theorem dX11_isSafe_0 : decode cX11_isSafe 0 = .ok (.aload_n 0, 1) := by decide +kernel
theorem dX11_isSafe_1 : decode cX11_isSafe 1 = .ok (.getfield 51, 3) := by decide +kernel
theorem dX11_isSafe_4 : decode cX11_isSafe 4 = .ok (.aload_n 0, 1) := by decide +kernel
theorem dX11_isSafe_5 : decode cX11_isSafe 5 = .ok (.getfield 33, 3) := by decide +kernel
theorem dX11_isSafe_8 : decode cX11_isSafe 8 = .ok (.invokevirtual 120, 3) := by decide +kernel
theorem dX11_isSafe_11 : decode cX11_isSafe 11 = .ok (.iconst 0, 1) := by decide +kernel
theorem dX11_isSafe_12 : decode cX11_isSafe 12 = .ok (.istore 4, 2) := by decide +kernel
theorem dX11_isSafe_14 : decode cX11_isSafe 14 = .ok (.iload 4, 2) := by decide +kernel
theorem dX11_isSafe_16 : decode cX11_isSafe 16 = .ok (.iload_n 2, 1) := by decide +kernel
theorem dX11_isSafe_17 : decode cX11_isSafe 17 = .ok (.if_icmp .ge 47, 3) := by decide +kernel
theorem dX11_isSafe_20 : decode cX11_isSafe 20 = .ok (.aload_n 0, 1) := by decide +kernel
theorem dX11_isSafe_21 : decode cX11_isSafe 21 = .ok (.getfield 51, 3) := by decide +kernel
theorem dX11_isSafe_24 : decode cX11_isSafe 24 = .ok (.aload_n 0, 1) := by decide +kernel
theorem dX11_isSafe_25 : decode cX11_isSafe 25 = .ok (.getfield 40, 3) := by decide +kernel
theorem dX11_isSafe_28 : decode cX11_isSafe 28 = .ok (.iload_n 1, 1) := by decide +kernel
theorem dX11_isSafe_29 : decode cX11_isSafe 29 = .ok (.invokevirtual 337, 3) := by decide +kernel
theorem dX11_isSafe_32 : decode cX11_isSafe 32 = .ok (.istore 5, 2) := by decide +kernel
theorem dX11_isSafe_34 : decode cX11_isSafe 34 = .ok (.iload 5, 2) := by decide +kernel
theorem dX11_isSafe_36 : decode cX11_isSafe 36 = .ok (.iconst (-1), 1) := by decide +kernel
theorem dX11_isSafe_37 : decode cX11_isSafe 37 = .ok (.if_icmp .ne 5, 3) := by decide +kernel
theorem dX11_isSafe_40 : decode cX11_isSafe 40 = .ok (.iconst 1, 1) := by decide +kernel
theorem dX11_isSafe_41 : decode cX11_isSafe 41 = .ok (.ireturn, 1) := by decide +kernel
theorem dX11_isSafe_42 : decode cX11_isSafe 42 = .ok (.aload_n 0, 1) := by decide +kernel
theorem dX11_isSafe_43 : decode cX11_isSafe 43 = .ok (.getfield 51, 3) := by decide +kernel
theorem dX11_isSafe_46 : decode cX11_isSafe 46 = .ok (.getfield 229, 3) := by decide +kernel
theorem dX11_isSafe_49 : decode cX11_isSafe 49 = .ok (.iload 5, 2) := by decide +kernel
theorem dX11_isSafe_51 : decode cX11_isSafe 51 = .ok (.iaload, 1) := by decide +kernel
theorem dX11_isSafe_52 : decode cX11_isSafe 52 = .ok (.iload_n 3, 1) := by decide +kernel
theorem dX11_isSafe_53 : decode cX11_isSafe 53 = .ok (.if_icmp .le 5, 3) := by decide +kernel
theorem dX11_isSafe_56 : decode cX11_isSafe 56 = .ok (.iconst 0, 1) := by decide +kernel
theorem dX11_isSafe_57 : decode cX11_isSafe 57 = .ok (.ireturn, 1) := by decide +kernel
theorem dX11_isSafe_58 : decode cX11_isSafe 58 = .ok (.iinc 4 1, 3) := by decide +kernel
theorem dX11_isSafe_61 : decode cX11_isSafe 61 = .ok (.goto (-47), 3) := by decide +kernel
theorem dX11_isSafe_64 : decode cX11_isSafe 64 = .ok (.iconst 1, 1) := by decide +kernel
theorem dX11_isSafe_65 : decode cX11_isSafe 65 = .ok (.ireturn, 1) := by decide +kernel
theorem dX11_loot_0 : decode cX11_loot 0 = .ok (.iload_n 1, 1) := by decide +kernel
theorem dX11_loot_1 : decode cX11_loot 1 = .ok (.iconst 0, 1) := by decide +kernel
theorem dX11_loot_2 : decode cX11_loot 2 = .ok (.bipush 10, 2) := by decide +kernel
theorem dX11_loot_4 : decode cX11_loot 4 = .ok (.invokestatic 249, 3) := by decide +kernel
theorem dX11_loot_7 : decode cX11_loot 7 = .ok (.aload_n 0, 1) := by decide +kernel
theorem dX11_loot_8 : decode cX11_loot 8 = .ok (.getfield 51, 3) := by decide +kernel
theorem dX11_loot_11 : decode cX11_loot 11 = .ok (.aload_n 0, 1) := by decide +kernel
theorem dX11_loot_12 : decode cX11_loot 12 = .ok (.getfield 33, 3) := by decide +kernel
theorem dX11_loot_15 : decode cX11_loot 15 = .ok (.invokevirtual 120, 3) := by decide +kernel
theorem dX11_loot_18 : decode cX11_loot 18 = .ok (.iconst 0, 1) := by decide +kernel
theorem dX11_loot_19 : decode cX11_loot 19 = .ok (.istore_n 2, 1) := by decide +kernel
theorem dX11_loot_20 : decode cX11_loot 20 = .ok (.iconst 0, 1) := by decide +kernel
theorem dX11_loot_21 : decode cX11_loot 21 = .ok (.istore_n 3, 1) := by decide +kernel
theorem dX11_loot_22 : decode cX11_loot 22 = .ok (.iload_n 3, 1) := by decide +kernel
theorem dX11_loot_23 : decode cX11_loot 23 = .ok (.iload_n 1, 1) := by decide +kernel
theorem dX11_loot_24 : decode cX11_loot 24 = .ok (.if_icmp .ge 46, 3) := by decide +kernel
theorem dX11_loot_27 : decode cX11_loot 27 = .ok (.aload_n 0, 1) := by decide +kernel
theorem dX11_loot_28 : decode cX11_loot 28 = .ok (.getfield 51, 3) := by decide +kernel
theorem dX11_loot_31 : decode cX11_loot 31 = .ok (.aload_n 0, 1) := by decide +kernel
theorem dX11_loot_32 : decode cX11_loot 32 = .ok (.getfield 40, 3) := by decide +kernel
theorem dX11_loot_35 : decode cX11_loot 35 = .ok (.iconst 0, 1) := by decide +kernel
theorem dX11_loot_36 : decode cX11_loot 36 = .ok (.invokevirtual 337, 3) := by decide +kernel
theorem dX11_loot_39 : decode cX11_loot 39 = .ok (.istore 4, 2) := by decide +kernel
theorem dX11_loot_41 : decode cX11_loot 41 = .ok (.iload_n 2, 1) := by decide +kernel
theorem dX11_loot_42 : decode cX11_loot 42 = .ok (.iload 4, 2) := by decide +kernel
theorem dX11_loot_44 : decode cX11_loot 44 = .ok (.iconst (-1), 1) := by decide +kernel
theorem dX11_loot_45 : decode cX11_loot 45 = .ok (.if_icmp .ne 7, 3) := by decide +kernel
theorem dX11_loot_48 : decode cX11_loot 48 = .ok (.iconst 0, 1) := by decide +kernel
theorem dX11_loot_49 : decode cX11_loot 49 = .ok (.goto 13, 3) := by decide +kernel
theorem dX11_loot_52 : decode cX11_loot 52 = .ok (.aload_n 0, 1) := by decide +kernel
theorem dX11_loot_53 : decode cX11_loot 53 = .ok (.getfield 51, 3) := by decide +kernel
theorem dX11_loot_56 : decode cX11_loot 56 = .ok (.getfield 229, 3) := by decide +kernel
theorem dX11_loot_59 : decode cX11_loot 59 = .ok (.iload 4, 2) := by decide +kernel
theorem dX11_loot_61 : decode cX11_loot 61 = .ok (.iaload, 1) := by decide +kernel
theorem dX11_loot_62 : decode cX11_loot 62 = .ok (.iadd, 1) := by decide +kernel
theorem dX11_loot_63 : decode cX11_loot 63 = .ok (.istore_n 2, 1) := by decide +kernel
theorem dX11_loot_64 : decode cX11_loot 64 = .ok (.iinc 3 1, 3) := by decide +kernel
theorem dX11_loot_67 : decode cX11_loot 67 = .ok (.goto (-45), 3) := by decide +kernel
theorem dX11_loot_70 : decode cX11_loot 70 = .ok (.iload_n 2, 1) := by decide +kernel
theorem dX11_loot_71 : decode cX11_loot 71 = .ok (.ireturn, 1) := by decide +kernel
theorem dX11_rent_0 : decode cX11_rent 0 = .ok (.aload_n 0, 1) := by decide +kernel
theorem dX11_rent_1 : decode cX11_rent 1 = .ok (.iload_n 1, 1) := by decide +kernel
theorem dX11_rent_2 : decode cX11_rent 2 = .ok (.invokevirtual 193, 3) := by decide +kernel
theorem dX11_rent_5 : decode cX11_rent 5 = .ok (.iload_n 2, 1) := by decide +kernel
theorem dX11_rent_6 : decode cX11_rent 6 = .ok (.iconst 0, 1) := by decide +kernel
theorem dX11_rent_7 : decode cX11_rent 7 = .ok (.bipush 100, 2) := by decide +kernel
theorem dX11_rent_9 : decode cX11_rent 9 = .ok (.invokestatic 249, 3) := by decide +kernel
theorem dX11_rent_12 : decode cX11_rent 12 = .ok (.aload_n 0, 1) := by decide +kernel
theorem dX11_rent_13 : decode cX11_rent 13 = .ok (.iload_n 1, 1) := by decide +kernel
theorem dX11_rent_14 : decode cX11_rent 14 = .ok (.iconst 2, 1) := by decide +kernel
theorem dX11_rent_15 : decode cX11_rent 15 = .ok (.idiv, 1) := by decide +kernel
theorem dX11_rent_16 : decode cX11_rent 16 = .ok (.iload_n 2, 1) := by decide +kernel
theorem dX11_rent_17 : decode cX11_rent 17 = .ok (.invokevirtual 340, 3) := by decide +kernel
theorem dX11_rent_20 : decode cX11_rent 20 = .ok (.aload_n 0, 1) := by decide +kernel
theorem dX11_rent_21 : decode cX11_rent 21 = .ok (.getfield 33, 3) := by decide +kernel
theorem dX11_rent_24 : decode cX11_rent 24 = .ok (.getfield 196, 3) := by decide +kernel
theorem dX11_rent_27 : decode cX11_rent 27 = .ok (.iload_n 1, 1) := by decide +kernel
theorem dX11_rent_28 : decode cX11_rent 28 = .ok (.iaload, 1) := by decide +kernel
theorem dX11_rent_29 : decode cX11_rent 29 = .ok (.aload_n 0, 1) := by decide +kernel
theorem dX11_rent_30 : decode cX11_rent 30 = .ok (.getfield 51, 3) := by decide +kernel
theorem dX11_rent_33 : decode cX11_rent 33 = .ok (.getfield 196, 3) := by decide +kernel
theorem dX11_rent_36 : decode cX11_rent 36 = .ok (.iload_n 1, 1) := by decide +kernel
theorem dX11_rent_37 : decode cX11_rent 37 = .ok (.iaload, 1) := by decide +kernel
theorem dX11_rent_38 : decode cX11_rent 38 = .ok (.isub, 1) := by decide +kernel
theorem dX11_rent_39 : decode cX11_rent 39 = .ok (.ireturn, 1) := by decide +kernel
theorem dX11_lookAhead_0 : decode cX11_lookAhead 0 = .ok (.aload_n 0, 1) := by decide +kernel
theorem dX11_lookAhead_1 : decode cX11_lookAhead 1 = .ok (.getfield 51, 3) := by decide +kernel
theorem dX11_lookAhead_4 : decode cX11_lookAhead 4 = .ok (.aload_n 0, 1) := by decide +kernel
theorem dX11_lookAhead_5 : decode cX11_lookAhead 5 = .ok (.getfield 33, 3) := by decide +kernel
theorem dX11_lookAhead_8 : decode cX11_lookAhead 8 = .ok (.invokevirtual 120, 3) := by decide +kernel
theorem dX11_lookAhead_11 : decode cX11_lookAhead 11 = .ok (.iconst 0, 1) := by decide +kernel
theorem dX11_lookAhead_12 : decode cX11_lookAhead 12 = .ok (.istore_n 3, 1) := by decide +kernel
theorem dX11_lookAhead_13 : decode cX11_lookAhead 13 = .ok (.iload_n 3, 1) := by decide +kernel
theorem dX11_lookAhead_14 : decode cX11_lookAhead 14 = .ok (.iload_n 2, 1) := by decide +kernel
theorem dX11_lookAhead_15 : decode cX11_lookAhead 15 = .ok (.if_icmp .ge 28, 3) := by decide +kernel
theorem dX11_lookAhead_18 : decode cX11_lookAhead 18 = .ok (.aload_n 0, 1) := by decide +kernel
theorem dX11_lookAhead_19 : decode cX11_lookAhead 19 = .ok (.getfield 51, 3) := by decide +kernel
theorem dX11_lookAhead_22 : decode cX11_lookAhead 22 = .ok (.aload_n 0, 1) := by decide +kernel
theorem dX11_lookAhead_23 : decode cX11_lookAhead 23 = .ok (.getfield 40, 3) := by decide +kernel
theorem dX11_lookAhead_26 : decode cX11_lookAhead 26 = .ok (.iload_n 1, 1) := by decide +kernel
theorem dX11_lookAhead_27 : decode cX11_lookAhead 27 = .ok (.invokevirtual 344, 3) := by decide +kernel
theorem dX11_lookAhead_30 : decode cX11_lookAhead 30 = .ok (.aload_n 0, 1) := by decide +kernel
theorem dX11_lookAhead_31 : decode cX11_lookAhead 31 = .ok (.getfield 51, 3) := by decide +kernel
theorem dX11_lookAhead_34 : decode cX11_lookAhead 34 = .ok (.invokevirtual 286, 3) := by decide +kernel
theorem dX11_lookAhead_37 : decode cX11_lookAhead 37 = .ok (.iinc 3 1, 3) := by decide +kernel
theorem dX11_lookAhead_40 : decode cX11_lookAhead 40 = .ok (.goto (-27), 3) := by decide +kernel
theorem dX11_lookAhead_43 : decode cX11_lookAhead 43 = .ok (.return_, 1) := by decide +kernel
theorem dX11_poor_0 : decode cX11_poor 0 = .ok (.aload_n 0, 1) := by decide +kernel
theorem dX11_poor_1 : decode cX11_poor 1 = .ok (.getfield 51, 3) := by decide +kernel
theorem dX11_poor_4 : decode cX11_poor 4 = .ok (.aload_n 0, 1) := by decide +kernel
theorem dX11_poor_5 : decode cX11_poor 5 = .ok (.getfield 33, 3) := by decide +kernel
theorem dX11_poor_8 : decode cX11_poor 8 = .ok (.invokevirtual 120, 3) := by decide +kernel
theorem dX11_poor_11 : decode cX11_poor 11 = .ok (.iconst 0, 1) := by decide +kernel
theorem dX11_poor_12 : decode cX11_poor 12 = .ok (.istore_n 1, 1) := by decide +kernel
theorem dX11_poor_13 : decode cX11_poor 13 = .ok (.iload_n 1, 1) := by decide +kernel
theorem dX11_poor_14 : decode cX11_poor 14 = .ok (.bipush 100, 2) := by decide +kernel
theorem dX11_poor_16 : decode cX11_poor 16 = .ok (.if_icmp .gt 59, 3) := by decide +kernel
theorem dX11_poor_19 : decode cX11_poor 19 = .ok (.aload_n 0, 1) := by decide +kernel
theorem dX11_poor_20 : decode cX11_poor 20 = .ok (.getfield 51, 3) := by decide +kernel
theorem dX11_poor_23 : decode cX11_poor 23 = .ok (.invokevirtual 347, 3) := by decide +kernel
theorem dX11_poor_26 : decode cX11_poor 26 = .ok (.ifCond .eq 5, 3) := by decide +kernel
theorem dX11_poor_29 : decode cX11_poor 29 = .ok (.iload_n 1, 1) := by decide +kernel
theorem dX11_poor_30 : decode cX11_poor 30 = .ok (.ireturn, 1) := by decide +kernel
theorem dX11_poor_31 : decode cX11_poor 31 = .ok (.iconst 0, 1) := by decide +kernel
theorem dX11_poor_32 : decode cX11_poor 32 = .ok (.istore_n 2, 1) := by decide +kernel
theorem dX11_poor_33 : decode cX11_poor 33 = .ok (.iload_n 2, 1) := by decide +kernel
theorem dX11_poor_34 : decode cX11_poor 34 = .ok (.aload_n 0, 1) := by decide +kernel
theorem dX11_poor_35 : decode cX11_poor 35 = .ok (.getfield 51, 3) := by decide +kernel
theorem dX11_poor_38 : decode cX11_poor 38 = .ok (.getfield 149, 3) := by decide +kernel
theorem dX11_poor_41 : decode cX11_poor 41 = .ok (.if_icmp .ge 21, 3) := by decide +kernel
theorem dX11_poor_44 : decode cX11_poor 44 = .ok (.aload_n 0, 1) := by decide +kernel
theorem dX11_poor_45 : decode cX11_poor 45 = .ok (.getfield 51, 3) := by decide +kernel
theorem dX11_poor_48 : decode cX11_poor 48 = .ok (.aload_n 0, 1) := by decide +kernel
theorem dX11_poor_49 : decode cX11_poor 49 = .ok (.getfield 40, 3) := by decide +kernel
theorem dX11_poor_52 : decode cX11_poor 52 = .ok (.iload_n 2, 1) := by decide +kernel
theorem dX11_poor_53 : decode cX11_poor 53 = .ok (.invokevirtual 344, 3) := by decide +kernel
theorem dX11_poor_56 : decode cX11_poor 56 = .ok (.iinc 2 1, 3) := by decide +kernel
theorem dX11_poor_59 : decode cX11_poor 59 = .ok (.goto (-26), 3) := by decide +kernel
theorem dX11_poor_62 : decode cX11_poor 62 = .ok (.aload_n 0, 1) := by decide +kernel
theorem dX11_poor_63 : decode cX11_poor 63 = .ok (.getfield 51, 3) := by decide +kernel
theorem dX11_poor_66 : decode cX11_poor 66 = .ok (.invokevirtual 286, 3) := by decide +kernel
theorem dX11_poor_69 : decode cX11_poor 69 = .ok (.iinc 1 1, 3) := by decide +kernel
theorem dX11_poor_72 : decode cX11_poor 72 = .ok (.goto (-59), 3) := by decide +kernel
theorem dX11_poor_75 : decode cX11_poor 75 = .ok (.iconst (-1), 1) := by decide +kernel
theorem dX11_poor_76 : decode cX11_poor 76 = .ok (.ireturn, 1) := by decide +kernel
theorem dX11_rich_0 : decode cX11_rich 0 = .ok (.iconst (-1), 1) := by decide +kernel
theorem dX11_rich_1 : decode cX11_rich 1 = .ok (.istore_n 1, 1) := by decide +kernel
theorem dX11_rich_2 : decode cX11_rich 2 = .ok (.iconst (-1), 1) := by decide +kernel
theorem dX11_rich_3 : decode cX11_rich 3 = .ok (.istore_n 2, 1) := by decide +kernel
theorem dX11_rich_4 : decode cX11_rich 4 = .ok (.iconst 0, 1) := by decide +kernel
theorem dX11_rich_5 : decode cX11_rich 5 = .ok (.istore_n 3, 1) := by decide +kernel
theorem dX11_rich_6 : decode cX11_rich 6 = .ok (.iload_n 3, 1) := by decide +kernel
theorem dX11_rich_7 : decode cX11_rich 7 = .ok (.aload_n 0, 1) := by decide +kernel
theorem dX11_rich_8 : decode cX11_rich 8 = .ok (.getfield 33, 3) := by decide +kernel
theorem dX11_rich_11 : decode cX11_rich 11 = .ok (.invokevirtual 155, 3) := by decide +kernel
theorem dX11_rich_14 : decode cX11_rich 14 = .ok (.if_icmp .ge 40, 3) := by decide +kernel
theorem dX11_rich_17 : decode cX11_rich 17 = .ok (.aload_n 0, 1) := by decide +kernel
theorem dX11_rich_18 : decode cX11_rich 18 = .ok (.getfield 33, 3) := by decide +kernel
theorem dX11_rich_21 : decode cX11_rich 21 = .ok (.getfield 196, 3) := by decide +kernel
theorem dX11_rich_24 : decode cX11_rich 24 = .ok (.iload_n 3, 1) := by decide +kernel
theorem dX11_rich_25 : decode cX11_rich 25 = .ok (.iaload, 1) := by decide +kernel
theorem dX11_rich_26 : decode cX11_rich 26 = .ok (.aload_n 0, 1) := by decide +kernel
theorem dX11_rich_27 : decode cX11_rich 27 = .ok (.getfield 33, 3) := by decide +kernel
theorem dX11_rich_30 : decode cX11_rich 30 = .ok (.iload_n 3, 1) := by decide +kernel
theorem dX11_rich_31 : decode cX11_rich 31 = .ok (.invokevirtual 351, 3) := by decide +kernel
theorem dX11_rich_34 : decode cX11_rich 34 = .ok (.iadd, 1) := by decide +kernel
theorem dX11_rich_35 : decode cX11_rich 35 = .ok (.istore 4, 2) := by decide +kernel
theorem dX11_rich_37 : decode cX11_rich 37 = .ok (.iload 4, 2) := by decide +kernel
theorem dX11_rich_39 : decode cX11_rich 39 = .ok (.iload_n 2, 1) := by decide +kernel
theorem dX11_rich_40 : decode cX11_rich 40 = .ok (.if_icmp .le 8, 3) := by decide +kernel
theorem dX11_rich_43 : decode cX11_rich 43 = .ok (.iload_n 3, 1) := by decide +kernel
theorem dX11_rich_44 : decode cX11_rich 44 = .ok (.istore_n 1, 1) := by decide +kernel
theorem dX11_rich_45 : decode cX11_rich 45 = .ok (.iload 4, 2) := by decide +kernel
theorem dX11_rich_47 : decode cX11_rich 47 = .ok (.istore_n 2, 1) := by decide +kernel
theorem dX11_rich_48 : decode cX11_rich 48 = .ok (.iinc 3 1, 3) := by decide +kernel
theorem dX11_rich_51 : decode cX11_rich 51 = .ok (.goto (-45), 3) := by decide +kernel
theorem dX11_rich_54 : decode cX11_rich 54 = .ok (.iload_n 1, 1) := by decide +kernel
theorem dX11_rich_55 : decode cX11_rich 55 = .ok (.ireturn, 1) := by decide +kernel
theorem dX11_heaviest_0 : decode cX11_heaviest 0 = .ok (.iconst (-1), 1) := by decide +kernel
theorem dX11_heaviest_1 : decode cX11_heaviest 1 = .ok (.istore_n 1, 1) := by decide +kernel
theorem dX11_heaviest_2 : decode cX11_heaviest 2 = .ok (.iconst (-1), 1) := by decide +kernel
theorem dX11_heaviest_3 : decode cX11_heaviest 3 = .ok (.istore_n 2, 1) := by decide +kernel
theorem dX11_heaviest_4 : decode cX11_heaviest 4 = .ok (.iconst 0, 1) := by decide +kernel
theorem dX11_heaviest_5 : decode cX11_heaviest 5 = .ok (.istore_n 3, 1) := by decide +kernel
theorem dX11_heaviest_6 : decode cX11_heaviest 6 = .ok (.iload_n 3, 1) := by decide +kernel
theorem dX11_heaviest_7 : decode cX11_heaviest 7 = .ok (.aload_n 0, 1) := by decide +kernel
theorem dX11_heaviest_8 : decode cX11_heaviest 8 = .ok (.getfield 33, 3) := by decide +kernel
theorem dX11_heaviest_11 : decode cX11_heaviest 11 = .ok (.getfield 158, 3) := by decide +kernel
theorem dX11_heaviest_14 : decode cX11_heaviest 14 = .ok (.if_icmp .ge 47, 3) := by decide +kernel
theorem dX11_heaviest_17 : decode cX11_heaviest 17 = .ok (.aload_n 0, 1) := by decide +kernel
theorem dX11_heaviest_18 : decode cX11_heaviest 18 = .ok (.getfield 33, 3) := by decide +kernel
theorem dX11_heaviest_21 : decode cX11_heaviest 21 = .ok (.getfield 232, 3) := by decide +kernel
theorem dX11_heaviest_24 : decode cX11_heaviest 24 = .ok (.iload_n 3, 1) := by decide +kernel
theorem dX11_heaviest_25 : decode cX11_heaviest 25 = .ok (.iaload, 1) := by decide +kernel
theorem dX11_heaviest_26 : decode cX11_heaviest 26 = .ok (.iconst (-1), 1) := by decide +kernel
theorem dX11_heaviest_27 : decode cX11_heaviest 27 = .ok (.if_icmp .eq 28, 3) := by decide +kernel
theorem dX11_heaviest_30 : decode cX11_heaviest 30 = .ok (.aload_n 0, 1) := by decide +kernel
theorem dX11_heaviest_31 : decode cX11_heaviest 31 = .ok (.getfield 33, 3) := by decide +kernel
theorem dX11_heaviest_34 : decode cX11_heaviest 34 = .ok (.getfield 226, 3) := by decide +kernel
theorem dX11_heaviest_37 : decode cX11_heaviest 37 = .ok (.iload_n 3, 1) := by decide +kernel
theorem dX11_heaviest_38 : decode cX11_heaviest 38 = .ok (.iaload, 1) := by decide +kernel
theorem dX11_heaviest_39 : decode cX11_heaviest 39 = .ok (.iload_n 2, 1) := by decide +kernel
theorem dX11_heaviest_40 : decode cX11_heaviest 40 = .ok (.if_icmp .le 15, 3) := by decide +kernel
theorem dX11_heaviest_43 : decode cX11_heaviest 43 = .ok (.iload_n 3, 1) := by decide +kernel
theorem dX11_heaviest_44 : decode cX11_heaviest 44 = .ok (.istore_n 1, 1) := by decide +kernel
theorem dX11_heaviest_45 : decode cX11_heaviest 45 = .ok (.aload_n 0, 1) := by decide +kernel
theorem dX11_heaviest_46 : decode cX11_heaviest 46 = .ok (.getfield 33, 3) := by decide +kernel
theorem dX11_heaviest_49 : decode cX11_heaviest 49 = .ok (.getfield 226, 3) := by decide +kernel
theorem dX11_heaviest_52 : decode cX11_heaviest 52 = .ok (.iload_n 3, 1) := by decide +kernel
theorem dX11_heaviest_53 : decode cX11_heaviest 53 = .ok (.iaload, 1) := by decide +kernel
theorem dX11_heaviest_54 : decode cX11_heaviest 54 = .ok (.istore_n 2, 1) := by decide +kernel
theorem dX11_heaviest_55 : decode cX11_heaviest 55 = .ok (.iinc 3 1, 3) := by decide +kernel
theorem dX11_heaviest_58 : decode cX11_heaviest 58 = .ok (.goto (-52), 3) := by decide +kernel
theorem dX11_heaviest_61 : decode cX11_heaviest 61 = .ok (.iload_n 1, 1) := by decide +kernel
theorem dX11_heaviest_62 : decode cX11_heaviest 62 = .ok (.ireturn, 1) := by decide +kernel
theorem dX11_alike_0 : decode cX11_alike 0 = .ok (.iconst 0, 1) := by decide +kernel
theorem dX11_alike_1 : decode cX11_alike 1 = .ok (.istore_n 1, 1) := by decide +kernel
theorem dX11_alike_2 : decode cX11_alike 2 = .ok (.iconst 0, 1) := by decide +kernel
theorem dX11_alike_3 : decode cX11_alike 3 = .ok (.istore_n 2, 1) := by decide +kernel
theorem dX11_alike_4 : decode cX11_alike 4 = .ok (.iload_n 2, 1) := by decide +kernel
theorem dX11_alike_5 : decode cX11_alike 5 = .ok (.aload_n 0, 1) := by decide +kernel
theorem dX11_alike_6 : decode cX11_alike 6 = .ok (.getfield 33, 3) := by decide +kernel
theorem dX11_alike_9 : decode cX11_alike 9 = .ok (.invokevirtual 155, 3) := by decide +kernel
theorem dX11_alike_12 : decode cX11_alike 12 = .ok (.if_icmp .ge 75, 3) := by decide +kernel
theorem dX11_alike_15 : decode cX11_alike 15 = .ok (.iload_n 2, 1) := by decide +kernel
theorem dX11_alike_16 : decode cX11_alike 16 = .ok (.iconst 1, 1) := by decide +kernel
theorem dX11_alike_17 : decode cX11_alike 17 = .ok (.iadd, 1) := by decide +kernel
theorem dX11_alike_18 : decode cX11_alike 18 = .ok (.istore_n 3, 1) := by decide +kernel
theorem dX11_alike_19 : decode cX11_alike 19 = .ok (.iload_n 3, 1) := by decide +kernel
theorem dX11_alike_20 : decode cX11_alike 20 = .ok (.aload_n 0, 1) := by decide +kernel
theorem dX11_alike_21 : decode cX11_alike 21 = .ok (.getfield 33, 3) := by decide +kernel
theorem dX11_alike_24 : decode cX11_alike 24 = .ok (.invokevirtual 155, 3) := by decide +kernel
theorem dX11_alike_27 : decode cX11_alike 27 = .ok (.if_icmp .ge 54, 3) := by decide +kernel
theorem dX11_alike_30 : decode cX11_alike 30 = .ok (.aload_n 0, 1) := by decide +kernel
theorem dX11_alike_31 : decode cX11_alike 31 = .ok (.getfield 33, 3) := by decide +kernel
theorem dX11_alike_34 : decode cX11_alike 34 = .ok (.getfield 202, 3) := by decide +kernel
theorem dX11_alike_37 : decode cX11_alike 37 = .ok (.iload_n 2, 1) := by decide +kernel
theorem dX11_alike_38 : decode cX11_alike 38 = .ok (.iaload, 1) := by decide +kernel
theorem dX11_alike_39 : decode cX11_alike 39 = .ok (.aload_n 0, 1) := by decide +kernel
theorem dX11_alike_40 : decode cX11_alike 40 = .ok (.getfield 33, 3) := by decide +kernel
theorem dX11_alike_43 : decode cX11_alike 43 = .ok (.getfield 202, 3) := by decide +kernel
theorem dX11_alike_46 : decode cX11_alike 46 = .ok (.iload_n 3, 1) := by decide +kernel
theorem dX11_alike_47 : decode cX11_alike 47 = .ok (.iaload, 1) := by decide +kernel
theorem dX11_alike_48 : decode cX11_alike 48 = .ok (.if_icmp .ne 27, 3) := by decide +kernel
theorem dX11_alike_51 : decode cX11_alike 51 = .ok (.aload_n 0, 1) := by decide +kernel
theorem dX11_alike_52 : decode cX11_alike 52 = .ok (.getfield 33, 3) := by decide +kernel
theorem dX11_alike_55 : decode cX11_alike 55 = .ok (.getfield 205, 3) := by decide +kernel
theorem dX11_alike_58 : decode cX11_alike 58 = .ok (.iload_n 2, 1) := by decide +kernel
theorem dX11_alike_59 : decode cX11_alike 59 = .ok (.iaload, 1) := by decide +kernel
theorem dX11_alike_60 : decode cX11_alike 60 = .ok (.aload_n 0, 1) := by decide +kernel
theorem dX11_alike_61 : decode cX11_alike 61 = .ok (.getfield 33, 3) := by decide +kernel
theorem dX11_alike_64 : decode cX11_alike 64 = .ok (.getfield 205, 3) := by decide +kernel
theorem dX11_alike_67 : decode cX11_alike 67 = .ok (.iload_n 3, 1) := by decide +kernel
theorem dX11_alike_68 : decode cX11_alike 68 = .ok (.iaload, 1) := by decide +kernel
theorem dX11_alike_69 : decode cX11_alike 69 = .ok (.if_icmp .ne 6, 3) := by decide +kernel
theorem dX11_alike_72 : decode cX11_alike 72 = .ok (.iinc 1 1, 3) := by decide +kernel
theorem dX11_alike_75 : decode cX11_alike 75 = .ok (.iinc 3 1, 3) := by decide +kernel
theorem dX11_alike_78 : decode cX11_alike 78 = .ok (.goto (-59), 3) := by decide +kernel
theorem dX11_alike_81 : decode cX11_alike 81 = .ok (.iinc 2 1, 3) := by decide +kernel
theorem dX11_alike_84 : decode cX11_alike 84 = .ok (.goto (-80), 3) := by decide +kernel
theorem dX11_alike_87 : decode cX11_alike 87 = .ok (.iload_n 1, 1) := by decide +kernel
theorem dX11_alike_88 : decode cX11_alike 88 = .ok (.ireturn, 1) := by decide +kernel
theorem dX11_ahead_0 : decode cX11_ahead 0 = .ok (.aload_n 0, 1) := by decide +kernel
theorem dX11_ahead_1 : decode cX11_ahead 1 = .ok (.iload_n 1, 1) := by decide +kernel
theorem dX11_ahead_2 : decode cX11_ahead 2 = .ok (.invokevirtual 193, 3) := by decide +kernel
theorem dX11_ahead_5 : decode cX11_ahead 5 = .ok (.iload_n 2, 1) := by decide +kernel
theorem dX11_ahead_6 : decode cX11_ahead 6 = .ok (.iconst 0, 1) := by decide +kernel
theorem dX11_ahead_7 : decode cX11_ahead 7 = .ok (.bipush 100, 2) := by decide +kernel
theorem dX11_ahead_9 : decode cX11_ahead 9 = .ok (.invokestatic 249, 3) := by decide +kernel
theorem dX11_ahead_12 : decode cX11_ahead 12 = .ok (.aload_n 0, 1) := by decide +kernel
theorem dX11_ahead_13 : decode cX11_ahead 13 = .ok (.iload_n 1, 1) := by decide +kernel
theorem dX11_ahead_14 : decode cX11_ahead 14 = .ok (.iconst 2, 1) := by decide +kernel
theorem dX11_ahead_15 : decode cX11_ahead 15 = .ok (.idiv, 1) := by decide +kernel
theorem dX11_ahead_16 : decode cX11_ahead 16 = .ok (.iload_n 2, 1) := by decide +kernel
theorem dX11_ahead_17 : decode cX11_ahead 17 = .ok (.invokevirtual 340, 3) := by decide +kernel
theorem dX11_ahead_20 : decode cX11_ahead 20 = .ok (.iload_n 3, 1) := by decide +kernel
theorem dX11_ahead_21 : decode cX11_ahead 21 = .ok (.ifCond .eq 15, 3) := by decide +kernel
theorem dX11_ahead_24 : decode cX11_ahead 24 = .ok (.aload_n 0, 1) := by decide +kernel
theorem dX11_ahead_25 : decode cX11_ahead 25 = .ok (.getfield 51, 3) := by decide +kernel
theorem dX11_ahead_28 : decode cX11_ahead 28 = .ok (.getfield 196, 3) := by decide +kernel
theorem dX11_ahead_31 : decode cX11_ahead 31 = .ok (.iload_n 1, 1) := by decide +kernel
theorem dX11_ahead_32 : decode cX11_ahead 32 = .ok (.iaload, 1) := by decide +kernel
theorem dX11_ahead_33 : decode cX11_ahead 33 = .ok (.goto 12, 3) := by decide +kernel
theorem dX11_ahead_36 : decode cX11_ahead 36 = .ok (.aload_n 0, 1) := by decide +kernel
theorem dX11_ahead_37 : decode cX11_ahead 37 = .ok (.getfield 51, 3) := by decide +kernel
theorem dX11_ahead_40 : decode cX11_ahead 40 = .ok (.getfield 205, 3) := by decide +kernel
theorem dX11_ahead_43 : decode cX11_ahead 43 = .ok (.iload_n 1, 1) := by decide +kernel
theorem dX11_ahead_44 : decode cX11_ahead 44 = .ok (.iaload, 1) := by decide +kernel
theorem dX11_ahead_45 : decode cX11_ahead 45 = .ok (.ireturn, 1) := by decide +kernel
theorem dX11_trial_0 : decode cX11_trial 0 = .ok (.iload_n 1, 1) := by decide +kernel
theorem dX11_trial_1 : decode cX11_trial 1 = .ok (.iconst 0, 1) := by decide +kernel
theorem dX11_trial_2 : decode cX11_trial 2 = .ok (.bipush 60, 2) := by decide +kernel
theorem dX11_trial_4 : decode cX11_trial 4 = .ok (.invokestatic 249, 3) := by decide +kernel
theorem dX11_trial_7 : decode cX11_trial 7 = .ok (.aload_n 0, 1) := by decide +kernel
theorem dX11_trial_8 : decode cX11_trial 8 = .ok (.aload_n 0, 1) := by decide +kernel
theorem dX11_trial_9 : decode cX11_trial 9 = .ok (.getfield 33, 3) := by decide +kernel
theorem dX11_trial_12 : decode cX11_trial 12 = .ok (.getfield 354, 3) := by decide +kernel
theorem dX11_trial_15 : decode cX11_trial 15 = .ok (.iload_n 1, 1) := by decide +kernel
theorem dX11_trial_16 : decode cX11_trial 16 = .ok (.invokevirtual 357, 3) := by decide +kernel
theorem dX11_trial_19 : decode cX11_trial 19 = .ok (.iload_n 2, 1) := by decide +kernel
theorem dX11_trial_20 : decode cX11_trial 20 = .ok (.ifCond .eq 13, 3) := by decide +kernel
theorem dX11_trial_23 : decode cX11_trial 23 = .ok (.aload_n 0, 1) := by decide +kernel
theorem dX11_trial_24 : decode cX11_trial 24 = .ok (.getfield 51, 3) := by decide +kernel
theorem dX11_trial_27 : decode cX11_trial 27 = .ok (.invokevirtual 360, 3) := by decide +kernel
theorem dX11_trial_30 : decode cX11_trial 30 = .ok (.goto 13, 3) := by decide +kernel
theorem dX11_trial_33 : decode cX11_trial 33 = .ok (.aload_n 0, 1) := by decide +kernel
theorem dX11_trial_34 : decode cX11_trial 34 = .ok (.getfield 51, 3) := by decide +kernel
theorem dX11_trial_37 : decode cX11_trial 37 = .ok (.invokevirtual 363, 3) := by decide +kernel
theorem dX11_trial_40 : decode cX11_trial 40 = .ok (.invokestatic 292, 3) := by decide +kernel
theorem dX11_trial_43 : decode cX11_trial 43 = .ok (.ireturn, 1) := by decide +kernel
theorem dX11_span_0 : decode cX11_span 0 = .ok (.iload_n 1, 1) := by decide +kernel
theorem dX11_span_1 : decode cX11_span 1 = .ok (.iconst 0, 1) := by decide +kernel
theorem dX11_span_2 : decode cX11_span 2 = .ok (.bipush 60, 2) := by decide +kernel
theorem dX11_span_4 : decode cX11_span 4 = .ok (.invokestatic 249, 3) := by decide +kernel
theorem dX11_span_7 : decode cX11_span 7 = .ok (.bipush 10, 2) := by decide +kernel
theorem dX11_span_9 : decode cX11_span 9 = .ok (.istore_n 3, 1) := by decide +kernel
theorem dX11_span_10 : decode cX11_span 10 = .ok (.iconst 0, 1) := by decide +kernel
theorem dX11_span_11 : decode cX11_span 11 = .ok (.istore 4, 2) := by decide +kernel
theorem dX11_span_13 : decode cX11_span 13 = .ok (.iconst 1, 1) := by decide +kernel
theorem dX11_span_14 : decode cX11_span 14 = .ok (.istore 5, 2) := by decide +kernel
theorem dX11_span_16 : decode cX11_span 16 = .ok (.iload 5, 2) := by decide +kernel
theorem dX11_span_18 : decode cX11_span 18 = .ok (.bipush 6, 2) := by decide +kernel
theorem dX11_span_20 : decode cX11_span 20 = .ok (.if_icmp .gt 44, 3) := by decide +kernel
theorem dX11_span_23 : decode cX11_span 23 = .ok (.aload_n 0, 1) := by decide +kernel
theorem dX11_span_24 : decode cX11_span 24 = .ok (.iload 5, 2) := by decide +kernel
theorem dX11_span_26 : decode cX11_span 26 = .ok (.iload_n 1, 1) := by decide +kernel
theorem dX11_span_27 : decode cX11_span 27 = .ok (.invokevirtual 357, 3) := by decide +kernel
theorem dX11_span_30 : decode cX11_span 30 = .ok (.aload_n 0, 1) := by decide +kernel
theorem dX11_span_31 : decode cX11_span 31 = .ok (.getfield 51, 3) := by decide +kernel
theorem dX11_span_34 : decode cX11_span 34 = .ok (.invokevirtual 363, 3) := by decide +kernel
theorem dX11_span_37 : decode cX11_span 37 = .ok (.invokestatic 292, 3) := by decide +kernel
theorem dX11_span_40 : decode cX11_span 40 = .ok (.istore 6, 2) := by decide +kernel
theorem dX11_span_42 : decode cX11_span 42 = .ok (.iload_n 3, 1) := by decide +kernel
theorem dX11_span_43 : decode cX11_span 43 = .ok (.iload 6, 2) := by decide +kernel
theorem dX11_span_45 : decode cX11_span 45 = .ok (.invokestatic 253, 3) := by decide +kernel
theorem dX11_span_48 : decode cX11_span 48 = .ok (.istore_n 3, 1) := by decide +kernel
theorem dX11_span_49 : decode cX11_span 49 = .ok (.iload 4, 2) := by decide +kernel
theorem dX11_span_51 : decode cX11_span 51 = .ok (.iload 6, 2) := by decide +kernel
theorem dX11_span_53 : decode cX11_span 53 = .ok (.invokestatic 366, 3) := by decide +kernel
theorem dX11_span_56 : decode cX11_span 56 = .ok (.istore 4, 2) := by decide +kernel
theorem dX11_span_58 : decode cX11_span 58 = .ok (.iinc 5 1, 3) := by decide +kernel
theorem dX11_span_61 : decode cX11_span 61 = .ok (.goto (-45), 3) := by decide +kernel
theorem dX11_span_64 : decode cX11_span 64 = .ok (.iload_n 2, 1) := by decide +kernel
theorem dX11_span_65 : decode cX11_span 65 = .ok (.ifCond .eq 8, 3) := by decide +kernel
theorem dX11_span_68 : decode cX11_span 68 = .ok (.iload 4, 2) := by decide +kernel
theorem dX11_span_70 : decode cX11_span 70 = .ok (.goto 4, 3) := by decide +kernel
theorem dX11_span_73 : decode cX11_span 73 = .ok (.iload_n 3, 1) := by decide +kernel
theorem dX11_span_74 : decode cX11_span 74 = .ok (.ireturn, 1) := by decide +kernel
theorem dX11_tryWeeks_0 : decode cX11_tryWeeks 0 = .ok (.aload_n 0, 1) := by decide +kernel
theorem dX11_tryWeeks_1 : decode cX11_tryWeeks 1 = .ok (.getfield 51, 3) := by decide +kernel
theorem dX11_tryWeeks_4 : decode cX11_tryWeeks 4 = .ok (.aload_n 0, 1) := by decide +kernel
theorem dX11_tryWeeks_5 : decode cX11_tryWeeks 5 = .ok (.getfield 33, 3) := by decide +kernel
theorem dX11_tryWeeks_8 : decode cX11_tryWeeks 8 = .ok (.invokevirtual 120, 3) := by decide +kernel
theorem dX11_tryWeeks_11 : decode cX11_tryWeeks 11 = .ok (.aload_n 0, 1) := by decide +kernel
theorem dX11_tryWeeks_12 : decode cX11_tryWeeks 12 = .ok (.getfield 51, 3) := by decide +kernel
theorem dX11_tryWeeks_15 : decode cX11_tryWeeks 15 = .ok (.iload_n 1, 1) := by decide +kernel
theorem dX11_tryWeeks_16 : decode cX11_tryWeeks 16 = .ok (.putfield 354, 3) := by decide +kernel
theorem dX11_tryWeeks_19 : decode cX11_tryWeeks 19 = .ok (.iconst 0, 1) := by decide +kernel
theorem dX11_tryWeeks_20 : decode cX11_tryWeeks 20 = .ok (.istore_n 3, 1) := by decide +kernel
theorem dX11_tryWeeks_21 : decode cX11_tryWeeks 21 = .ok (.iload_n 3, 1) := by decide +kernel
theorem dX11_tryWeeks_22 : decode cX11_tryWeeks 22 = .ok (.iload_n 2, 1) := by decide +kernel
theorem dX11_tryWeeks_23 : decode cX11_tryWeeks 23 = .ok (.if_icmp .ge 25, 3) := by decide +kernel
theorem dX11_tryWeeks_26 : decode cX11_tryWeeks 26 = .ok (.aload_n 0, 1) := by decide +kernel
theorem dX11_tryWeeks_27 : decode cX11_tryWeeks 27 = .ok (.getfield 51, 3) := by decide +kernel
theorem dX11_tryWeeks_30 : decode cX11_tryWeeks 30 = .ok (.aload_n 0, 1) := by decide +kernel
theorem dX11_tryWeeks_31 : decode cX11_tryWeeks 31 = .ok (.getfield 40, 3) := by decide +kernel
theorem dX11_tryWeeks_34 : decode cX11_tryWeeks 34 = .ok (.aload_n 0, 1) := by decide +kernel
theorem dX11_tryWeeks_35 : decode cX11_tryWeeks 35 = .ok (.getfield 57, 3) := by decide +kernel
theorem dX11_tryWeeks_38 : decode cX11_tryWeeks 38 = .ok (.invokevirtual 262, 3) := by decide +kernel
theorem dX11_tryWeeks_41 : decode cX11_tryWeeks 41 = .ok (.pop, 1) := by decide +kernel
theorem dX11_tryWeeks_42 : decode cX11_tryWeeks 42 = .ok (.iinc 3 1, 3) := by decide +kernel
theorem dX11_tryWeeks_45 : decode cX11_tryWeeks 45 = .ok (.goto (-24), 3) := by decide +kernel
theorem dX11_tryWeeks_48 : decode cX11_tryWeeks 48 = .ok (.return_, 1) := by decide +kernel
theorem dX11_led_0 : decode cX11_led 0 = .ok (.aload_n 0, 1) := by decide +kernel
theorem dX11_led_1 : decode cX11_led 1 = .ok (.iload_n 1, 1) := by decide +kernel
theorem dX11_led_2 : decode cX11_led 2 = .ok (.invokevirtual 223, 3) := by decide +kernel
theorem dX11_led_5 : decode cX11_led 5 = .ok (.iload_n 2, 1) := by decide +kernel
theorem dX11_led_6 : decode cX11_led 6 = .ok (.ifCond .eq 14, 3) := by decide +kernel
theorem dX11_led_9 : decode cX11_led 9 = .ok (.aload_n 0, 1) := by decide +kernel
theorem dX11_led_10 : decode cX11_led 10 = .ok (.getfield 47, 3) := by decide +kernel
theorem dX11_led_13 : decode cX11_led 13 = .ok (.iload_n 1, 1) := by decide +kernel
theorem dX11_led_14 : decode cX11_led 14 = .ok (.invokevirtual 369, 3) := by decide +kernel
theorem dX11_led_17 : decode cX11_led 17 = .ok (.goto 11, 3) := by decide +kernel
theorem dX11_led_20 : decode cX11_led 20 = .ok (.aload_n 0, 1) := by decide +kernel
theorem dX11_led_21 : decode cX11_led 21 = .ok (.getfield 47, 3) := by decide +kernel
theorem dX11_led_24 : decode cX11_led 24 = .ok (.iload_n 1, 1) := by decide +kernel
theorem dX11_led_25 : decode cX11_led 25 = .ok (.invokevirtual 372, 3) := by decide +kernel
theorem dX11_led_28 : decode cX11_led 28 = .ok (.ireturn, 1) := by decide +kernel
theorem dX11_log_0 : decode cX11_log 0 = .ok (.iload_n 2, 1) := by decide +kernel
theorem dX11_log_1 : decode cX11_log 1 = .ok (.ifCond .lt 8, 3) := by decide +kernel
theorem dX11_log_4 : decode cX11_log 4 = .ok (.iload_n 2, 1) := by decide +kernel
theorem dX11_log_5 : decode cX11_log 5 = .ok (.iconst 5, 1) := by decide +kernel
theorem dX11_log_6 : decode cX11_log 6 = .ok (.if_icmp .lt 11, 3) := by decide +kernel
theorem dX11_log_9 : decode cX11_log 9 = .ok (.new 190, 3) := by decide +kernel
theorem dX11_log_12 : decode cX11_log 12 = .ok (.dup, 1) := by decide +kernel
theorem dX11_log_13 : decode cX11_log 13 = .ok (.invokespecial 192, 3) := by decide +kernel
theorem dX11_log_16 : decode cX11_log 16 = .ok (.athrow, 1) := by decide +kernel
theorem dX11_log_17 : decode cX11_log 17 = .ok (.aload_n 0, 1) := by decide +kernel
theorem dX11_log_18 : decode cX11_log 18 = .ok (.getfield 47, 3) := by decide +kernel
theorem dX11_log_21 : decode cX11_log 21 = .ok (.iload_n 1, 1) := by decide +kernel
theorem dX11_log_22 : decode cX11_log 22 = .ok (.iload_n 2, 1) := by decide +kernel
theorem dX11_log_23 : decode cX11_log 23 = .ok (.invokevirtual 375, 3) := by decide +kernel
theorem dX11_log_26 : decode cX11_log 26 = .ok (.ireturn, 1) := by decide +kernel
theorem dX11_seed_0 : decode cX11_seed 0 = .ok (.aload_n 0, 1) := by decide +kernel
theorem dX11_seed_1 : decode cX11_seed 1 = .ok (.getfield 33, 3) := by decide +kernel
theorem dX11_seed_4 : decode cX11_seed 4 = .ok (.getfield 354, 3) := by decide +kernel
theorem dX11_seed_7 : decode cX11_seed 7 = .ok (.istore_n 2, 1) := by decide +kernel
theorem dX11_seed_8 : decode cX11_seed 8 = .ok (.aload_n 0, 1) := by decide +kernel
theorem dX11_seed_9 : decode cX11_seed 9 = .ok (.getfield 33, 3) := by decide +kernel
theorem dX11_seed_12 : decode cX11_seed 12 = .ok (.iload_n 1, 1) := by decide +kernel
theorem dX11_seed_13 : decode cX11_seed 13 = .ok (.putfield 354, 3) := by decide +kernel
theorem dX11_seed_16 : decode cX11_seed 16 = .ok (.iload_n 2, 1) := by decide +kernel
theorem dX11_seed_17 : decode cX11_seed 17 = .ok (.ireturn, 1) := by decide +kernel
theorem dX11_undo_0 : decode cX11_undo 0 = .ok (.aload_n 0, 1) := by decide +kernel
theorem dX11_undo_1 : decode cX11_undo 1 = .ok (.getfield 88, 3) := by decide +kernel
theorem dX11_undo_4 : decode cX11_undo 4 = .ok (.aload_n 0, 1) := by decide +kernel
theorem dX11_undo_5 : decode cX11_undo 5 = .ok (.getfield 33, 3) := by decide +kernel
theorem dX11_undo_8 : decode cX11_undo 8 = .ok (.aload_n 0, 1) := by decide +kernel
theorem dX11_undo_9 : decode cX11_undo 9 = .ok (.getfield 47, 3) := by decide +kernel
theorem dX11_undo_12 : decode cX11_undo 12 = .ok (.invokevirtual 378, 3) := by decide +kernel
theorem dX11_undo_15 : decode cX11_undo 15 = .ok (.ireturn, 1) := by decide +kernel
theorem dX11_image_0 : decode cX11_image 0 = .ok (.aload_n 0, 1) := by decide +kernel
theorem dX11_image_1 : decode cX11_image 1 = .ok (.iconst 1, 1) := by decide +kernel
theorem dX11_image_2 : decode cX11_image 2 = .ok (.putfield 92, 3) := by decide +kernel
theorem dX11_image_5 : decode cX11_image 5 = .ok (.aload_n 0, 1) := by decide +kernel
theorem dX11_image_6 : decode cX11_image 6 = .ok (.aload_n 0, 1) := by decide +kernel
theorem dX11_image_7 : decode cX11_image 7 = .ok (.getfield 27, 3) := by decide +kernel
theorem dX11_image_10 : decode cX11_image 10 = .ok (.putfield 96, 3) := by decide +kernel
theorem dX11_image_13 : decode cX11_image 13 = .ok (.aload_n 0, 1) := by decide +kernel
theorem dX11_image_14 : decode cX11_image 14 = .ok (.getfield 99, 3) := by decide +kernel
theorem dX11_image_17 : decode cX11_image 17 = .ok (.aload_n 0, 1) := by decide +kernel
theorem dX11_image_18 : decode cX11_image 18 = .ok (.getfield 33, 3) := by decide +kernel
theorem dX11_image_21 : decode cX11_image 21 = .ok (.invokevirtual 120, 3) := by decide +kernel
theorem dX11_image_24 : decode cX11_image 24 = .ok (.aload_n 0, 1) := by decide +kernel
theorem dX11_image_25 : decode cX11_image 25 = .ok (.getfield 102, 3) := by decide +kernel
theorem dX11_image_28 : decode cX11_image 28 = .ok (.aload_n 0, 1) := by decide +kernel
theorem dX11_image_29 : decode cX11_image 29 = .ok (.getfield 40, 3) := by decide +kernel
theorem dX11_image_32 : decode cX11_image 32 = .ok (.invokevirtual 143, 3) := by decide +kernel
theorem dX11_image_35 : decode cX11_image 35 = .ok (.aload_n 0, 1) := by decide +kernel
theorem dX11_image_36 : decode cX11_image 36 = .ok (.getfield 105, 3) := by decide +kernel
theorem dX11_image_39 : decode cX11_image 39 = .ok (.aload_n 0, 1) := by decide +kernel
theorem dX11_image_40 : decode cX11_image 40 = .ok (.getfield 47, 3) := by decide +kernel
theorem dX11_image_43 : decode cX11_image 43 = .ok (.invokevirtual 382, 3) := by decide +kernel
theorem dX11_image_46 : decode cX11_image 46 = .ok (.return_, 1) := by decide +kernel
theorem dX11_back_0 : decode cX11_back 0 = .ok (.aload_n 0, 1) := by decide +kernel
theorem dX11_back_1 : decode cX11_back 1 = .ok (.getfield 92, 3) := by decide +kernel
theorem dX11_back_4 : decode cX11_back 4 = .ok (.ifCond .ne 5, 3) := by decide +kernel
theorem dX11_back_7 : decode cX11_back 7 = .ok (.iconst 0, 1) := by decide +kernel
theorem dX11_back_8 : decode cX11_back 8 = .ok (.ireturn, 1) := by decide +kernel
theorem dX11_back_9 : decode cX11_back 9 = .ok (.aload_n 0, 1) := by decide +kernel
theorem dX11_back_10 : decode cX11_back 10 = .ok (.aload_n 0, 1) := by decide +kernel
theorem dX11_back_11 : decode cX11_back 11 = .ok (.getfield 96, 3) := by decide +kernel
theorem dX11_back_14 : decode cX11_back 14 = .ok (.putfield 27, 3) := by decide +kernel
theorem dX11_back_17 : decode cX11_back 17 = .ok (.aload_n 0, 1) := by decide +kernel
theorem dX11_back_18 : decode cX11_back 18 = .ok (.getfield 33, 3) := by decide +kernel
theorem dX11_back_21 : decode cX11_back 21 = .ok (.aload_n 0, 1) := by decide +kernel
theorem dX11_back_22 : decode cX11_back 22 = .ok (.getfield 99, 3) := by decide +kernel
theorem dX11_back_25 : decode cX11_back 25 = .ok (.invokevirtual 120, 3) := by decide +kernel
theorem dX11_back_28 : decode cX11_back 28 = .ok (.aload_n 0, 1) := by decide +kernel
theorem dX11_back_29 : decode cX11_back 29 = .ok (.getfield 40, 3) := by decide +kernel
theorem dX11_back_32 : decode cX11_back 32 = .ok (.aload_n 0, 1) := by decide +kernel
theorem dX11_back_33 : decode cX11_back 33 = .ok (.getfield 102, 3) := by decide +kernel
theorem dX11_back_36 : decode cX11_back 36 = .ok (.invokevirtual 143, 3) := by decide +kernel
theorem dX11_back_39 : decode cX11_back 39 = .ok (.aload_n 0, 1) := by decide +kernel
theorem dX11_back_40 : decode cX11_back 40 = .ok (.getfield 47, 3) := by decide +kernel
theorem dX11_back_43 : decode cX11_back 43 = .ok (.aload_n 0, 1) := by decide +kernel
theorem dX11_back_44 : decode cX11_back 44 = .ok (.getfield 105, 3) := by decide +kernel
theorem dX11_back_47 : decode cX11_back 47 = .ok (.invokevirtual 382, 3) := by decide +kernel
theorem dX11_back_50 : decode cX11_back 50 = .ok (.aload_n 0, 1) := by decide +kernel
theorem dX11_back_51 : decode cX11_back 51 = .ok (.getfield 88, 3) := by decide +kernel
theorem dX11_back_54 : decode cX11_back 54 = .ok (.invokevirtual 136, 3) := by decide +kernel
theorem dX11_back_57 : decode cX11_back 57 = .ok (.iconst 1, 1) := by decide +kernel
theorem dX11_back_58 : decode cX11_back 58 = .ok (.ireturn, 1) := by decide +kernel
theorem dX11_count_0 : decode cX11_count 0 = .ok (.iload_n 1, 1) := by decide +kernel
theorem dX11_count_1 : decode cX11_count 1 = .ok (.tableswitch 192 0 14 #[75, 83, 91, 96, 104, 112, 120, 128, 136, 144, 152, 160, 168, 176, 184], 75) := by decide +kernel
theorem dX11_count_76 : decode cX11_count 76 = .ok (.aload_n 0, 1) := by decide +kernel
theorem dX11_count_77 : decode cX11_count 77 = .ok (.getfield 33, 3) := by decide +kernel
theorem dX11_count_80 : decode cX11_count 80 = .ok (.getfield 149, 3) := by decide +kernel
theorem dX11_count_83 : decode cX11_count 83 = .ok (.ireturn, 1) := by decide +kernel
theorem dX11_count_84 : decode cX11_count 84 = .ok (.aload_n 0, 1) := by decide +kernel
theorem dX11_count_85 : decode cX11_count 85 = .ok (.getfield 33, 3) := by decide +kernel
theorem dX11_count_88 : decode cX11_count 88 = .ok (.getfield 158, 3) := by decide +kernel
theorem dX11_count_91 : decode cX11_count 91 = .ok (.ireturn, 1) := by decide +kernel
theorem dX11_count_92 : decode cX11_count 92 = .ok (.aload_n 0, 1) := by decide +kernel
theorem dX11_count_93 : decode cX11_count 93 = .ok (.getfield 27, 3) := by decide +kernel
theorem dX11_count_96 : decode cX11_count 96 = .ok (.ireturn, 1) := by decide +kernel
theorem dX11_count_97 : decode cX11_count 97 = .ok (.aload_n 0, 1) := by decide +kernel
theorem dX11_count_98 : decode cX11_count 98 = .ok (.getfield 40, 3) := by decide +kernel
theorem dX11_count_101 : decode cX11_count 101 = .ok (.getfield 146, 3) := by decide +kernel
theorem dX11_count_104 : decode cX11_count 104 = .ok (.ireturn, 1) := by decide +kernel
theorem dX11_count_105 : decode cX11_count 105 = .ok (.aload_n 0, 1) := by decide +kernel
theorem dX11_count_106 : decode cX11_count 106 = .ok (.getfield 33, 3) := by decide +kernel
theorem dX11_count_109 : decode cX11_count 109 = .ok (.getfield 242, 3) := by decide +kernel
theorem dX11_count_112 : decode cX11_count 112 = .ok (.ireturn, 1) := by decide +kernel
theorem dX11_count_113 : decode cX11_count 113 = .ok (.aload_n 0, 1) := by decide +kernel
theorem dX11_count_114 : decode cX11_count 114 = .ok (.getfield 33, 3) := by decide +kernel
theorem dX11_count_117 : decode cX11_count 117 = .ok (.getfield 259, 3) := by decide +kernel
theorem dX11_count_120 : decode cX11_count 120 = .ok (.ireturn, 1) := by decide +kernel
theorem dX11_count_121 : decode cX11_count 121 = .ok (.aload_n 0, 1) := by decide +kernel
theorem dX11_count_122 : decode cX11_count 122 = .ok (.getfield 33, 3) := by decide +kernel
theorem dX11_count_125 : decode cX11_count 125 = .ok (.getfield 385, 3) := by decide +kernel
theorem dX11_count_128 : decode cX11_count 128 = .ok (.ireturn, 1) := by decide +kernel
theorem dX11_count_129 : decode cX11_count 129 = .ok (.aload_n 0, 1) := by decide +kernel
theorem dX11_count_130 : decode cX11_count 130 = .ok (.getfield 33, 3) := by decide +kernel
theorem dX11_count_133 : decode cX11_count 133 = .ok (.getfield 388, 3) := by decide +kernel
theorem dX11_count_136 : decode cX11_count 136 = .ok (.ireturn, 1) := by decide +kernel
theorem dX11_count_137 : decode cX11_count 137 = .ok (.aload_n 0, 1) := by decide +kernel
theorem dX11_count_138 : decode cX11_count 138 = .ok (.getfield 33, 3) := by decide +kernel
theorem dX11_count_141 : decode cX11_count 141 = .ok (.getfield 391, 3) := by decide +kernel
theorem dX11_count_144 : decode cX11_count 144 = .ok (.ireturn, 1) := by decide +kernel
theorem dX11_count_145 : decode cX11_count 145 = .ok (.aload_n 0, 1) := by decide +kernel
theorem dX11_count_146 : decode cX11_count 146 = .ok (.getfield 33, 3) := by decide +kernel
theorem dX11_count_149 : decode cX11_count 149 = .ok (.getfield 394, 3) := by decide +kernel
theorem dX11_count_152 : decode cX11_count 152 = .ok (.ireturn, 1) := by decide +kernel
theorem dX11_count_153 : decode cX11_count 153 = .ok (.aload_n 0, 1) := by decide +kernel
theorem dX11_count_154 : decode cX11_count 154 = .ok (.getfield 33, 3) := by decide +kernel
theorem dX11_count_157 : decode cX11_count 157 = .ok (.invokevirtual 360, 3) := by decide +kernel
theorem dX11_count_160 : decode cX11_count 160 = .ok (.ireturn, 1) := by decide +kernel
theorem dX11_count_161 : decode cX11_count 161 = .ok (.aload_n 0, 1) := by decide +kernel
theorem dX11_count_162 : decode cX11_count 162 = .ok (.getfield 33, 3) := by decide +kernel
theorem dX11_count_165 : decode cX11_count 165 = .ok (.invokevirtual 363, 3) := by decide +kernel
theorem dX11_count_168 : decode cX11_count 168 = .ok (.ireturn, 1) := by decide +kernel
theorem dX11_count_169 : decode cX11_count 169 = .ok (.aload_n 0, 1) := by decide +kernel
theorem dX11_count_170 : decode cX11_count 170 = .ok (.getfield 33, 3) := by decide +kernel
theorem dX11_count_173 : decode cX11_count 173 = .ok (.invokevirtual 397, 3) := by decide +kernel
theorem dX11_count_176 : decode cX11_count 176 = .ok (.ireturn, 1) := by decide +kernel
theorem dX11_count_177 : decode cX11_count 177 = .ok (.aload_n 0, 1) := by decide +kernel
theorem dX11_count_178 : decode cX11_count 178 = .ok (.getfield 47, 3) := by decide +kernel
theorem dX11_count_181 : decode cX11_count 181 = .ok (.getfield 400, 3) := by decide +kernel
theorem dX11_count_184 : decode cX11_count 184 = .ok (.ireturn, 1) := by decide +kernel
theorem dX11_count_185 : decode cX11_count 185 = .ok (.aload_n 0, 1) := by decide +kernel
theorem dX11_count_186 : decode cX11_count 186 = .ok (.getfield 88, 3) := by decide +kernel
theorem dX11_count_189 : decode cX11_count 189 = .ok (.getfield 403, 3) := by decide +kernel
theorem dX11_count_192 : decode cX11_count 192 = .ok (.ireturn, 1) := by decide +kernel
theorem dX11_count_193 : decode cX11_count 193 = .ok (.iconst (-1), 1) := by decide +kernel
theorem dX11_count_194 : decode cX11_count 194 = .ok (.ireturn, 1) := by decide +kernel
theorem dX12_thrown_0 : decode cX12_thrown 0 = .ok (.aload_n 0, 1) := by decide +kernel
theorem dX12_thrown_1 : decode cX12_thrown 1 = .ok (.getfield 3, 3) := by decide +kernel
theorem dX12_thrown_4 : decode cX12_thrown 4 = .ok (.ireturn, 1) := by decide +kernel
theorem dX12_throwsIf_0 : decode cX12_throwsIf 0 = .ok (.iload_n 1, 1) := by decide +kernel
theorem dX12_throwsIf_1 : decode cX12_throwsIf 1 = .ok (.ifCond .eq 8, 3) := by decide +kernel
theorem dX12_throwsIf_4 : decode cX12_throwsIf 4 = .ok (.aload_n 0, 1) := by decide +kernel
theorem dX12_throwsIf_5 : decode cX12_throwsIf 5 = .ok (.iload_n 2, 1) := by decide +kernel
theorem dX12_throwsIf_6 : decode cX12_throwsIf 6 = .ok (.putfield 3, 3) := by decide +kernel
theorem dX12_throwsIf_9 : decode cX12_throwsIf 9 = .ok (.iload_n 1, 1) := by decide +kernel
theorem dX12_throwsIf_10 : decode cX12_throwsIf 10 = .ok (.ireturn, 1) := by decide +kernel
theorem dX12_in_0 : decode cX12_in 0 = .ok (.iload_n 0, 1) := by decide +kernel
theorem dX12_in_1 : decode cX12_in 1 = .ok (.iload_n 1, 1) := by decide +kernel
theorem dX12_in_2 : decode cX12_in 2 = .ok (.if_icmp .lt 12, 3) := by decide +kernel
theorem dX12_in_5 : decode cX12_in 5 = .ok (.iload_n 0, 1) := by decide +kernel
theorem dX12_in_6 : decode cX12_in 6 = .ok (.iload_n 2, 1) := by decide +kernel
theorem dX12_in_7 : decode cX12_in 7 = .ok (.if_icmp .gt 7, 3) := by decide +kernel
theorem dX12_in_10 : decode cX12_in 10 = .ok (.iconst 1, 1) := by decide +kernel
theorem dX12_in_11 : decode cX12_in 11 = .ok (.goto 4, 3) := by decide +kernel
theorem dX12_in_14 : decode cX12_in 14 = .ok (.iconst 0, 1) := by decide +kernel
theorem dX12_in_15 : decode cX12_in 15 = .ok (.ireturn, 1) := by decide +kernel
theorem dX12_holds_0 : decode cX12_holds 0 = .ok (.iload_n 0, 1) := by decide +kernel
theorem dX12_holds_1 : decode cX12_holds 1 = .ok (.iload_n 1, 1) := by decide +kernel
theorem dX12_holds_2 : decode cX12_holds 2 = .ok (.ishr, 1) := by decide +kernel
theorem dX12_holds_3 : decode cX12_holds 3 = .ok (.iconst 1, 1) := by decide +kernel
theorem dX12_holds_4 : decode cX12_holds 4 = .ok (.iand, 1) := by decide +kernel
theorem dX12_holds_5 : decode cX12_holds 5 = .ok (.iconst 1, 1) := by decide +kernel
theorem dX12_holds_6 : decode cX12_holds 6 = .ok (.if_icmp .ne 7, 3) := by decide +kernel
theorem dX12_holds_9 : decode cX12_holds 9 = .ok (.iconst 1, 1) := by decide +kernel
theorem dX12_holds_10 : decode cX12_holds 10 = .ok (.goto 4, 3) := by decide +kernel
theorem dX12_holds_13 : decode cX12_holds 13 = .ok (.iconst 0, 1) := by decide +kernel
theorem dX12_holds_14 : decode cX12_holds 14 = .ok (.ireturn, 1) := by decide +kernel
theorem dX12_init_0 : decode cX12_init 0 = .ok (.aload_n 0, 1) := by decide +kernel
theorem dX12_init_1 : decode cX12_init 1 = .ok (.invokespecial 7, 3) := by decide +kernel
theorem dX12_init_4 : decode cX12_init 4 = .ok (.aload_n 0, 1) := by decide +kernel
theorem dX12_init_5 : decode cX12_init 5 = .ok (.sipush 2080, 3) := by decide +kernel
theorem dX12_init_8 : decode cX12_init 8 = .ok (.newarray .int, 2) := by decide +kernel
theorem dX12_init_10 : decode cX12_init 10 = .ok (.putfield 13, 3) := by decide +kernel
theorem dX12_init_13 : decode cX12_init 13 = .ok (.aload_n 0, 1) := by decide +kernel
theorem dX12_init_14 : decode cX12_init 14 = .ok (.sipush 1231, 3) := by decide +kernel
theorem dX12_init_17 : decode cX12_init 17 = .ok (.newarray .int, 2) := by decide +kernel
theorem dX12_init_19 : decode cX12_init 19 = .ok (.putfield 17, 3) := by decide +kernel
theorem dX12_init_22 : decode cX12_init 22 = .ok (.aload_n 0, 1) := by decide +kernel
theorem dX12_init_23 : decode cX12_init 23 = .ok (.sipush 1231, 3) := by decide +kernel
theorem dX12_init_26 : decode cX12_init 26 = .ok (.newarray .int, 2) := by decide +kernel
theorem dX12_init_28 : decode cX12_init 28 = .ok (.putfield 20, 3) := by decide +kernel
theorem dX12_init_31 : decode cX12_init 31 = .ok (.aload_n 0, 1) := by decide +kernel
theorem dX12_init_32 : decode cX12_init 32 = .ok (.sipush 382, 3) := by decide +kernel
theorem dX12_init_35 : decode cX12_init 35 = .ok (.newarray .int, 2) := by decide +kernel
theorem dX12_init_37 : decode cX12_init 37 = .ok (.putfield 23, 3) := by decide +kernel
theorem dX12_init_40 : decode cX12_init 40 = .ok (.aload_n 0, 1) := by decide +kernel
theorem dX12_init_41 : decode cX12_init 41 = .ok (.sipush 4584, 3) := by decide +kernel
theorem dX12_init_44 : decode cX12_init 44 = .ok (.newarray .int, 2) := by decide +kernel
theorem dX12_init_46 : decode cX12_init 46 = .ok (.putfield 26, 3) := by decide +kernel
theorem dX12_init_49 : decode cX12_init 49 = .ok (.aload_n 0, 1) := by decide +kernel
theorem dX12_init_50 : decode cX12_init 50 = .ok (.sipush 400, 3) := by decide +kernel
theorem dX12_init_53 : decode cX12_init 53 = .ok (.newarray .byte, 2) := by decide +kernel
theorem dX12_init_55 : decode cX12_init 55 = .ok (.putfield 29, 3) := by decide +kernel
theorem dX12_init_58 : decode cX12_init 58 = .ok (.aload_n 0, 1) := by decide +kernel
theorem dX12_init_59 : decode cX12_init 59 = .ok (.iconst (-1), 1) := by decide +kernel
theorem dX12_init_60 : decode cX12_init 60 = .ok (.putfield 33, 3) := by decide +kernel
theorem dX12_init_63 : decode cX12_init 63 = .ok (.aload_n 0, 1) := by decide +kernel
theorem dX12_init_64 : decode cX12_init 64 = .ok (.iconst 5, 1) := by decide +kernel
theorem dX12_init_65 : decode cX12_init 65 = .ok (.newarray .int, 2) := by decide +kernel
theorem dX12_init_67 : decode cX12_init 67 = .ok (.putfield 36, 3) := by decide +kernel
theorem dX12_init_70 : decode cX12_init 70 = .ok (.aload_n 0, 1) := by decide +kernel
theorem dX12_init_71 : decode cX12_init 71 = .ok (.sipush 400, 3) := by decide +kernel
theorem dX12_init_74 : decode cX12_init 74 = .ok (.newarray .int, 2) := by decide +kernel
theorem dX12_init_76 : decode cX12_init 76 = .ok (.putfield 39, 3) := by decide +kernel
theorem dX12_init_79 : decode cX12_init 79 = .ok (.aload_n 0, 1) := by decide +kernel
theorem dX12_init_80 : decode cX12_init 80 = .ok (.sipush 1024, 3) := by decide +kernel
theorem dX12_init_83 : decode cX12_init 83 = .ok (.newarray .int, 2) := by decide +kernel
theorem dX12_init_85 : decode cX12_init 85 = .ok (.putfield 42, 3) := by decide +kernel
theorem dX12_init_88 : decode cX12_init 88 = .ok (.aload_n 0, 1) := by decide +kernel
theorem dX12_init_89 : decode cX12_init 89 = .ok (.bipush 11, 2) := by decide +kernel
theorem dX12_init_91 : decode cX12_init 91 = .ok (.newarray .int, 2) := by decide +kernel
theorem dX12_init_93 : decode cX12_init 93 = .ok (.putfield 45, 3) := by decide +kernel
theorem dX12_init_96 : decode cX12_init 96 = .ok (.aload_n 0, 1) := by decide +kernel
theorem dX12_init_97 : decode cX12_init 97 = .ok (.getfield 13, 3) := by decide +kernel
theorem dX12_init_100 : decode cX12_init 100 = .ok (.bipush 6, 2) := by decide +kernel
theorem dX12_init_102 : decode cX12_init 102 = .ok (.bipush 10, 2) := by decide +kernel
theorem dX12_init_104 : decode cX12_init 104 = .ok (.iastore, 1) := by decide +kernel
theorem dX12_init_105 : decode cX12_init 105 = .ok (.aload_n 0, 1) := by decide +kernel
theorem dX12_init_106 : decode cX12_init 106 = .ok (.getfield 13, 3) := by decide +kernel
theorem dX12_init_109 : decode cX12_init 109 = .ok (.bipush 9, 2) := by decide +kernel
theorem dX12_init_111 : decode cX12_init 111 = .ok (.iconst 3, 1) := by decide +kernel
theorem dX12_init_112 : decode cX12_init 112 = .ok (.iastore, 1) := by decide +kernel
theorem dX12_init_113 : decode cX12_init 113 = .ok (.aload_n 0, 1) := by decide +kernel
theorem dX12_init_114 : decode cX12_init 114 = .ok (.getfield 13, 3) := by decide +kernel
theorem dX12_init_117 : decode cX12_init 117 = .ok (.bipush 11, 2) := by decide +kernel
theorem dX12_init_119 : decode cX12_init 119 = .ok (.iconst 1, 1) := by decide +kernel
theorem dX12_init_120 : decode cX12_init 120 = .ok (.iastore, 1) := by decide +kernel
theorem dX12_init_121 : decode cX12_init 121 = .ok (.return_, 1) := by decide +kernel
theorem dX12_image_0 : decode cX12_image 0 = .ok (.aload_n 0, 1) := by decide +kernel
theorem dX12_image_1 : decode cX12_image 1 = .ok (.iconst 0, 1) := by decide +kernel
theorem dX12_image_2 : decode cX12_image 2 = .ok (.putfield 3, 3) := by decide +kernel
theorem dX12_image_5 : decode cX12_image 5 = .ok (.iconst 0, 1) := by decide +kernel
theorem dX12_image_6 : decode cX12_image 6 = .ok (.istore_n 1, 1) := by decide +kernel
theorem dX12_image_7 : decode cX12_image 7 = .ok (.iload_n 1, 1) := by decide +kernel
theorem dX12_image_8 : decode cX12_image 8 = .ok (.sipush 1231, 3) := by decide +kernel
theorem dX12_image_11 : decode cX12_image 11 = .ok (.if_icmp .ge 21, 3) := by decide +kernel
theorem dX12_image_14 : decode cX12_image 14 = .ok (.aload_n 0, 1) := by decide +kernel
theorem dX12_image_15 : decode cX12_image 15 = .ok (.getfield 17, 3) := by decide +kernel
theorem dX12_image_18 : decode cX12_image 18 = .ok (.iload_n 1, 1) := by decide +kernel
theorem dX12_image_19 : decode cX12_image 19 = .ok (.aload_n 0, 1) := by decide +kernel
theorem dX12_image_20 : decode cX12_image 20 = .ok (.getfield 13, 3) := by decide +kernel
theorem dX12_image_23 : decode cX12_image 23 = .ok (.iload_n 1, 1) := by decide +kernel
theorem dX12_image_24 : decode cX12_image 24 = .ok (.iaload, 1) := by decide +kernel
theorem dX12_image_25 : decode cX12_image 25 = .ok (.iastore, 1) := by decide +kernel
theorem dX12_image_26 : decode cX12_image 26 = .ok (.iinc 1 1, 3) := by decide +kernel
theorem dX12_image_29 : decode cX12_image 29 = .ok (.goto (-22), 3) := by decide +kernel
theorem dX12_image_32 : decode cX12_image 32 = .ok (.aload_n 0, 1) := by decide +kernel
theorem dX12_image_33 : decode cX12_image 33 = .ok (.iconst 1, 1) := by decide +kernel
theorem dX12_image_34 : decode cX12_image 34 = .ok (.putfield 48, 3) := by decide +kernel
theorem dX12_image_37 : decode cX12_image 37 = .ok (.return_, 1) := by decide +kernel
theorem dX12_back_0 : decode cX12_back 0 = .ok (.aload_n 0, 1) := by decide +kernel
theorem dX12_back_1 : decode cX12_back 1 = .ok (.iconst 0, 1) := by decide +kernel
theorem dX12_back_2 : decode cX12_back 2 = .ok (.putfield 3, 3) := by decide +kernel
theorem dX12_back_5 : decode cX12_back 5 = .ok (.aload_n 0, 1) := by decide +kernel
theorem dX12_back_6 : decode cX12_back 6 = .ok (.getfield 48, 3) := by decide +kernel
theorem dX12_back_9 : decode cX12_back 9 = .ok (.ifCond .ne 5, 3) := by decide +kernel
theorem dX12_back_12 : decode cX12_back 12 = .ok (.iconst 0, 1) := by decide +kernel
theorem dX12_back_13 : decode cX12_back 13 = .ok (.ireturn, 1) := by decide +kernel
theorem dX12_back_14 : decode cX12_back 14 = .ok (.iconst 0, 1) := by decide +kernel
theorem dX12_back_15 : decode cX12_back 15 = .ok (.istore_n 1, 1) := by decide +kernel
theorem dX12_back_16 : decode cX12_back 16 = .ok (.iload_n 1, 1) := by decide +kernel
theorem dX12_back_17 : decode cX12_back 17 = .ok (.sipush 1231, 3) := by decide +kernel
theorem dX12_back_20 : decode cX12_back 20 = .ok (.if_icmp .ge 21, 3) := by decide +kernel
theorem dX12_back_23 : decode cX12_back 23 = .ok (.aload_n 0, 1) := by decide +kernel
theorem dX12_back_24 : decode cX12_back 24 = .ok (.getfield 13, 3) := by decide +kernel
theorem dX12_back_27 : decode cX12_back 27 = .ok (.iload_n 1, 1) := by decide +kernel
theorem dX12_back_28 : decode cX12_back 28 = .ok (.aload_n 0, 1) := by decide +kernel
theorem dX12_back_29 : decode cX12_back 29 = .ok (.getfield 17, 3) := by decide +kernel
theorem dX12_back_32 : decode cX12_back 32 = .ok (.iload_n 1, 1) := by decide +kernel
theorem dX12_back_33 : decode cX12_back 33 = .ok (.iaload, 1) := by decide +kernel
theorem dX12_back_34 : decode cX12_back 34 = .ok (.iastore, 1) := by decide +kernel
theorem dX12_back_35 : decode cX12_back 35 = .ok (.iinc 1 1, 3) := by decide +kernel
theorem dX12_back_38 : decode cX12_back 38 = .ok (.goto (-22), 3) := by decide +kernel
theorem dX12_back_41 : decode cX12_back 41 = .ok (.aload_n 0, 1) := by decide +kernel
theorem dX12_back_42 : decode cX12_back 42 = .ok (.iconst 0, 1) := by decide +kernel
theorem dX12_back_43 : decode cX12_back 43 = .ok (.putfield 52, 3) := by decide +kernel
theorem dX12_back_46 : decode cX12_back 46 = .ok (.iconst 1, 1) := by decide +kernel
theorem dX12_back_47 : decode cX12_back 47 = .ok (.ireturn, 1) := by decide +kernel
theorem dX12_remembers_0 : decode cX12_remembers 0 = .ok (.aload_n 0, 1) := by decide +kernel
theorem dX12_remembers_1 : decode cX12_remembers 1 = .ok (.getfield 52, 3) := by decide +kernel
theorem dX12_remembers_4 : decode cX12_remembers 4 = .ok (.bipush 12, 2) := by decide +kernel
theorem dX12_remembers_6 : decode cX12_remembers 6 = .ok (.if_icmp .ne 37, 3) := by decide +kernel
theorem dX12_remembers_9 : decode cX12_remembers 9 = .ok (.iconst 0, 1) := by decide +kernel
theorem dX12_remembers_10 : decode cX12_remembers 10 = .ok (.istore_n 1, 1) := by decide +kernel
theorem dX12_remembers_11 : decode cX12_remembers 11 = .ok (.iload_n 1, 1) := by decide +kernel
theorem dX12_remembers_12 : decode cX12_remembers 12 = .ok (.sipush 4202, 3) := by decide +kernel
theorem dX12_remembers_15 : decode cX12_remembers 15 = .ok (.if_icmp .ge 25, 3) := by decide +kernel
theorem dX12_remembers_18 : decode cX12_remembers 18 = .ok (.aload_n 0, 1) := by decide +kernel
theorem dX12_remembers_19 : decode cX12_remembers 19 = .ok (.getfield 26, 3) := by decide +kernel
theorem dX12_remembers_22 : decode cX12_remembers 22 = .ok (.iload_n 1, 1) := by decide +kernel
theorem dX12_remembers_23 : decode cX12_remembers 23 = .ok (.aload_n 0, 1) := by decide +kernel
theorem dX12_remembers_24 : decode cX12_remembers 24 = .ok (.getfield 26, 3) := by decide +kernel
theorem dX12_remembers_27 : decode cX12_remembers 27 = .ok (.iload_n 1, 1) := by decide +kernel
theorem dX12_remembers_28 : decode cX12_remembers 28 = .ok (.sipush 382, 3) := by decide +kernel
theorem dX12_remembers_31 : decode cX12_remembers 31 = .ok (.iadd, 1) := by decide +kernel
theorem dX12_remembers_32 : decode cX12_remembers 32 = .ok (.iaload, 1) := by decide +kernel
theorem dX12_remembers_33 : decode cX12_remembers 33 = .ok (.iastore, 1) := by decide +kernel
theorem dX12_remembers_34 : decode cX12_remembers 34 = .ok (.iinc 1 1, 3) := by decide +kernel
theorem dX12_remembers_37 : decode cX12_remembers 37 = .ok (.goto (-26), 3) := by decide +kernel
theorem dX12_remembers_40 : decode cX12_remembers 40 = .ok (.goto 13, 3) := by decide +kernel
theorem dX12_remembers_43 : decode cX12_remembers 43 = .ok (.aload_n 0, 1) := by decide +kernel
theorem dX12_remembers_44 : decode cX12_remembers 44 = .ok (.dup, 1) := by decide +kernel
theorem dX12_remembers_45 : decode cX12_remembers 45 = .ok (.getfield 52, 3) := by decide +kernel
theorem dX12_remembers_48 : decode cX12_remembers 48 = .ok (.iconst 1, 1) := by decide +kernel
theorem dX12_remembers_49 : decode cX12_remembers 49 = .ok (.iadd, 1) := by decide +kernel
theorem dX12_remembers_50 : decode cX12_remembers 50 = .ok (.putfield 52, 3) := by decide +kernel
theorem dX12_remembers_53 : decode cX12_remembers 53 = .ok (.iconst 0, 1) := by decide +kernel
theorem dX12_remembers_54 : decode cX12_remembers 54 = .ok (.istore_n 1, 1) := by decide +kernel
theorem dX12_remembers_55 : decode cX12_remembers 55 = .ok (.iload_n 1, 1) := by decide +kernel
theorem dX12_remembers_56 : decode cX12_remembers 56 = .ok (.sipush 382, 3) := by decide +kernel
theorem dX12_remembers_59 : decode cX12_remembers 59 = .ok (.if_icmp .ge 32, 3) := by decide +kernel
theorem dX12_remembers_62 : decode cX12_remembers 62 = .ok (.aload_n 0, 1) := by decide +kernel
theorem dX12_remembers_63 : decode cX12_remembers 63 = .ok (.getfield 26, 3) := by decide +kernel
theorem dX12_remembers_66 : decode cX12_remembers 66 = .ok (.sipush 382, 3) := by decide +kernel
theorem dX12_remembers_69 : decode cX12_remembers 69 = .ok (.aload_n 0, 1) := by decide +kernel
theorem dX12_remembers_70 : decode cX12_remembers 70 = .ok (.getfield 52, 3) := by decide +kernel
theorem dX12_remembers_73 : decode cX12_remembers 73 = .ok (.iconst 1, 1) := by decide +kernel
theorem dX12_remembers_74 : decode cX12_remembers 74 = .ok (.isub, 1) := by decide +kernel
theorem dX12_remembers_75 : decode cX12_remembers 75 = .ok (.imul, 1) := by decide +kernel
theorem dX12_remembers_76 : decode cX12_remembers 76 = .ok (.iload_n 1, 1) := by decide +kernel
theorem dX12_remembers_77 : decode cX12_remembers 77 = .ok (.iadd, 1) := by decide +kernel
theorem dX12_remembers_78 : decode cX12_remembers 78 = .ok (.aload_n 0, 1) := by decide +kernel
theorem dX12_remembers_79 : decode cX12_remembers 79 = .ok (.getfield 13, 3) := by decide +kernel
theorem dX12_remembers_82 : decode cX12_remembers 82 = .ok (.iload_n 1, 1) := by decide +kernel
theorem dX12_remembers_83 : decode cX12_remembers 83 = .ok (.iaload, 1) := by decide +kernel
theorem dX12_remembers_84 : decode cX12_remembers 84 = .ok (.iastore, 1) := by decide +kernel
theorem dX12_remembers_85 : decode cX12_remembers 85 = .ok (.iinc 1 1, 3) := by decide +kernel
theorem dX12_remembers_88 : decode cX12_remembers 88 = .ok (.goto (-33), 3) := by decide +kernel
theorem dX12_remembers_91 : decode cX12_remembers 91 = .ok (.return_, 1) := by decide +kernel
theorem dX12_undo_0 : decode cX12_undo 0 = .ok (.aload_n 0, 1) := by decide +kernel
theorem dX12_undo_1 : decode cX12_undo 1 = .ok (.iconst 0, 1) := by decide +kernel
theorem dX12_undo_2 : decode cX12_undo 2 = .ok (.putfield 3, 3) := by decide +kernel
theorem dX12_undo_5 : decode cX12_undo 5 = .ok (.aload_n 0, 1) := by decide +kernel
theorem dX12_undo_6 : decode cX12_undo 6 = .ok (.getfield 52, 3) := by decide +kernel
theorem dX12_undo_9 : decode cX12_undo 9 = .ok (.ifCond .ne 5, 3) := by decide +kernel
theorem dX12_undo_12 : decode cX12_undo 12 = .ok (.iconst 0, 1) := by decide +kernel
theorem dX12_undo_13 : decode cX12_undo 13 = .ok (.ireturn, 1) := by decide +kernel
theorem dX12_undo_14 : decode cX12_undo 14 = .ok (.aload_n 0, 1) := by decide +kernel
theorem dX12_undo_15 : decode cX12_undo 15 = .ok (.dup, 1) := by decide +kernel
theorem dX12_undo_16 : decode cX12_undo 16 = .ok (.getfield 52, 3) := by decide +kernel
theorem dX12_undo_19 : decode cX12_undo 19 = .ok (.iconst 1, 1) := by decide +kernel
theorem dX12_undo_20 : decode cX12_undo 20 = .ok (.isub, 1) := by decide +kernel
theorem dX12_undo_21 : decode cX12_undo 21 = .ok (.putfield 52, 3) := by decide +kernel
theorem dX12_undo_24 : decode cX12_undo 24 = .ok (.iconst 0, 1) := by decide +kernel
theorem dX12_undo_25 : decode cX12_undo 25 = .ok (.istore_n 1, 1) := by decide +kernel
theorem dX12_undo_26 : decode cX12_undo 26 = .ok (.iload_n 1, 1) := by decide +kernel
theorem dX12_undo_27 : decode cX12_undo 27 = .ok (.sipush 382, 3) := by decide +kernel
theorem dX12_undo_30 : decode cX12_undo 30 = .ok (.if_icmp .ge 30, 3) := by decide +kernel
theorem dX12_undo_33 : decode cX12_undo 33 = .ok (.aload_n 0, 1) := by decide +kernel
theorem dX12_undo_34 : decode cX12_undo 34 = .ok (.getfield 13, 3) := by decide +kernel
theorem dX12_undo_37 : decode cX12_undo 37 = .ok (.iload_n 1, 1) := by decide +kernel
theorem dX12_undo_38 : decode cX12_undo 38 = .ok (.aload_n 0, 1) := by decide +kernel
theorem dX12_undo_39 : decode cX12_undo 39 = .ok (.getfield 26, 3) := by decide +kernel
theorem dX12_undo_42 : decode cX12_undo 42 = .ok (.sipush 382, 3) := by decide +kernel
theorem dX12_undo_45 : decode cX12_undo 45 = .ok (.aload_n 0, 1) := by decide +kernel
theorem dX12_undo_46 : decode cX12_undo 46 = .ok (.getfield 52, 3) := by decide +kernel
theorem dX12_undo_49 : decode cX12_undo 49 = .ok (.imul, 1) := by decide +kernel
theorem dX12_undo_50 : decode cX12_undo 50 = .ok (.iload_n 1, 1) := by decide +kernel
theorem dX12_undo_51 : decode cX12_undo 51 = .ok (.iadd, 1) := by decide +kernel
theorem dX12_undo_52 : decode cX12_undo 52 = .ok (.iaload, 1) := by decide +kernel
theorem dX12_undo_53 : decode cX12_undo 53 = .ok (.iastore, 1) := by decide +kernel
theorem dX12_undo_54 : decode cX12_undo 54 = .ok (.iinc 1 1, 3) := by decide +kernel
theorem dX12_undo_57 : decode cX12_undo 57 = .ok (.goto (-31), 3) := by decide +kernel
theorem dX12_undo_60 : decode cX12_undo 60 = .ok (.iconst 1, 1) := by decide +kernel
theorem dX12_undo_61 : decode cX12_undo 61 = .ok (.ireturn, 1) := by decide +kernel
theorem dX12_planks_0 : decode cX12_planks 0 = .ok (.aload_n 0, 1) := by decide +kernel
theorem dX12_planks_1 : decode cX12_planks 1 = .ok (.getfield 13, 3) := by decide +kernel
theorem dX12_planks_4 : decode cX12_planks 4 = .ok (.iconst 0, 1) := by decide +kernel
theorem dX12_planks_5 : decode cX12_planks 5 = .ok (.iaload, 1) := by decide +kernel
theorem dX12_planks_6 : decode cX12_planks 6 = .ok (.ireturn, 1) := by decide +kernel
theorem dX12_houses_0 : decode cX12_houses 0 = .ok (.iconst 2, 1) := by decide +kernel
theorem dX12_houses_1 : decode cX12_houses 1 = .ok (.aload_n 0, 1) := by decide +kernel
theorem dX12_houses_2 : decode cX12_houses 2 = .ok (.invokevirtual 55, 3) := by decide +kernel
theorem dX12_houses_5 : decode cX12_houses 5 = .ok (.imul, 1) := by decide +kernel
theorem dX12_houses_6 : decode cX12_houses 6 = .ok (.ireturn, 1) := by decide +kernel
theorem dX12_things_0 : decode cX12_things 0 = .ok (.aload_n 0, 1) := by decide +kernel
theorem dX12_things_1 : decode cX12_things 1 = .ok (.getfield 13, 3) := by decide +kernel
theorem dX12_things_4 : decode cX12_things 4 = .ok (.iconst 1, 1) := by decide +kernel
theorem dX12_things_5 : decode cX12_things 5 = .ok (.iaload, 1) := by decide +kernel
theorem dX12_things_6 : decode cX12_things 6 = .ok (.ireturn, 1) := by decide +kernel
theorem dX12_plankAt_0 : decode cX12_plankAt 0 = .ok (.bipush 12, 2) := by decide +kernel
theorem dX12_plankAt_2 : decode cX12_plankAt 2 = .ok (.iconst 4, 1) := by decide +kernel
theorem dX12_plankAt_3 : decode cX12_plankAt 3 = .ok (.iload_n 0, 1) := by decide +kernel
theorem dX12_plankAt_4 : decode cX12_plankAt 4 = .ok (.imul, 1) := by decide +kernel
theorem dX12_plankAt_5 : decode cX12_plankAt 5 = .ok (.iadd, 1) := by decide +kernel
theorem dX12_plankAt_6 : decode cX12_plankAt 6 = .ok (.iload_n 1, 1) := by decide +kernel
theorem dX12_plankAt_7 : decode cX12_plankAt 7 = .ok (.iadd, 1) := by decide +kernel
theorem dX12_plankAt_8 : decode cX12_plankAt 8 = .ok (.ireturn, 1) := by decide +kernel
theorem dX12_ofPlank_0 : decode cX12_ofPlank 0 = .ok (.aload_n 0, 1) := by decide +kernel
theorem dX12_ofPlank_1 : decode cX12_ofPlank 1 = .ok (.getfield 13, 3) := by decide +kernel
theorem dX12_ofPlank_4 : decode cX12_ofPlank 4 = .ok (.iload_n 1, 1) := by decide +kernel
theorem dX12_ofPlank_5 : decode cX12_ofPlank 5 = .ok (.iload_n 2, 1) := by decide +kernel
theorem dX12_ofPlank_6 : decode cX12_ofPlank 6 = .ok (.invokestatic 59, 3) := by decide +kernel
theorem dX12_ofPlank_9 : decode cX12_ofPlank 9 = .ok (.iaload, 1) := by decide +kernel
theorem dX12_ofPlank_10 : decode cX12_ofPlank 10 = .ok (.ireturn, 1) := by decide +kernel
theorem dX12_isBroken_0 : decode cX12_isBroken 0 = .ok (.aload_n 0, 1) := by decide +kernel
theorem dX12_isBroken_1 : decode cX12_isBroken 1 = .ok (.iload_n 1, 1) := by decide +kernel
theorem dX12_isBroken_2 : decode cX12_isBroken 2 = .ok (.iconst 3, 1) := by decide +kernel
theorem dX12_isBroken_3 : decode cX12_isBroken 3 = .ok (.invokevirtual 63, 3) := by decide +kernel
theorem dX12_isBroken_6 : decode cX12_isBroken 6 = .ok (.iconst 1, 1) := by decide +kernel
theorem dX12_isBroken_7 : decode cX12_isBroken 7 = .ok (.if_icmp .ne 7, 3) := by decide +kernel
theorem dX12_isBroken_10 : decode cX12_isBroken 10 = .ok (.iconst 1, 1) := by decide +kernel
theorem dX12_isBroken_11 : decode cX12_isBroken 11 = .ok (.goto 4, 3) := by decide +kernel
theorem dX12_isBroken_14 : decode cX12_isBroken 14 = .ok (.iconst 0, 1) := by decide +kernel
theorem dX12_isBroken_15 : decode cX12_isBroken 15 = .ok (.ireturn, 1) := by decide +kernel
theorem dX12_isPropped_0 : decode cX12_isPropped 0 = .ok (.aload_n 0, 1) := by decide +kernel
theorem dX12_isPropped_1 : decode cX12_isPropped 1 = .ok (.iload_n 1, 1) := by decide +kernel
theorem dX12_isPropped_2 : decode cX12_isPropped 2 = .ok (.iconst 2, 1) := by decide +kernel
theorem dX12_isPropped_3 : decode cX12_isPropped 3 = .ok (.invokevirtual 63, 3) := by decide +kernel
theorem dX12_isPropped_6 : decode cX12_isPropped 6 = .ok (.iconst 1, 1) := by decide +kernel
theorem dX12_isPropped_7 : decode cX12_isPropped 7 = .ok (.if_icmp .ne 7, 3) := by decide +kernel
theorem dX12_isPropped_10 : decode cX12_isPropped 10 = .ok (.iconst 1, 1) := by decide +kernel
theorem dX12_isPropped_11 : decode cX12_isPropped 11 = .ok (.goto 4, 3) := by decide +kernel
theorem dX12_isPropped_14 : decode cX12_isPropped 14 = .ok (.iconst 0, 1) := by decide +kernel
theorem dX12_isPropped_15 : decode cX12_isPropped 15 = .ok (.ireturn, 1) := by decide +kernel
theorem dX12_houseAt_0 : decode cX12_houseAt 0 = .ok (.bipush 32, 2) := by decide +kernel
theorem dX12_houseAt_2 : decode cX12_houseAt 2 = .ok (.iconst 2, 1) := by decide +kernel
theorem dX12_houseAt_3 : decode cX12_houseAt 3 = .ok (.iload_n 0, 1) := by decide +kernel
theorem dX12_houseAt_4 : decode cX12_houseAt 4 = .ok (.imul, 1) := by decide +kernel
theorem dX12_houseAt_5 : decode cX12_houseAt 5 = .ok (.iadd, 1) := by decide +kernel
theorem dX12_houseAt_6 : decode cX12_houseAt 6 = .ok (.iload_n 1, 1) := by decide +kernel
theorem dX12_houseAt_7 : decode cX12_houseAt 7 = .ok (.iadd, 1) := by decide +kernel
theorem dX12_houseAt_8 : decode cX12_houseAt 8 = .ok (.ireturn, 1) := by decide +kernel
theorem dX12_of_0 : decode cX12_of 0 = .ok (.aload_n 0, 1) := by decide +kernel
theorem dX12_of_1 : decode cX12_of 1 = .ok (.getfield 13, 3) := by decide +kernel
theorem dX12_of_4 : decode cX12_of 4 = .ok (.iload_n 1, 1) := by decide +kernel
theorem dX12_of_5 : decode cX12_of 5 = .ok (.iload_n 2, 1) := by decide +kernel
theorem dX12_of_6 : decode cX12_of 6 = .ok (.invokestatic 66, 3) := by decide +kernel
theorem dX12_of_9 : decode cX12_of 9 = .ok (.iaload, 1) := by decide +kernel
theorem dX12_of_10 : decode cX12_of 10 = .ok (.ireturn, 1) := by decide +kernel
theorem dX12_thingAt_0 : decode cX12_thingAt 0 = .ok (.bipush 52, 2) := by decide +kernel
theorem dX12_thingAt_2 : decode cX12_thingAt 2 = .ok (.iconst 3, 1) := by decide +kernel
theorem dX12_thingAt_3 : decode cX12_thingAt 3 = .ok (.iload_n 0, 1) := by decide +kernel
theorem dX12_thingAt_4 : decode cX12_thingAt 4 = .ok (.imul, 1) := by decide +kernel
theorem dX12_thingAt_5 : decode cX12_thingAt 5 = .ok (.iadd, 1) := by decide +kernel
theorem dX12_thingAt_6 : decode cX12_thingAt 6 = .ok (.iload_n 1, 1) := by decide +kernel
theorem dX12_thingAt_7 : decode cX12_thingAt 7 = .ok (.iadd, 1) := by decide +kernel
theorem dX12_thingAt_8 : decode cX12_thingAt 8 = .ok (.ireturn, 1) := by decide +kernel
theorem dX12_ofThing_0 : decode cX12_ofThing 0 = .ok (.aload_n 0, 1) := by decide +kernel
theorem dX12_ofThing_1 : decode cX12_ofThing 1 = .ok (.getfield 13, 3) := by decide +kernel
theorem dX12_ofThing_4 : decode cX12_ofThing 4 = .ok (.iload_n 1, 1) := by decide +kernel
theorem dX12_ofThing_5 : decode cX12_ofThing 5 = .ok (.iload_n 2, 1) := by decide +kernel
theorem dX12_ofThing_6 : decode cX12_ofThing 6 = .ok (.invokestatic 69, 3) := by decide +kernel
theorem dX12_ofThing_9 : decode cX12_ofThing 9 = .ok (.iaload, 1) := by decide +kernel
theorem dX12_ofThing_10 : decode cX12_ofThing 10 = .ok (.ireturn, 1) := by decide +kernel
theorem dX12_isGone_0 : decode cX12_isGone 0 = .ok (.aload_n 0, 1) := by decide +kernel
theorem dX12_isGone_1 : decode cX12_isGone 1 = .ok (.iload_n 1, 1) := by decide +kernel
theorem dX12_isGone_2 : decode cX12_isGone 2 = .ok (.iconst 2, 1) := by decide +kernel
theorem dX12_isGone_3 : decode cX12_isGone 3 = .ok (.invokevirtual 72, 3) := by decide +kernel
theorem dX12_isGone_6 : decode cX12_isGone 6 = .ok (.iconst (-1), 1) := by decide +kernel
theorem dX12_isGone_7 : decode cX12_isGone 7 = .ok (.if_icmp .ne 7, 3) := by decide +kernel
theorem dX12_isGone_10 : decode cX12_isGone 10 = .ok (.iconst 1, 1) := by decide +kernel
theorem dX12_isGone_11 : decode cX12_isGone 11 = .ok (.goto 4, 3) := by decide +kernel
theorem dX12_isGone_14 : decode cX12_isGone 14 = .ok (.iconst 0, 1) := by decide +kernel
theorem dX12_isGone_15 : decode cX12_isGone 15 = .ok (.ireturn, 1) := by decide +kernel
theorem dX12_noPlank_0 : decode cX12_noPlank 0 = .ok (.iload_n 1, 1) := by decide +kernel
theorem dX12_noPlank_1 : decode cX12_noPlank 1 = .ok (.iconst 0, 1) := by decide +kernel
theorem dX12_noPlank_2 : decode cX12_noPlank 2 = .ok (.aload_n 0, 1) := by decide +kernel
theorem dX12_noPlank_3 : decode cX12_noPlank 3 = .ok (.invokevirtual 55, 3) := by decide +kernel
theorem dX12_noPlank_6 : decode cX12_noPlank 6 = .ok (.iconst 1, 1) := by decide +kernel
theorem dX12_noPlank_7 : decode cX12_noPlank 7 = .ok (.isub, 1) := by decide +kernel
theorem dX12_noPlank_8 : decode cX12_noPlank 8 = .ok (.invokestatic 75, 3) := by decide +kernel
theorem dX12_noPlank_11 : decode cX12_noPlank 11 = .ok (.ifCond .ne 7, 3) := by decide +kernel
theorem dX12_noPlank_14 : decode cX12_noPlank 14 = .ok (.iconst 1, 1) := by decide +kernel
theorem dX12_noPlank_15 : decode cX12_noPlank 15 = .ok (.goto 4, 3) := by decide +kernel
theorem dX12_noPlank_18 : decode cX12_noPlank 18 = .ok (.iconst 0, 1) := by decide +kernel
theorem dX12_noPlank_19 : decode cX12_noPlank 19 = .ok (.ireturn, 1) := by decide +kernel
theorem dX12_noHouse_0 : decode cX12_noHouse 0 = .ok (.iload_n 1, 1) := by decide +kernel
theorem dX12_noHouse_1 : decode cX12_noHouse 1 = .ok (.iconst 0, 1) := by decide +kernel
theorem dX12_noHouse_2 : decode cX12_noHouse 2 = .ok (.aload_n 0, 1) := by decide +kernel
theorem dX12_noHouse_3 : decode cX12_noHouse 3 = .ok (.invokevirtual 79, 3) := by decide +kernel
theorem dX12_noHouse_6 : decode cX12_noHouse 6 = .ok (.iconst 1, 1) := by decide +kernel
theorem dX12_noHouse_7 : decode cX12_noHouse 7 = .ok (.isub, 1) := by decide +kernel
theorem dX12_noHouse_8 : decode cX12_noHouse 8 = .ok (.invokestatic 75, 3) := by decide +kernel
theorem dX12_noHouse_11 : decode cX12_noHouse 11 = .ok (.ifCond .ne 7, 3) := by decide +kernel
theorem dX12_noHouse_14 : decode cX12_noHouse 14 = .ok (.iconst 1, 1) := by decide +kernel
theorem dX12_noHouse_15 : decode cX12_noHouse 15 = .ok (.goto 4, 3) := by decide +kernel
theorem dX12_noHouse_18 : decode cX12_noHouse 18 = .ok (.iconst 0, 1) := by decide +kernel
theorem dX12_noHouse_19 : decode cX12_noHouse 19 = .ok (.ireturn, 1) := by decide +kernel
theorem dX12_noThing_0 : decode cX12_noThing 0 = .ok (.iload_n 1, 1) := by decide +kernel
theorem dX12_noThing_1 : decode cX12_noThing 1 = .ok (.iconst 0, 1) := by decide +kernel
theorem dX12_noThing_2 : decode cX12_noThing 2 = .ok (.aload_n 0, 1) := by decide +kernel
theorem dX12_noThing_3 : decode cX12_noThing 3 = .ok (.invokevirtual 82, 3) := by decide +kernel
theorem dX12_noThing_6 : decode cX12_noThing 6 = .ok (.iconst 1, 1) := by decide +kernel
theorem dX12_noThing_7 : decode cX12_noThing 7 = .ok (.isub, 1) := by decide +kernel
theorem dX12_noThing_8 : decode cX12_noThing 8 = .ok (.invokestatic 75, 3) := by decide +kernel
theorem dX12_noThing_11 : decode cX12_noThing 11 = .ok (.ifCond .ne 7, 3) := by decide +kernel
theorem dX12_noThing_14 : decode cX12_noThing 14 = .ok (.iconst 1, 1) := by decide +kernel
theorem dX12_noThing_15 : decode cX12_noThing 15 = .ok (.goto 4, 3) := by decide +kernel
theorem dX12_noThing_18 : decode cX12_noThing 18 = .ok (.iconst 0, 1) := by decide +kernel
theorem dX12_noThing_19 : decode cX12_noThing 19 = .ok (.ireturn, 1) := by decide +kernel
theorem dX12_drawn_0 : decode cX12_drawn 0 = .ok (.aload_n 0, 1) := by decide +kernel
theorem dX12_drawn_1 : decode cX12_drawn 1 = .ok (.getfield 13, 3) := by decide +kernel
theorem dX12_drawn_4 : decode cX12_drawn 4 = .ok (.bipush 11, 2) := by decide +kernel
theorem dX12_drawn_6 : decode cX12_drawn 6 = .ok (.ldc 85, 2) := by decide +kernel
theorem dX12_drawn_8 : decode cX12_drawn 8 = .ok (.aload_n 0, 1) := by decide +kernel
theorem dX12_drawn_9 : decode cX12_drawn 9 = .ok (.getfield 13, 3) := by decide +kernel
theorem dX12_drawn_12 : decode cX12_drawn 12 = .ok (.bipush 11, 2) := by decide +kernel
theorem dX12_drawn_14 : decode cX12_drawn 14 = .ok (.iaload, 1) := by decide +kernel
theorem dX12_drawn_15 : decode cX12_drawn 15 = .ok (.imul, 1) := by decide +kernel
theorem dX12_drawn_16 : decode cX12_drawn 16 = .ok (.sipush 12345, 3) := by decide +kernel
theorem dX12_drawn_19 : decode cX12_drawn 19 = .ok (.iadd, 1) := by decide +kernel
theorem dX12_drawn_20 : decode cX12_drawn 20 = .ok (.iastore, 1) := by decide +kernel
theorem dX12_drawn_21 : decode cX12_drawn 21 = .ok (.aload_n 0, 1) := by decide +kernel
theorem dX12_drawn_22 : decode cX12_drawn 22 = .ok (.getfield 13, 3) := by decide +kernel
theorem dX12_drawn_25 : decode cX12_drawn 25 = .ok (.bipush 11, 2) := by decide +kernel
theorem dX12_drawn_27 : decode cX12_drawn 27 = .ok (.iaload, 1) := by decide +kernel
theorem dX12_drawn_28 : decode cX12_drawn 28 = .ok (.bipush 16, 2) := by decide +kernel
theorem dX12_drawn_30 : decode cX12_drawn 30 = .ok (.ishr, 1) := by decide +kernel
theorem dX12_drawn_31 : decode cX12_drawn 31 = .ok (.sipush 32767, 3) := by decide +kernel
theorem dX12_drawn_34 : decode cX12_drawn 34 = .ok (.iand, 1) := by decide +kernel
theorem dX12_drawn_35 : decode cX12_drawn 35 = .ok (.iload_n 1, 1) := by decide +kernel
theorem dX12_drawn_36 : decode cX12_drawn 36 = .ok (.irem, 1) := by decide +kernel
theorem dX12_drawn_37 : decode cX12_drawn 37 = .ok (.ireturn, 1) := by decide +kernel
theorem dX12_feed_0 : decode cX12_feed 0 = .ok (.aload_n 0, 1) := by decide +kernel
theorem dX12_feed_1 : decode cX12_feed 1 = .ok (.iconst 0, 1) := by decide +kernel
theorem dX12_feed_2 : decode cX12_feed 2 = .ok (.putfield 3, 3) := by decide +kernel
theorem dX12_feed_5 : decode cX12_feed 5 = .ok (.aload_n 0, 1) := by decide +kernel
theorem dX12_feed_6 : decode cX12_feed 6 = .ok (.getfield 86, 3) := by decide +kernel
theorem dX12_feed_9 : decode cX12_feed 9 = .ok (.bipush 20, 2) := by decide +kernel
theorem dX12_feed_11 : decode cX12_feed 11 = .ok (.iadd, 1) := by decide +kernel
theorem dX12_feed_12 : decode cX12_feed 12 = .ok (.sipush 400, 3) := by decide +kernel
theorem dX12_feed_15 : decode cX12_feed 15 = .ok (.if_icmp .le 5, 3) := by decide +kernel
theorem dX12_feed_18 : decode cX12_feed 18 = .ok (.iconst (-1), 1) := by decide +kernel
theorem dX12_feed_19 : decode cX12_feed 19 = .ok (.ireturn, 1) := by decide +kernel
theorem dX12_feed_20 : decode cX12_feed 20 = .ok (.aload_n 0, 1) := by decide +kernel
theorem dX12_feed_21 : decode cX12_feed 21 = .ok (.getfield 36, 3) := by decide +kernel
theorem dX12_feed_24 : decode cX12_feed 24 = .ok (.iconst 0, 1) := by decide +kernel
theorem dX12_feed_25 : decode cX12_feed 25 = .ok (.iload_n 1, 1) := by decide +kernel
theorem dX12_feed_26 : decode cX12_feed 26 = .ok (.iastore, 1) := by decide +kernel
theorem dX12_feed_27 : decode cX12_feed 27 = .ok (.aload_n 0, 1) := by decide +kernel
theorem dX12_feed_28 : decode cX12_feed 28 = .ok (.getfield 36, 3) := by decide +kernel
theorem dX12_feed_31 : decode cX12_feed 31 = .ok (.iconst 1, 1) := by decide +kernel
theorem dX12_feed_32 : decode cX12_feed 32 = .ok (.iload_n 2, 1) := by decide +kernel
theorem dX12_feed_33 : decode cX12_feed 33 = .ok (.iastore, 1) := by decide +kernel
theorem dX12_feed_34 : decode cX12_feed 34 = .ok (.aload_n 0, 1) := by decide +kernel
theorem dX12_feed_35 : decode cX12_feed 35 = .ok (.getfield 36, 3) := by decide +kernel
theorem dX12_feed_38 : decode cX12_feed 38 = .ok (.iconst 2, 1) := by decide +kernel
theorem dX12_feed_39 : decode cX12_feed 39 = .ok (.iload_n 3, 1) := by decide +kernel
theorem dX12_feed_40 : decode cX12_feed 40 = .ok (.iastore, 1) := by decide +kernel
theorem dX12_feed_41 : decode cX12_feed 41 = .ok (.aload_n 0, 1) := by decide +kernel
theorem dX12_feed_42 : decode cX12_feed 42 = .ok (.getfield 36, 3) := by decide +kernel
theorem dX12_feed_45 : decode cX12_feed 45 = .ok (.iconst 3, 1) := by decide +kernel
theorem dX12_feed_46 : decode cX12_feed 46 = .ok (.iload 4, 2) := by decide +kernel
theorem dX12_feed_48 : decode cX12_feed 48 = .ok (.iastore, 1) := by decide +kernel
theorem dX12_feed_49 : decode cX12_feed 49 = .ok (.aload_n 0, 1) := by decide +kernel
theorem dX12_feed_50 : decode cX12_feed 50 = .ok (.getfield 36, 3) := by decide +kernel
theorem dX12_feed_53 : decode cX12_feed 53 = .ok (.iconst 4, 1) := by decide +kernel
theorem dX12_feed_54 : decode cX12_feed 54 = .ok (.iload 5, 2) := by decide +kernel
theorem dX12_feed_56 : decode cX12_feed 56 = .ok (.iastore, 1) := by decide +kernel
theorem dX12_feed_57 : decode cX12_feed 57 = .ok (.iconst 0, 1) := by decide +kernel
theorem dX12_feed_58 : decode cX12_feed 58 = .ok (.istore 6, 2) := by decide +kernel
theorem dX12_feed_60 : decode cX12_feed 60 = .ok (.iload 6, 2) := by decide +kernel
theorem dX12_feed_62 : decode cX12_feed 62 = .ok (.bipush 20, 2) := by decide +kernel
theorem dX12_feed_64 : decode cX12_feed 64 = .ok (.if_icmp .ge 42, 3) := by decide +kernel
theorem dX12_feed_67 : decode cX12_feed 67 = .ok (.aload_n 0, 1) := by decide +kernel
theorem dX12_feed_68 : decode cX12_feed 68 = .ok (.getfield 29, 3) := by decide +kernel
theorem dX12_feed_71 : decode cX12_feed 71 = .ok (.aload_n 0, 1) := by decide +kernel
theorem dX12_feed_72 : decode cX12_feed 72 = .ok (.getfield 86, 3) := by decide +kernel
theorem dX12_feed_75 : decode cX12_feed 75 = .ok (.iload 6, 2) := by decide +kernel
theorem dX12_feed_77 : decode cX12_feed 77 = .ok (.iadd, 1) := by decide +kernel
theorem dX12_feed_78 : decode cX12_feed 78 = .ok (.aload_n 0, 1) := by decide +kernel
theorem dX12_feed_79 : decode cX12_feed 79 = .ok (.getfield 36, 3) := by decide +kernel
theorem dX12_feed_82 : decode cX12_feed 82 = .ok (.iload 6, 2) := by decide +kernel
theorem dX12_feed_84 : decode cX12_feed 84 = .ok (.iconst 4, 1) := by decide +kernel
theorem dX12_feed_85 : decode cX12_feed 85 = .ok (.idiv, 1) := by decide +kernel
theorem dX12_feed_86 : decode cX12_feed 86 = .ok (.iaload, 1) := by decide +kernel
theorem dX12_feed_87 : decode cX12_feed 87 = .ok (.bipush 24, 2) := by decide +kernel
theorem dX12_feed_89 : decode cX12_feed 89 = .ok (.bipush 8, 2) := by decide +kernel
theorem dX12_feed_91 : decode cX12_feed 91 = .ok (.iload 6, 2) := by decide +kernel
theorem dX12_feed_93 : decode cX12_feed 93 = .ok (.iconst 4, 1) := by decide +kernel
theorem dX12_feed_94 : decode cX12_feed 94 = .ok (.irem, 1) := by decide +kernel
theorem dX12_feed_95 : decode cX12_feed 95 = .ok (.imul, 1) := by decide +kernel
theorem dX12_feed_96 : decode cX12_feed 96 = .ok (.isub, 1) := by decide +kernel
theorem dX12_feed_97 : decode cX12_feed 97 = .ok (.ishr, 1) := by decide +kernel
theorem dX12_feed_98 : decode cX12_feed 98 = .ok (.i2b, 1) := by decide +kernel
theorem dX12_feed_99 : decode cX12_feed 99 = .ok (.bastore, 1) := by decide +kernel
theorem dX12_feed_100 : decode cX12_feed 100 = .ok (.iinc 6 1, 3) := by decide +kernel
theorem dX12_feed_103 : decode cX12_feed 103 = .ok (.goto (-43), 3) := by decide +kernel
theorem dX12_feed_106 : decode cX12_feed 106 = .ok (.aload_n 0, 1) := by decide +kernel
theorem dX12_feed_107 : decode cX12_feed 107 = .ok (.dup, 1) := by decide +kernel
theorem dX12_feed_108 : decode cX12_feed 108 = .ok (.getfield 86, 3) := by decide +kernel
theorem dX12_feed_111 : decode cX12_feed 111 = .ok (.bipush 20, 2) := by decide +kernel
theorem dX12_feed_113 : decode cX12_feed 113 = .ok (.iadd, 1) := by decide +kernel
theorem dX12_feed_114 : decode cX12_feed 114 = .ok (.putfield 86, 3) := by decide +kernel
theorem dX12_feed_117 : decode cX12_feed 117 = .ok (.aload_n 0, 1) := by decide +kernel
theorem dX12_feed_118 : decode cX12_feed 118 = .ok (.getfield 86, 3) := by decide +kernel
theorem dX12_feed_121 : decode cX12_feed 121 = .ok (.ireturn, 1) := by decide +kernel
theorem dX12_end_0 : decode cX12_end 0 = .ok (.aload_n 0, 1) := by decide +kernel
theorem dX12_end_1 : decode cX12_end 1 = .ok (.iconst 0, 1) := by decide +kernel
theorem dX12_end_2 : decode cX12_end 2 = .ok (.putfield 3, 3) := by decide +kernel
theorem dX12_end_5 : decode cX12_end 5 = .ok (.iload_n 1, 1) := by decide +kernel
theorem dX12_end_6 : decode cX12_end 6 = .ok (.ifCond .lt 11, 3) := by decide +kernel
theorem dX12_end_9 : decode cX12_end 9 = .ok (.iload_n 1, 1) := by decide +kernel
theorem dX12_end_10 : decode cX12_end 10 = .ok (.aload_n 0, 1) := by decide +kernel
theorem dX12_end_11 : decode cX12_end 11 = .ok (.getfield 86, 3) := by decide +kernel
theorem dX12_end_14 : decode cX12_end 14 = .ok (.if_icmp .le 5, 3) := by decide +kernel
theorem dX12_end_17 : decode cX12_end 17 = .ok (.iconst 0, 1) := by decide +kernel
theorem dX12_end_18 : decode cX12_end 18 = .ok (.ireturn, 1) := by decide +kernel
theorem dX12_end_19 : decode cX12_end 19 = .ok (.aload_n 0, 1) := by decide +kernel
theorem dX12_end_20 : decode cX12_end 20 = .ok (.iload_n 1, 1) := by decide +kernel
theorem dX12_end_21 : decode cX12_end 21 = .ok (.putfield 86, 3) := by decide +kernel
theorem dX12_end_24 : decode cX12_end 24 = .ok (.iconst 1, 1) := by decide +kernel
theorem dX12_end_25 : decode cX12_end 25 = .ok (.ireturn, 1) := by decide +kernel
theorem dX12_isAt_0 : decode cX12_isAt 0 = .ok (.aload_n 0, 1) := by decide +kernel
theorem dX12_isAt_1 : decode cX12_isAt 1 = .ok (.getfield 89, 3) := by decide +kernel
theorem dX12_isAt_4 : decode cX12_isAt 4 = .ok (.aload_n 0, 1) := by decide +kernel
theorem dX12_isAt_5 : decode cX12_isAt 5 = .ok (.getfield 92, 3) := by decide +kernel
theorem dX12_isAt_8 : decode cX12_isAt 8 = .ok (.if_icmp .ge 33, 3) := by decide +kernel
theorem dX12_isAt_11 : decode cX12_isAt 11 = .ok (.aload_n 0, 1) := by decide +kernel
theorem dX12_isAt_12 : decode cX12_isAt 12 = .ok (.getfield 29, 3) := by decide +kernel
theorem dX12_isAt_15 : decode cX12_isAt 15 = .ok (.aload_n 0, 1) := by decide +kernel
theorem dX12_isAt_16 : decode cX12_isAt 16 = .ok (.getfield 89, 3) := by decide +kernel
theorem dX12_isAt_19 : decode cX12_isAt 19 = .ok (.baload, 1) := by decide +kernel
theorem dX12_isAt_20 : decode cX12_isAt 20 = .ok (.iload_n 1, 1) := by decide +kernel
theorem dX12_isAt_21 : decode cX12_isAt 21 = .ok (.if_icmp .lt 20, 3) := by decide +kernel
theorem dX12_isAt_24 : decode cX12_isAt 24 = .ok (.aload_n 0, 1) := by decide +kernel
theorem dX12_isAt_25 : decode cX12_isAt 25 = .ok (.getfield 29, 3) := by decide +kernel
theorem dX12_isAt_28 : decode cX12_isAt 28 = .ok (.aload_n 0, 1) := by decide +kernel
theorem dX12_isAt_29 : decode cX12_isAt 29 = .ok (.getfield 89, 3) := by decide +kernel
theorem dX12_isAt_32 : decode cX12_isAt 32 = .ok (.baload, 1) := by decide +kernel
theorem dX12_isAt_33 : decode cX12_isAt 33 = .ok (.iload_n 2, 1) := by decide +kernel
theorem dX12_isAt_34 : decode cX12_isAt 34 = .ok (.if_icmp .gt 7, 3) := by decide +kernel
theorem dX12_isAt_37 : decode cX12_isAt 37 = .ok (.iconst 1, 1) := by decide +kernel
theorem dX12_isAt_38 : decode cX12_isAt 38 = .ok (.goto 4, 3) := by decide +kernel
theorem dX12_isAt_41 : decode cX12_isAt 41 = .ok (.iconst 0, 1) := by decide +kernel
theorem dX12_isAt_42 : decode cX12_isAt 42 = .ok (.ireturn, 1) := by decide +kernel
theorem dX12_blanks_0 : decode cX12_blanks 0 = .ok (.aload_n 0, 1) := by decide +kernel
theorem dX12_blanks_1 : decode cX12_blanks 1 = .ok (.bipush 32, 2) := by decide +kernel
theorem dX12_blanks_3 : decode cX12_blanks 3 = .ok (.bipush 32, 2) := by decide +kernel
theorem dX12_blanks_5 : decode cX12_blanks 5 = .ok (.invokevirtual 95, 3) := by decide +kernel
theorem dX12_blanks_8 : decode cX12_blanks 8 = .ok (.ifCond .eq 16, 3) := by decide +kernel
theorem dX12_blanks_11 : decode cX12_blanks 11 = .ok (.aload_n 0, 1) := by decide +kernel
theorem dX12_blanks_12 : decode cX12_blanks 12 = .ok (.dup, 1) := by decide +kernel
theorem dX12_blanks_13 : decode cX12_blanks 13 = .ok (.getfield 89, 3) := by decide +kernel
theorem dX12_blanks_16 : decode cX12_blanks 16 = .ok (.iconst 1, 1) := by decide +kernel
theorem dX12_blanks_17 : decode cX12_blanks 17 = .ok (.iadd, 1) := by decide +kernel
theorem dX12_blanks_18 : decode cX12_blanks 18 = .ok (.putfield 89, 3) := by decide +kernel
theorem dX12_blanks_21 : decode cX12_blanks 21 = .ok (.goto (-21), 3) := by decide +kernel
theorem dX12_blanks_24 : decode cX12_blanks 24 = .ok (.aload_n 0, 1) := by decide +kernel
theorem dX12_blanks_25 : decode cX12_blanks 25 = .ok (.aload_n 0, 1) := by decide +kernel
theorem dX12_blanks_26 : decode cX12_blanks 26 = .ok (.getfield 89, 3) := by decide +kernel
theorem dX12_blanks_29 : decode cX12_blanks 29 = .ok (.putfield 99, 3) := by decide +kernel
theorem dX12_blanks_32 : decode cX12_blanks 32 = .ok (.return_, 1) := by decide +kernel
theorem dX12_letters_0 : decode cX12_letters 0 = .ok (.aload_n 0, 1) := by decide +kernel
theorem dX12_letters_1 : decode cX12_letters 1 = .ok (.invokevirtual 102, 3) := by decide +kernel
theorem dX12_letters_4 : decode cX12_letters 4 = .ok (.aload_n 0, 1) := by decide +kernel
theorem dX12_letters_5 : decode cX12_letters 5 = .ok (.bipush 97, 2) := by decide +kernel
theorem dX12_letters_7 : decode cX12_letters 7 = .ok (.bipush 122, 2) := by decide +kernel
theorem dX12_letters_9 : decode cX12_letters 9 = .ok (.invokevirtual 95, 3) := by decide +kernel
theorem dX12_letters_12 : decode cX12_letters 12 = .ok (.ifCond .eq 16, 3) := by decide +kernel
theorem dX12_letters_15 : decode cX12_letters 15 = .ok (.aload_n 0, 1) := by decide +kernel
theorem dX12_letters_16 : decode cX12_letters 16 = .ok (.dup, 1) := by decide +kernel
theorem dX12_letters_17 : decode cX12_letters 17 = .ok (.getfield 89, 3) := by decide +kernel
theorem dX12_letters_20 : decode cX12_letters 20 = .ok (.iconst 1, 1) := by decide +kernel
theorem dX12_letters_21 : decode cX12_letters 21 = .ok (.iadd, 1) := by decide +kernel
theorem dX12_letters_22 : decode cX12_letters 22 = .ok (.putfield 89, 3) := by decide +kernel
theorem dX12_letters_25 : decode cX12_letters 25 = .ok (.goto (-21), 3) := by decide +kernel
theorem dX12_letters_28 : decode cX12_letters 28 = .ok (.return_, 1) := by decide +kernel
theorem dX12_isWord_0 : decode cX12_isWord 0 = .ok (.aload_n 0, 1) := by decide +kernel
theorem dX12_isWord_1 : decode cX12_isWord 1 = .ok (.getfield 89, 3) := by decide +kernel
theorem dX12_isWord_4 : decode cX12_isWord 4 = .ok (.aload_n 0, 1) := by decide +kernel
theorem dX12_isWord_5 : decode cX12_isWord 5 = .ok (.getfield 99, 3) := by decide +kernel
theorem dX12_isWord_8 : decode cX12_isWord 8 = .ok (.isub, 1) := by decide +kernel
theorem dX12_isWord_9 : decode cX12_isWord 9 = .ok (.aload_n 1, 1) := by decide +kernel
theorem dX12_isWord_10 : decode cX12_isWord 10 = .ok (.invokevirtual 105, 3) := by decide +kernel
theorem dX12_isWord_13 : decode cX12_isWord 13 = .ok (.if_icmp .ne 7, 3) := by decide +kernel
theorem dX12_isWord_16 : decode cX12_isWord 16 = .ok (.iconst 1, 1) := by decide +kernel
theorem dX12_isWord_17 : decode cX12_isWord 17 = .ok (.goto 4, 3) := by decide +kernel
theorem dX12_isWord_20 : decode cX12_isWord 20 = .ok (.iconst 0, 1) := by decide +kernel
theorem dX12_isWord_21 : decode cX12_isWord 21 = .ok (.istore_n 2, 1) := by decide +kernel
theorem dX12_isWord_22 : decode cX12_isWord 22 = .ok (.iconst 0, 1) := by decide +kernel
theorem dX12_isWord_23 : decode cX12_isWord 23 = .ok (.istore_n 3, 1) := by decide +kernel
theorem dX12_isWord_24 : decode cX12_isWord 24 = .ok (.iload_n 2, 1) := by decide +kernel
theorem dX12_isWord_25 : decode cX12_isWord 25 = .ok (.ifCond .eq 42, 3) := by decide +kernel
theorem dX12_isWord_28 : decode cX12_isWord 28 = .ok (.iload_n 3, 1) := by decide +kernel
theorem dX12_isWord_29 : decode cX12_isWord 29 = .ok (.aload_n 1, 1) := by decide +kernel
theorem dX12_isWord_30 : decode cX12_isWord 30 = .ok (.invokevirtual 105, 3) := by decide +kernel
theorem dX12_isWord_33 : decode cX12_isWord 33 = .ok (.if_icmp .ge 34, 3) := by decide +kernel
theorem dX12_isWord_36 : decode cX12_isWord 36 = .ok (.aload_n 0, 1) := by decide +kernel
theorem dX12_isWord_37 : decode cX12_isWord 37 = .ok (.getfield 29, 3) := by decide +kernel
theorem dX12_isWord_40 : decode cX12_isWord 40 = .ok (.aload_n 0, 1) := by decide +kernel
theorem dX12_isWord_41 : decode cX12_isWord 41 = .ok (.getfield 99, 3) := by decide +kernel
theorem dX12_isWord_44 : decode cX12_isWord 44 = .ok (.iload_n 3, 1) := by decide +kernel
theorem dX12_isWord_45 : decode cX12_isWord 45 = .ok (.iadd, 1) := by decide +kernel
theorem dX12_isWord_46 : decode cX12_isWord 46 = .ok (.baload, 1) := by decide +kernel
theorem dX12_isWord_47 : decode cX12_isWord 47 = .ok (.aload_n 1, 1) := by decide +kernel
theorem dX12_isWord_48 : decode cX12_isWord 48 = .ok (.iload_n 3, 1) := by decide +kernel
theorem dX12_isWord_49 : decode cX12_isWord 49 = .ok (.invokevirtual 110, 3) := by decide +kernel
theorem dX12_isWord_52 : decode cX12_isWord 52 = .ok (.if_icmp .ne 7, 3) := by decide +kernel
theorem dX12_isWord_55 : decode cX12_isWord 55 = .ok (.iconst 1, 1) := by decide +kernel
theorem dX12_isWord_56 : decode cX12_isWord 56 = .ok (.goto 4, 3) := by decide +kernel
theorem dX12_isWord_59 : decode cX12_isWord 59 = .ok (.iconst 0, 1) := by decide +kernel
theorem dX12_isWord_60 : decode cX12_isWord 60 = .ok (.istore_n 2, 1) := by decide +kernel
theorem dX12_isWord_61 : decode cX12_isWord 61 = .ok (.iinc 3 1, 3) := by decide +kernel
theorem dX12_isWord_64 : decode cX12_isWord 64 = .ok (.goto (-40), 3) := by decide +kernel
theorem dX12_isWord_67 : decode cX12_isWord 67 = .ok (.iload_n 2, 1) := by decide +kernel
theorem dX12_isWord_68 : decode cX12_isWord 68 = .ok (.ireturn, 1) := by decide +kernel
theorem dX12_passes_0 : decode cX12_passes 0 = .ok (.aload_n 0, 1) := by decide +kernel
theorem dX12_passes_1 : decode cX12_passes 1 = .ok (.invokevirtual 114, 3) := by decide +kernel
theorem dX12_passes_4 : decode cX12_passes 4 = .ok (.aload_n 0, 1) := by decide +kernel
theorem dX12_passes_5 : decode cX12_passes 5 = .ok (.aload_n 1, 1) := by decide +kernel
theorem dX12_passes_6 : decode cX12_passes 6 = .ok (.invokevirtual 117, 3) := by decide +kernel
theorem dX12_passes_9 : decode cX12_passes 9 = .ok (.ifCond .eq 5, 3) := by decide +kernel
theorem dX12_passes_12 : decode cX12_passes 12 = .ok (.iconst 1, 1) := by decide +kernel
theorem dX12_passes_13 : decode cX12_passes 13 = .ok (.ireturn, 1) := by decide +kernel
theorem dX12_passes_14 : decode cX12_passes 14 = .ok (.aload_n 0, 1) := by decide +kernel
theorem dX12_passes_15 : decode cX12_passes 15 = .ok (.aload_n 0, 1) := by decide +kernel
theorem dX12_passes_16 : decode cX12_passes 16 = .ok (.getfield 99, 3) := by decide +kernel
theorem dX12_passes_19 : decode cX12_passes 19 = .ok (.putfield 89, 3) := by decide +kernel
theorem dX12_passes_22 : decode cX12_passes 22 = .ok (.iconst 0, 1) := by decide +kernel
theorem dX12_passes_23 : decode cX12_passes 23 = .ok (.ireturn, 1) := by decide +kernel
theorem dX12_sign_0 : decode cX12_sign 0 = .ok (.aload_n 0, 1) := by decide +kernel
theorem dX12_sign_1 : decode cX12_sign 1 = .ok (.invokevirtual 102, 3) := by decide +kernel
theorem dX12_sign_4 : decode cX12_sign 4 = .ok (.aload_n 0, 1) := by decide +kernel
theorem dX12_sign_5 : decode cX12_sign 5 = .ok (.iload_n 1, 1) := by decide +kernel
theorem dX12_sign_6 : decode cX12_sign 6 = .ok (.iload_n 1, 1) := by decide +kernel
theorem dX12_sign_7 : decode cX12_sign 7 = .ok (.invokevirtual 95, 3) := by decide +kernel
theorem dX12_sign_10 : decode cX12_sign 10 = .ok (.ifCond .ne 5, 3) := by decide +kernel
theorem dX12_sign_13 : decode cX12_sign 13 = .ok (.iconst 0, 1) := by decide +kernel
theorem dX12_sign_14 : decode cX12_sign 14 = .ok (.ireturn, 1) := by decide +kernel
theorem dX12_sign_15 : decode cX12_sign 15 = .ok (.aload_n 0, 1) := by decide +kernel
theorem dX12_sign_16 : decode cX12_sign 16 = .ok (.dup, 1) := by decide +kernel
theorem dX12_sign_17 : decode cX12_sign 17 = .ok (.getfield 89, 3) := by decide +kernel
theorem dX12_sign_20 : decode cX12_sign 20 = .ok (.iconst 1, 1) := by decide +kernel
theorem dX12_sign_21 : decode cX12_sign 21 = .ok (.iadd, 1) := by decide +kernel
theorem dX12_sign_22 : decode cX12_sign 22 = .ok (.putfield 89, 3) := by decide +kernel
theorem dX12_sign_25 : decode cX12_sign 25 = .ok (.iconst 1, 1) := by decide +kernel
theorem dX12_sign_26 : decode cX12_sign 26 = .ok (.ireturn, 1) := by decide +kernel
theorem dX12_number_0 : decode cX12_number 0 = .ok (.aload_n 0, 1) := by decide +kernel
theorem dX12_number_1 : decode cX12_number 1 = .ok (.invokevirtual 102, 3) := by decide +kernel
theorem dX12_number_4 : decode cX12_number 4 = .ok (.iconst 0, 1) := by decide +kernel
theorem dX12_number_5 : decode cX12_number 5 = .ok (.istore_n 3, 1) := by decide +kernel
theorem dX12_number_6 : decode cX12_number 6 = .ok (.aload_n 0, 1) := by decide +kernel
theorem dX12_number_7 : decode cX12_number 7 = .ok (.bipush 48, 2) := by decide +kernel
theorem dX12_number_9 : decode cX12_number 9 = .ok (.bipush 57, 2) := by decide +kernel
theorem dX12_number_11 : decode cX12_number 11 = .ok (.invokevirtual 95, 3) := by decide +kernel
theorem dX12_number_14 : decode cX12_number 14 = .ok (.ifCond .eq 51, 3) := by decide +kernel
theorem dX12_number_17 : decode cX12_number 17 = .ok (.aload_n 0, 1) := by decide +kernel
theorem dX12_number_18 : decode cX12_number 18 = .ok (.getfield 89, 3) := by decide +kernel
theorem dX12_number_21 : decode cX12_number 21 = .ok (.aload_n 0, 1) := by decide +kernel
theorem dX12_number_22 : decode cX12_number 22 = .ok (.getfield 99, 3) := by decide +kernel
theorem dX12_number_25 : decode cX12_number 25 = .ok (.isub, 1) := by decide +kernel
theorem dX12_number_26 : decode cX12_number 26 = .ok (.iconst 3, 1) := by decide +kernel
theorem dX12_number_27 : decode cX12_number 27 = .ok (.if_icmp .ge 23, 3) := by decide +kernel
theorem dX12_number_30 : decode cX12_number 30 = .ok (.bipush 10, 2) := by decide +kernel
theorem dX12_number_32 : decode cX12_number 32 = .ok (.iload_n 3, 1) := by decide +kernel
theorem dX12_number_33 : decode cX12_number 33 = .ok (.imul, 1) := by decide +kernel
theorem dX12_number_34 : decode cX12_number 34 = .ok (.aload_n 0, 1) := by decide +kernel
theorem dX12_number_35 : decode cX12_number 35 = .ok (.getfield 29, 3) := by decide +kernel
theorem dX12_number_38 : decode cX12_number 38 = .ok (.aload_n 0, 1) := by decide +kernel
theorem dX12_number_39 : decode cX12_number 39 = .ok (.getfield 89, 3) := by decide +kernel
theorem dX12_number_42 : decode cX12_number 42 = .ok (.baload, 1) := by decide +kernel
theorem dX12_number_43 : decode cX12_number 43 = .ok (.iadd, 1) := by decide +kernel
theorem dX12_number_44 : decode cX12_number 44 = .ok (.bipush 48, 2) := by decide +kernel
theorem dX12_number_46 : decode cX12_number 46 = .ok (.isub, 1) := by decide +kernel
theorem dX12_number_47 : decode cX12_number 47 = .ok (.goto 4, 3) := by decide +kernel
theorem dX12_number_50 : decode cX12_number 50 = .ok (.iload_n 3, 1) := by decide +kernel
theorem dX12_number_51 : decode cX12_number 51 = .ok (.istore_n 3, 1) := by decide +kernel
theorem dX12_number_52 : decode cX12_number 52 = .ok (.aload_n 0, 1) := by decide +kernel
theorem dX12_number_53 : decode cX12_number 53 = .ok (.dup, 1) := by decide +kernel
theorem dX12_number_54 : decode cX12_number 54 = .ok (.getfield 89, 3) := by decide +kernel
theorem dX12_number_57 : decode cX12_number 57 = .ok (.iconst 1, 1) := by decide +kernel
theorem dX12_number_58 : decode cX12_number 58 = .ok (.iadd, 1) := by decide +kernel
theorem dX12_number_59 : decode cX12_number 59 = .ok (.putfield 89, 3) := by decide +kernel
theorem dX12_number_62 : decode cX12_number 62 = .ok (.goto (-56), 3) := by decide +kernel
theorem dX12_number_65 : decode cX12_number 65 = .ok (.aload_n 0, 1) := by decide +kernel
theorem dX12_number_66 : decode cX12_number 66 = .ok (.getfield 89, 3) := by decide +kernel
theorem dX12_number_69 : decode cX12_number 69 = .ok (.aload_n 0, 1) := by decide +kernel
theorem dX12_number_70 : decode cX12_number 70 = .ok (.getfield 99, 3) := by decide +kernel
theorem dX12_number_73 : decode cX12_number 73 = .ok (.if_icmp .eq 26, 3) := by decide +kernel
theorem dX12_number_76 : decode cX12_number 76 = .ok (.aload_n 0, 1) := by decide +kernel
theorem dX12_number_77 : decode cX12_number 77 = .ok (.getfield 89, 3) := by decide +kernel
theorem dX12_number_80 : decode cX12_number 80 = .ok (.aload_n 0, 1) := by decide +kernel
theorem dX12_number_81 : decode cX12_number 81 = .ok (.getfield 99, 3) := by decide +kernel
theorem dX12_number_84 : decode cX12_number 84 = .ok (.isub, 1) := by decide +kernel
theorem dX12_number_85 : decode cX12_number 85 = .ok (.iconst 3, 1) := by decide +kernel
theorem dX12_number_86 : decode cX12_number 86 = .ok (.if_icmp .gt 13, 3) := by decide +kernel
theorem dX12_number_89 : decode cX12_number 89 = .ok (.iload_n 3, 1) := by decide +kernel
theorem dX12_number_90 : decode cX12_number 90 = .ok (.iload_n 1, 1) := by decide +kernel
theorem dX12_number_91 : decode cX12_number 91 = .ok (.if_icmp .lt 8, 3) := by decide +kernel
theorem dX12_number_94 : decode cX12_number 94 = .ok (.iload_n 3, 1) := by decide +kernel
theorem dX12_number_95 : decode cX12_number 95 = .ok (.iload_n 2, 1) := by decide +kernel
theorem dX12_number_96 : decode cX12_number 96 = .ok (.if_icmp .le 7, 3) := by decide +kernel
theorem dX12_number_99 : decode cX12_number 99 = .ok (.iconst (-1), 1) := by decide +kernel
theorem dX12_number_100 : decode cX12_number 100 = .ok (.goto 4, 3) := by decide +kernel
theorem dX12_number_103 : decode cX12_number 103 = .ok (.iload_n 3, 1) := by decide +kernel
theorem dX12_number_104 : decode cX12_number 104 = .ok (.ireturn, 1) := by decide +kernel
theorem dX12_after_0 : decode cX12_after 0 = .ok (.aload_n 0, 1) := by decide +kernel
theorem dX12_after_1 : decode cX12_after 1 = .ok (.invokevirtual 114, 3) := by decide +kernel
theorem dX12_after_4 : decode cX12_after 4 = .ok (.aload_n 0, 1) := by decide +kernel
theorem dX12_after_5 : decode cX12_after 5 = .ok (.aload_n 1, 1) := by decide +kernel
theorem dX12_after_6 : decode cX12_after 6 = .ok (.invokevirtual 117, 3) := by decide +kernel
theorem dX12_after_9 : decode cX12_after 9 = .ok (.ifCond .eq 12, 3) := by decide +kernel
theorem dX12_after_12 : decode cX12_after 12 = .ok (.aload_n 0, 1) := by decide +kernel
theorem dX12_after_13 : decode cX12_after 13 = .ok (.iload_n 2, 1) := by decide +kernel
theorem dX12_after_14 : decode cX12_after 14 = .ok (.iload_n 3, 1) := by decide +kernel
theorem dX12_after_15 : decode cX12_after 15 = .ok (.invokevirtual 121, 3) := by decide +kernel
theorem dX12_after_18 : decode cX12_after 18 = .ok (.goto 4, 3) := by decide +kernel
theorem dX12_after_21 : decode cX12_after 21 = .ok (.iconst (-1), 1) := by decide +kernel
theorem dX12_after_22 : decode cX12_after 22 = .ok (.ireturn, 1) := by decide +kernel
theorem dX12_fault_0 : decode cX12_fault 0 = .ok (.aload_n 0, 1) := by decide +kernel
theorem dX12_fault_1 : decode cX12_fault 1 = .ok (.iconst 0, 1) := by decide +kernel
theorem dX12_fault_2 : decode cX12_fault 2 = .ok (.putfield 3, 3) := by decide +kernel
theorem dX12_fault_5 : decode cX12_fault 5 = .ok (.aload_n 0, 1) := by decide +kernel
theorem dX12_fault_6 : decode cX12_fault 6 = .ok (.getfield 33, 3) := by decide +kernel
theorem dX12_fault_9 : decode cX12_fault 9 = .ok (.ireturn, 1) := by decide +kernel
theorem dX12_uses_0 : decode cX12_uses 0 = .ok (.aload_n 0, 1) := by decide +kernel
theorem dX12_uses_1 : decode cX12_uses 1 = .ok (.iconst 0, 1) := by decide +kernel
theorem dX12_uses_2 : decode cX12_uses 2 = .ok (.putfield 3, 3) := by decide +kernel
theorem dX12_uses_5 : decode cX12_uses 5 = .ok (.aload_n 0, 1) := by decide +kernel
theorem dX12_uses_6 : decode cX12_uses 6 = .ok (.aload_n 0, 1) := by decide +kernel
theorem dX12_uses_7 : decode cX12_uses 7 = .ok (.getfield 86, 3) := by decide +kernel
theorem dX12_uses_10 : decode cX12_uses 10 = .ok (.putfield 92, 3) := by decide +kernel
theorem dX12_uses_13 : decode cX12_uses 13 = .ok (.aload_n 0, 1) := by decide +kernel
theorem dX12_uses_14 : decode cX12_uses 14 = .ok (.iconst 0, 1) := by decide +kernel
theorem dX12_uses_15 : decode cX12_uses 15 = .ok (.putfield 86, 3) := by decide +kernel
theorem dX12_uses_18 : decode cX12_uses 18 = .ok (.aload_n 0, 1) := by decide +kernel
theorem dX12_uses_19 : decode cX12_uses 19 = .ok (.iconst 0, 1) := by decide +kernel
theorem dX12_uses_20 : decode cX12_uses 20 = .ok (.putfield 89, 3) := by decide +kernel
theorem dX12_uses_23 : decode cX12_uses 23 = .ok (.return_, 1) := by decide +kernel
theorem dX12_readNumber_0 : decode cX12_readNumber 0 = .ok (.aload_n 0, 1) := by decide +kernel
theorem dX12_readNumber_1 : decode cX12_readNumber 1 = .ok (.iload_n 2, 1) := by decide +kernel
theorem dX12_readNumber_2 : decode cX12_readNumber 2 = .ok (.iload_n 3, 1) := by decide +kernel
theorem dX12_readNumber_3 : decode cX12_readNumber 3 = .ok (.invokevirtual 121, 3) := by decide +kernel
theorem dX12_readNumber_6 : decode cX12_readNumber 6 = .ok (.istore 4, 2) := by decide +kernel
theorem dX12_readNumber_8 : decode cX12_readNumber 8 = .ok (.aload_n 0, 1) := by decide +kernel
theorem dX12_readNumber_9 : decode cX12_readNumber 9 = .ok (.getfield 13, 3) := by decide +kernel
theorem dX12_readNumber_12 : decode cX12_readNumber 12 = .ok (.iload_n 1, 1) := by decide +kernel
theorem dX12_readNumber_13 : decode cX12_readNumber 13 = .ok (.iload 4, 2) := by decide +kernel
theorem dX12_readNumber_15 : decode cX12_readNumber 15 = .ok (.ifCond .ge 12, 3) := by decide +kernel
theorem dX12_readNumber_18 : decode cX12_readNumber 18 = .ok (.aload_n 0, 1) := by decide +kernel
theorem dX12_readNumber_19 : decode cX12_readNumber 19 = .ok (.getfield 13, 3) := by decide +kernel
theorem dX12_readNumber_22 : decode cX12_readNumber 22 = .ok (.iload_n 1, 1) := by decide +kernel
theorem dX12_readNumber_23 : decode cX12_readNumber 23 = .ok (.iaload, 1) := by decide +kernel
theorem dX12_readNumber_24 : decode cX12_readNumber 24 = .ok (.goto 5, 3) := by decide +kernel
theorem dX12_readNumber_27 : decode cX12_readNumber 27 = .ok (.iload 4, 2) := by decide +kernel
theorem dX12_readNumber_29 : decode cX12_readNumber 29 = .ok (.iastore, 1) := by decide +kernel
theorem dX12_readNumber_30 : decode cX12_readNumber 30 = .ok (.iload 4, 2) := by decide +kernel
theorem dX12_readNumber_32 : decode cX12_readNumber 32 = .ok (.ifCond .lt 7, 3) := by decide +kernel
theorem dX12_readNumber_35 : decode cX12_readNumber 35 = .ok (.iconst 1, 1) := by decide +kernel
theorem dX12_readNumber_36 : decode cX12_readNumber 36 = .ok (.goto 4, 3) := by decide +kernel
theorem dX12_readNumber_39 : decode cX12_readNumber 39 = .ok (.iconst 0, 1) := by decide +kernel
theorem dX12_readNumber_40 : decode cX12_readNumber 40 = .ok (.ireturn, 1) := by decide +kernel
theorem dX12_readPlank_0 : decode cX12_readPlank 0 = .ok (.aload_n 0, 1) := by decide +kernel
theorem dX12_readPlank_1 : decode cX12_readPlank 1 = .ok (.invokevirtual 55, 3) := by decide +kernel
theorem dX12_readPlank_4 : decode cX12_readPlank 4 = .ok (.istore_n 1, 1) := by decide +kernel
theorem dX12_readPlank_5 : decode cX12_readPlank 5 = .ok (.iload_n 1, 1) := by decide +kernel
theorem dX12_readPlank_6 : decode cX12_readPlank 6 = .ok (.iconst 5, 1) := by decide +kernel
theorem dX12_readPlank_7 : decode cX12_readPlank 7 = .ok (.if_icmp .ne 5, 3) := by decide +kernel
theorem dX12_readPlank_10 : decode cX12_readPlank 10 = .ok (.iconst 0, 1) := by decide +kernel
theorem dX12_readPlank_11 : decode cX12_readPlank 11 = .ok (.ireturn, 1) := by decide +kernel
theorem dX12_readPlank_12 : decode cX12_readPlank 12 = .ok (.aload_n 0, 1) := by decide +kernel
theorem dX12_readPlank_13 : decode cX12_readPlank 13 = .ok (.bipush 10, 2) := by decide +kernel
theorem dX12_readPlank_15 : decode cX12_readPlank 15 = .ok (.sipush 400, 3) := by decide +kernel
theorem dX12_readPlank_18 : decode cX12_readPlank 18 = .ok (.invokevirtual 121, 3) := by decide +kernel
theorem dX12_readPlank_21 : decode cX12_readPlank 21 = .ok (.istore_n 2, 1) := by decide +kernel
theorem dX12_readPlank_22 : decode cX12_readPlank 22 = .ok (.iload_n 2, 1) := by decide +kernel
theorem dX12_readPlank_23 : decode cX12_readPlank 23 = .ok (.ifCond .ge 5, 3) := by decide +kernel
theorem dX12_readPlank_26 : decode cX12_readPlank 26 = .ok (.iconst 0, 1) := by decide +kernel
theorem dX12_readPlank_27 : decode cX12_readPlank 27 = .ok (.ireturn, 1) := by decide +kernel
theorem dX12_readPlank_28 : decode cX12_readPlank 28 = .ok (.aload_n 0, 1) := by decide +kernel
theorem dX12_readPlank_29 : decode cX12_readPlank 29 = .ok (.ldc 124, 2) := by decide +kernel
theorem dX12_readPlank_31 : decode cX12_readPlank 31 = .ok (.invokevirtual 126, 3) := by decide +kernel
theorem dX12_readPlank_34 : decode cX12_readPlank 34 = .ok (.ifCond .eq 13, 3) := by decide +kernel
theorem dX12_readPlank_37 : decode cX12_readPlank 37 = .ok (.aload_n 0, 1) := by decide +kernel
theorem dX12_readPlank_38 : decode cX12_readPlank 38 = .ok (.iconst 0, 1) := by decide +kernel
theorem dX12_readPlank_39 : decode cX12_readPlank 39 = .ok (.bipush 99, 2) := by decide +kernel
theorem dX12_readPlank_41 : decode cX12_readPlank 41 = .ok (.invokevirtual 121, 3) := by decide +kernel
theorem dX12_readPlank_44 : decode cX12_readPlank 44 = .ok (.goto 4, 3) := by decide +kernel
theorem dX12_readPlank_47 : decode cX12_readPlank 47 = .ok (.iconst 0, 1) := by decide +kernel
theorem dX12_readPlank_48 : decode cX12_readPlank 48 = .ok (.istore_n 3, 1) := by decide +kernel
theorem dX12_readPlank_49 : decode cX12_readPlank 49 = .ok (.iload_n 3, 1) := by decide +kernel
theorem dX12_readPlank_50 : decode cX12_readPlank 50 = .ok (.ifCond .ge 5, 3) := by decide +kernel
theorem dX12_readPlank_53 : decode cX12_readPlank 53 = .ok (.iconst 0, 1) := by decide +kernel
theorem dX12_readPlank_54 : decode cX12_readPlank 54 = .ok (.ireturn, 1) := by decide +kernel
theorem dX12_readPlank_55 : decode cX12_readPlank 55 = .ok (.aload_n 0, 1) := by decide +kernel
theorem dX12_readPlank_56 : decode cX12_readPlank 56 = .ok (.getfield 13, 3) := by decide +kernel
theorem dX12_readPlank_59 : decode cX12_readPlank 59 = .ok (.iload_n 1, 1) := by decide +kernel
theorem dX12_readPlank_60 : decode cX12_readPlank 60 = .ok (.iconst 0, 1) := by decide +kernel
theorem dX12_readPlank_61 : decode cX12_readPlank 61 = .ok (.invokestatic 59, 3) := by decide +kernel
theorem dX12_readPlank_64 : decode cX12_readPlank 64 = .ok (.iload_n 2, 1) := by decide +kernel
theorem dX12_readPlank_65 : decode cX12_readPlank 65 = .ok (.iastore, 1) := by decide +kernel
theorem dX12_readPlank_66 : decode cX12_readPlank 66 = .ok (.aload_n 0, 1) := by decide +kernel
theorem dX12_readPlank_67 : decode cX12_readPlank 67 = .ok (.getfield 13, 3) := by decide +kernel
theorem dX12_readPlank_70 : decode cX12_readPlank 70 = .ok (.iload_n 1, 1) := by decide +kernel
theorem dX12_readPlank_71 : decode cX12_readPlank 71 = .ok (.iconst 1, 1) := by decide +kernel
theorem dX12_readPlank_72 : decode cX12_readPlank 72 = .ok (.invokestatic 59, 3) := by decide +kernel
theorem dX12_readPlank_75 : decode cX12_readPlank 75 = .ok (.iload_n 3, 1) := by decide +kernel
theorem dX12_readPlank_76 : decode cX12_readPlank 76 = .ok (.iastore, 1) := by decide +kernel
theorem dX12_readPlank_77 : decode cX12_readPlank 77 = .ok (.aload_n 0, 1) := by decide +kernel
theorem dX12_readPlank_78 : decode cX12_readPlank 78 = .ok (.getfield 13, 3) := by decide +kernel
theorem dX12_readPlank_81 : decode cX12_readPlank 81 = .ok (.iload_n 1, 1) := by decide +kernel
theorem dX12_readPlank_82 : decode cX12_readPlank 82 = .ok (.iconst 2, 1) := by decide +kernel
theorem dX12_readPlank_83 : decode cX12_readPlank 83 = .ok (.invokestatic 59, 3) := by decide +kernel
theorem dX12_readPlank_86 : decode cX12_readPlank 86 = .ok (.iconst 0, 1) := by decide +kernel
theorem dX12_readPlank_87 : decode cX12_readPlank 87 = .ok (.iastore, 1) := by decide +kernel
theorem dX12_readPlank_88 : decode cX12_readPlank 88 = .ok (.aload_n 0, 1) := by decide +kernel
theorem dX12_readPlank_89 : decode cX12_readPlank 89 = .ok (.getfield 13, 3) := by decide +kernel
theorem dX12_readPlank_92 : decode cX12_readPlank 92 = .ok (.iload_n 1, 1) := by decide +kernel
theorem dX12_readPlank_93 : decode cX12_readPlank 93 = .ok (.iconst 3, 1) := by decide +kernel
theorem dX12_readPlank_94 : decode cX12_readPlank 94 = .ok (.invokestatic 59, 3) := by decide +kernel
theorem dX12_readPlank_97 : decode cX12_readPlank 97 = .ok (.iconst 0, 1) := by decide +kernel
theorem dX12_readPlank_98 : decode cX12_readPlank 98 = .ok (.iastore, 1) := by decide +kernel
theorem dX12_readPlank_99 : decode cX12_readPlank 99 = .ok (.iconst 2, 1) := by decide +kernel
theorem dX12_readPlank_100 : decode cX12_readPlank 100 = .ok (.iload_n 1, 1) := by decide +kernel
theorem dX12_readPlank_101 : decode cX12_readPlank 101 = .ok (.imul, 1) := by decide +kernel
theorem dX12_readPlank_102 : decode cX12_readPlank 102 = .ok (.istore 4, 2) := by decide +kernel
theorem dX12_readPlank_104 : decode cX12_readPlank 104 = .ok (.iload 4, 2) := by decide +kernel
theorem dX12_readPlank_106 : decode cX12_readPlank 106 = .ok (.iconst 2, 1) := by decide +kernel
theorem dX12_readPlank_107 : decode cX12_readPlank 107 = .ok (.iload_n 1, 1) := by decide +kernel
theorem dX12_readPlank_108 : decode cX12_readPlank 108 = .ok (.imul, 1) := by decide +kernel
theorem dX12_readPlank_109 : decode cX12_readPlank 109 = .ok (.iconst 1, 1) := by decide +kernel
theorem dX12_readPlank_110 : decode cX12_readPlank 110 = .ok (.iadd, 1) := by decide +kernel
theorem dX12_readPlank_111 : decode cX12_readPlank 111 = .ok (.if_icmp .gt 34, 3) := by decide +kernel
theorem dX12_readPlank_114 : decode cX12_readPlank 114 = .ok (.aload_n 0, 1) := by decide +kernel
theorem dX12_readPlank_115 : decode cX12_readPlank 115 = .ok (.getfield 13, 3) := by decide +kernel
theorem dX12_readPlank_118 : decode cX12_readPlank 118 = .ok (.iload 4, 2) := by decide +kernel
theorem dX12_readPlank_120 : decode cX12_readPlank 120 = .ok (.iconst 0, 1) := by decide +kernel
theorem dX12_readPlank_121 : decode cX12_readPlank 121 = .ok (.invokestatic 66, 3) := by decide +kernel
theorem dX12_readPlank_124 : decode cX12_readPlank 124 = .ok (.bipush 100, 2) := by decide +kernel
theorem dX12_readPlank_126 : decode cX12_readPlank 126 = .ok (.iastore, 1) := by decide +kernel
theorem dX12_readPlank_127 : decode cX12_readPlank 127 = .ok (.aload_n 0, 1) := by decide +kernel
theorem dX12_readPlank_128 : decode cX12_readPlank 128 = .ok (.getfield 13, 3) := by decide +kernel
theorem dX12_readPlank_131 : decode cX12_readPlank 131 = .ok (.iload 4, 2) := by decide +kernel
theorem dX12_readPlank_133 : decode cX12_readPlank 133 = .ok (.iconst 1, 1) := by decide +kernel
theorem dX12_readPlank_134 : decode cX12_readPlank 134 = .ok (.invokestatic 66, 3) := by decide +kernel
theorem dX12_readPlank_137 : decode cX12_readPlank 137 = .ok (.iconst 0, 1) := by decide +kernel
theorem dX12_readPlank_138 : decode cX12_readPlank 138 = .ok (.iastore, 1) := by decide +kernel
theorem dX12_readPlank_139 : decode cX12_readPlank 139 = .ok (.iinc 4 1, 3) := by decide +kernel
theorem dX12_readPlank_142 : decode cX12_readPlank 142 = .ok (.goto (-38), 3) := by decide +kernel
theorem dX12_readPlank_145 : decode cX12_readPlank 145 = .ok (.aload_n 0, 1) := by decide +kernel
theorem dX12_readPlank_146 : decode cX12_readPlank 146 = .ok (.getfield 13, 3) := by decide +kernel
theorem dX12_readPlank_149 : decode cX12_readPlank 149 = .ok (.iconst 0, 1) := by decide +kernel
theorem dX12_readPlank_150 : decode cX12_readPlank 150 = .ok (.dup2, 1) := by decide +kernel
theorem dX12_readPlank_151 : decode cX12_readPlank 151 = .ok (.iaload, 1) := by decide +kernel
theorem dX12_readPlank_152 : decode cX12_readPlank 152 = .ok (.iconst 1, 1) := by decide +kernel
theorem dX12_readPlank_153 : decode cX12_readPlank 153 = .ok (.iadd, 1) := by decide +kernel
theorem dX12_readPlank_154 : decode cX12_readPlank 154 = .ok (.iastore, 1) := by decide +kernel
theorem dX12_readPlank_155 : decode cX12_readPlank 155 = .ok (.iconst 1, 1) := by decide +kernel
theorem dX12_readPlank_156 : decode cX12_readPlank 156 = .ok (.ireturn, 1) := by decide +kernel
theorem dX12_readHouse_0 : decode cX12_readHouse 0 = .ok (.aload_n 0, 1) := by decide +kernel
theorem dX12_readHouse_1 : decode cX12_readHouse 1 = .ok (.iconst 0, 1) := by decide +kernel
theorem dX12_readHouse_2 : decode cX12_readHouse 2 = .ok (.aload_n 0, 1) := by decide +kernel
theorem dX12_readHouse_3 : decode cX12_readHouse 3 = .ok (.invokevirtual 79, 3) := by decide +kernel
theorem dX12_readHouse_6 : decode cX12_readHouse 6 = .ok (.iconst 1, 1) := by decide +kernel
theorem dX12_readHouse_7 : decode cX12_readHouse 7 = .ok (.isub, 1) := by decide +kernel
theorem dX12_readHouse_8 : decode cX12_readHouse 8 = .ok (.invokevirtual 121, 3) := by decide +kernel
theorem dX12_readHouse_11 : decode cX12_readHouse 11 = .ok (.istore_n 3, 1) := by decide +kernel
theorem dX12_readHouse_12 : decode cX12_readHouse 12 = .ok (.iload_n 3, 1) := by decide +kernel
theorem dX12_readHouse_13 : decode cX12_readHouse 13 = .ok (.ifCond .lt 21, 3) := by decide +kernel
theorem dX12_readHouse_16 : decode cX12_readHouse 16 = .ok (.aload_n 0, 1) := by decide +kernel
theorem dX12_readHouse_17 : decode cX12_readHouse 17 = .ok (.iload_n 3, 1) := by decide +kernel
theorem dX12_readHouse_18 : decode cX12_readHouse 18 = .ok (.iload_n 1, 1) := by decide +kernel
theorem dX12_readHouse_19 : decode cX12_readHouse 19 = .ok (.invokestatic 66, 3) := by decide +kernel
theorem dX12_readHouse_22 : decode cX12_readHouse 22 = .ok (.iconst 0, 1) := by decide +kernel
theorem dX12_readHouse_23 : decode cX12_readHouse 23 = .ok (.iload_n 2, 1) := by decide +kernel
theorem dX12_readHouse_24 : decode cX12_readHouse 24 = .ok (.invokevirtual 129, 3) := by decide +kernel
theorem dX12_readHouse_27 : decode cX12_readHouse 27 = .ok (.ifCond .eq 7, 3) := by decide +kernel
theorem dX12_readHouse_30 : decode cX12_readHouse 30 = .ok (.iconst 1, 1) := by decide +kernel
theorem dX12_readHouse_31 : decode cX12_readHouse 31 = .ok (.goto 4, 3) := by decide +kernel
theorem dX12_readHouse_34 : decode cX12_readHouse 34 = .ok (.iconst 0, 1) := by decide +kernel
theorem dX12_readHouse_35 : decode cX12_readHouse 35 = .ok (.ireturn, 1) := by decide +kernel
theorem dX12_readThing_0 : decode cX12_readThing 0 = .ok (.aload_n 0, 1) := by decide +kernel
theorem dX12_readThing_1 : decode cX12_readThing 1 = .ok (.invokevirtual 82, 3) := by decide +kernel
theorem dX12_readThing_4 : decode cX12_readThing 4 = .ok (.istore_n 1, 1) := by decide +kernel
theorem dX12_readThing_5 : decode cX12_readThing 5 = .ok (.iload_n 1, 1) := by decide +kernel
theorem dX12_readThing_6 : decode cX12_readThing 6 = .ok (.bipush 10, 2) := by decide +kernel
theorem dX12_readThing_8 : decode cX12_readThing 8 = .ok (.if_icmp .ne 5, 3) := by decide +kernel
theorem dX12_readThing_11 : decode cX12_readThing 11 = .ok (.iconst 0, 1) := by decide +kernel
theorem dX12_readThing_12 : decode cX12_readThing 12 = .ok (.ireturn, 1) := by decide +kernel
theorem dX12_readThing_13 : decode cX12_readThing 13 = .ok (.aload_n 0, 1) := by decide +kernel
theorem dX12_readThing_14 : decode cX12_readThing 14 = .ok (.iconst 1, 1) := by decide +kernel
theorem dX12_readThing_15 : decode cX12_readThing 15 = .ok (.bipush 60, 2) := by decide +kernel
theorem dX12_readThing_17 : decode cX12_readThing 17 = .ok (.invokevirtual 121, 3) := by decide +kernel
theorem dX12_readThing_20 : decode cX12_readThing 20 = .ok (.istore_n 2, 1) := by decide +kernel
theorem dX12_readThing_21 : decode cX12_readThing 21 = .ok (.iload_n 2, 1) := by decide +kernel
theorem dX12_readThing_22 : decode cX12_readThing 22 = .ok (.ifCond .ge 7, 3) := by decide +kernel
theorem dX12_readThing_25 : decode cX12_readThing 25 = .ok (.iconst (-1), 1) := by decide +kernel
theorem dX12_readThing_26 : decode cX12_readThing 26 = .ok (.goto 12, 3) := by decide +kernel
theorem dX12_readThing_29 : decode cX12_readThing 29 = .ok (.aload_n 0, 1) := by decide +kernel
theorem dX12_readThing_30 : decode cX12_readThing 30 = .ok (.ldc 132, 2) := by decide +kernel
theorem dX12_readThing_32 : decode cX12_readThing 32 = .ok (.iconst 0, 1) := by decide +kernel
theorem dX12_readThing_33 : decode cX12_readThing 33 = .ok (.bipush 99, 2) := by decide +kernel
theorem dX12_readThing_35 : decode cX12_readThing 35 = .ok (.invokevirtual 134, 3) := by decide +kernel
theorem dX12_readThing_38 : decode cX12_readThing 38 = .ok (.istore_n 3, 1) := by decide +kernel
theorem dX12_readThing_39 : decode cX12_readThing 39 = .ok (.iload_n 3, 1) := by decide +kernel
theorem dX12_readThing_40 : decode cX12_readThing 40 = .ok (.ifCond .ge 7, 3) := by decide +kernel
theorem dX12_readThing_43 : decode cX12_readThing 43 = .ok (.iconst (-1), 1) := by decide +kernel
theorem dX12_readThing_44 : decode cX12_readThing 44 = .ok (.goto 16, 3) := by decide +kernel
theorem dX12_readThing_47 : decode cX12_readThing 47 = .ok (.aload_n 0, 1) := by decide +kernel
theorem dX12_readThing_48 : decode cX12_readThing 48 = .ok (.ldc 138, 2) := by decide +kernel
theorem dX12_readThing_50 : decode cX12_readThing 50 = .ok (.iconst 0, 1) := by decide +kernel
theorem dX12_readThing_51 : decode cX12_readThing 51 = .ok (.aload_n 0, 1) := by decide +kernel
theorem dX12_readThing_52 : decode cX12_readThing 52 = .ok (.invokevirtual 79, 3) := by decide +kernel
theorem dX12_readThing_55 : decode cX12_readThing 55 = .ok (.iconst 1, 1) := by decide +kernel
theorem dX12_readThing_56 : decode cX12_readThing 56 = .ok (.isub, 1) := by decide +kernel
theorem dX12_readThing_57 : decode cX12_readThing 57 = .ok (.invokevirtual 134, 3) := by decide +kernel
theorem dX12_readThing_60 : decode cX12_readThing 60 = .ok (.istore 4, 2) := by decide +kernel
theorem dX12_readThing_62 : decode cX12_readThing 62 = .ok (.iload 4, 2) := by decide +kernel
theorem dX12_readThing_64 : decode cX12_readThing 64 = .ok (.ifCond .ge 5, 3) := by decide +kernel
theorem dX12_readThing_67 : decode cX12_readThing 67 = .ok (.iconst 0, 1) := by decide +kernel
theorem dX12_readThing_68 : decode cX12_readThing 68 = .ok (.ireturn, 1) := by decide +kernel
theorem dX12_readThing_69 : decode cX12_readThing 69 = .ok (.aload_n 0, 1) := by decide +kernel
theorem dX12_readThing_70 : decode cX12_readThing 70 = .ok (.getfield 13, 3) := by decide +kernel
theorem dX12_readThing_73 : decode cX12_readThing 73 = .ok (.iload_n 1, 1) := by decide +kernel
theorem dX12_readThing_74 : decode cX12_readThing 74 = .ok (.iconst 0, 1) := by decide +kernel
theorem dX12_readThing_75 : decode cX12_readThing 75 = .ok (.invokestatic 69, 3) := by decide +kernel
theorem dX12_readThing_78 : decode cX12_readThing 78 = .ok (.iload_n 2, 1) := by decide +kernel
theorem dX12_readThing_79 : decode cX12_readThing 79 = .ok (.iastore, 1) := by decide +kernel
theorem dX12_readThing_80 : decode cX12_readThing 80 = .ok (.aload_n 0, 1) := by decide +kernel
theorem dX12_readThing_81 : decode cX12_readThing 81 = .ok (.getfield 13, 3) := by decide +kernel
theorem dX12_readThing_84 : decode cX12_readThing 84 = .ok (.iload_n 1, 1) := by decide +kernel
theorem dX12_readThing_85 : decode cX12_readThing 85 = .ok (.iconst 1, 1) := by decide +kernel
theorem dX12_readThing_86 : decode cX12_readThing 86 = .ok (.invokestatic 69, 3) := by decide +kernel
theorem dX12_readThing_89 : decode cX12_readThing 89 = .ok (.iload_n 3, 1) := by decide +kernel
theorem dX12_readThing_90 : decode cX12_readThing 90 = .ok (.iastore, 1) := by decide +kernel
theorem dX12_readThing_91 : decode cX12_readThing 91 = .ok (.aload_n 0, 1) := by decide +kernel
theorem dX12_readThing_92 : decode cX12_readThing 92 = .ok (.getfield 13, 3) := by decide +kernel
theorem dX12_readThing_95 : decode cX12_readThing 95 = .ok (.iload_n 1, 1) := by decide +kernel
theorem dX12_readThing_96 : decode cX12_readThing 96 = .ok (.iconst 2, 1) := by decide +kernel
theorem dX12_readThing_97 : decode cX12_readThing 97 = .ok (.invokestatic 69, 3) := by decide +kernel
theorem dX12_readThing_100 : decode cX12_readThing 100 = .ok (.iload 4, 2) := by decide +kernel
theorem dX12_readThing_102 : decode cX12_readThing 102 = .ok (.iastore, 1) := by decide +kernel
theorem dX12_readThing_103 : decode cX12_readThing 103 = .ok (.aload_n 0, 1) := by decide +kernel
theorem dX12_readThing_104 : decode cX12_readThing 104 = .ok (.getfield 13, 3) := by decide +kernel
theorem dX12_readThing_107 : decode cX12_readThing 107 = .ok (.iconst 1, 1) := by decide +kernel
theorem dX12_readThing_108 : decode cX12_readThing 108 = .ok (.dup2, 1) := by decide +kernel
theorem dX12_readThing_109 : decode cX12_readThing 109 = .ok (.iaload, 1) := by decide +kernel
theorem dX12_readThing_110 : decode cX12_readThing 110 = .ok (.iconst 1, 1) := by decide +kernel
theorem dX12_readThing_111 : decode cX12_readThing 111 = .ok (.iadd, 1) := by decide +kernel
theorem dX12_readThing_112 : decode cX12_readThing 112 = .ok (.iastore, 1) := by decide +kernel
theorem dX12_readThing_113 : decode cX12_readThing 113 = .ok (.iconst 1, 1) := by decide +kernel
theorem dX12_readThing_114 : decode cX12_readThing 114 = .ok (.ireturn, 1) := by decide +kernel
theorem dX12_readHillLine_0 : decode cX12_readHillLine 0 = .ok (.aload_n 0, 1) := by decide +kernel
theorem dX12_readHillLine_1 : decode cX12_readHillLine 1 = .ok (.ldc 139, 2) := by decide +kernel
