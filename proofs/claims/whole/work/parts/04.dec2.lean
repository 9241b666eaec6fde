theorem dX12_readHillLine_3 : decode cX12_readHillLine 3 = .ok (.invokevirtual 117, 3) := by decide +kernel
theorem dX12_readHillLine_6 : decode cX12_readHillLine 6 = .ok (.ifCond .eq 8, 3) := by decide +kernel
theorem dX12_readHillLine_9 : decode cX12_readHillLine 9 = .ok (.aload_n 0, 1) := by decide +kernel
theorem dX12_readHillLine_10 : decode cX12_readHillLine 10 = .ok (.invokevirtual 141, 3) := by decide +kernel
theorem dX12_readHillLine_13 : decode cX12_readHillLine 13 = .ok (.ireturn, 1) := by decide +kernel
theorem dX12_readHillLine_14 : decode cX12_readHillLine 14 = .ok (.aload_n 0, 1) := by decide +kernel
theorem dX12_readHillLine_15 : decode cX12_readHillLine 15 = .ok (.ldc 145, 2) := by decide +kernel
theorem dX12_readHillLine_17 : decode cX12_readHillLine 17 = .ok (.invokevirtual 117, 3) := by decide +kernel
theorem dX12_readHillLine_20 : decode cX12_readHillLine 20 = .ok (.ifCond .eq 12, 3) := by decide +kernel
theorem dX12_readHillLine_23 : decode cX12_readHillLine 23 = .ok (.aload_n 0, 1) := by decide +kernel
theorem dX12_readHillLine_24 : decode cX12_readHillLine 24 = .ok (.iconst 0, 1) := by decide +kernel
theorem dX12_readHillLine_25 : decode cX12_readHillLine 25 = .ok (.sipush 999, 3) := by decide +kernel
theorem dX12_readHillLine_28 : decode cX12_readHillLine 28 = .ok (.invokevirtual 147, 3) := by decide +kernel
theorem dX12_readHillLine_31 : decode cX12_readHillLine 31 = .ok (.ireturn, 1) := by decide +kernel
theorem dX12_readHillLine_32 : decode cX12_readHillLine 32 = .ok (.aload_n 0, 1) := by decide +kernel
theorem dX12_readHillLine_33 : decode cX12_readHillLine 33 = .ok (.ldc 150, 2) := by decide +kernel
theorem dX12_readHillLine_35 : decode cX12_readHillLine 35 = .ok (.invokevirtual 117, 3) := by decide +kernel
theorem dX12_readHillLine_38 : decode cX12_readHillLine 38 = .ok (.ifCond .eq 11, 3) := by decide +kernel
theorem dX12_readHillLine_41 : decode cX12_readHillLine 41 = .ok (.aload_n 0, 1) := by decide +kernel
theorem dX12_readHillLine_42 : decode cX12_readHillLine 42 = .ok (.iconst 1, 1) := by decide +kernel
theorem dX12_readHillLine_43 : decode cX12_readHillLine 43 = .ok (.bipush 9, 2) := by decide +kernel
theorem dX12_readHillLine_45 : decode cX12_readHillLine 45 = .ok (.invokevirtual 147, 3) := by decide +kernel
theorem dX12_readHillLine_48 : decode cX12_readHillLine 48 = .ok (.ireturn, 1) := by decide +kernel
theorem dX12_readHillLine_49 : decode cX12_readHillLine 49 = .ok (.aload_n 0, 1) := by decide +kernel
theorem dX12_readHillLine_50 : decode cX12_readHillLine 50 = .ok (.ldc 152, 2) := by decide +kernel
theorem dX12_readHillLine_52 : decode cX12_readHillLine 52 = .ok (.invokevirtual 117, 3) := by decide +kernel
theorem dX12_readHillLine_55 : decode cX12_readHillLine 55 = .ok (.ifCond .eq 8, 3) := by decide +kernel
theorem dX12_readHillLine_58 : decode cX12_readHillLine 58 = .ok (.aload_n 0, 1) := by decide +kernel
theorem dX12_readHillLine_59 : decode cX12_readHillLine 59 = .ok (.invokevirtual 154, 3) := by decide +kernel
theorem dX12_readHillLine_62 : decode cX12_readHillLine 62 = .ok (.ireturn, 1) := by decide +kernel
theorem dX12_readHillLine_63 : decode cX12_readHillLine 63 = .ok (.aload_n 0, 1) := by decide +kernel
theorem dX12_readHillLine_64 : decode cX12_readHillLine 64 = .ok (.ldc 157, 2) := by decide +kernel
theorem dX12_readHillLine_66 : decode cX12_readHillLine 66 = .ok (.invokevirtual 117, 3) := by decide +kernel
theorem dX12_readHillLine_69 : decode cX12_readHillLine 69 = .ok (.ifCond .eq 12, 3) := by decide +kernel
theorem dX12_readHillLine_72 : decode cX12_readHillLine 72 = .ok (.aload_n 0, 1) := by decide +kernel
theorem dX12_readHillLine_73 : decode cX12_readHillLine 73 = .ok (.iconst 5, 1) := by decide +kernel
theorem dX12_readHillLine_74 : decode cX12_readHillLine 74 = .ok (.iconst 0, 1) := by decide +kernel
theorem dX12_readHillLine_75 : decode cX12_readHillLine 75 = .ok (.bipush 99, 2) := by decide +kernel
theorem dX12_readHillLine_77 : decode cX12_readHillLine 77 = .ok (.invokevirtual 129, 3) := by decide +kernel
theorem dX12_readHillLine_80 : decode cX12_readHillLine 80 = .ok (.ireturn, 1) := by decide +kernel
theorem dX12_readHillLine_81 : decode cX12_readHillLine 81 = .ok (.aload_n 0, 1) := by decide +kernel
theorem dX12_readHillLine_82 : decode cX12_readHillLine 82 = .ok (.ldc 159, 2) := by decide +kernel
theorem dX12_readHillLine_84 : decode cX12_readHillLine 84 = .ok (.invokevirtual 117, 3) := by decide +kernel
theorem dX12_readHillLine_87 : decode cX12_readHillLine 87 = .ok (.ifCond .eq 13, 3) := by decide +kernel
theorem dX12_readHillLine_90 : decode cX12_readHillLine 90 = .ok (.aload_n 0, 1) := by decide +kernel
theorem dX12_readHillLine_91 : decode cX12_readHillLine 91 = .ok (.bipush 6, 2) := by decide +kernel
theorem dX12_readHillLine_93 : decode cX12_readHillLine 93 = .ok (.iconst 1, 1) := by decide +kernel
theorem dX12_readHillLine_94 : decode cX12_readHillLine 94 = .ok (.bipush 40, 2) := by decide +kernel
theorem dX12_readHillLine_96 : decode cX12_readHillLine 96 = .ok (.invokevirtual 129, 3) := by decide +kernel
theorem dX12_readHillLine_99 : decode cX12_readHillLine 99 = .ok (.ireturn, 1) := by decide +kernel
theorem dX12_readHillLine_100 : decode cX12_readHillLine 100 = .ok (.aload_n 0, 1) := by decide +kernel
theorem dX12_readHillLine_101 : decode cX12_readHillLine 101 = .ok (.ldc 161, 2) := by decide +kernel
theorem dX12_readHillLine_103 : decode cX12_readHillLine 103 = .ok (.invokevirtual 117, 3) := by decide +kernel
theorem dX12_readHillLine_106 : decode cX12_readHillLine 106 = .ok (.ifCond .eq 13, 3) := by decide +kernel
theorem dX12_readHillLine_109 : decode cX12_readHillLine 109 = .ok (.aload_n 0, 1) := by decide +kernel
theorem dX12_readHillLine_110 : decode cX12_readHillLine 110 = .ok (.bipush 7, 2) := by decide +kernel
theorem dX12_readHillLine_112 : decode cX12_readHillLine 112 = .ok (.iconst 0, 1) := by decide +kernel
theorem dX12_readHillLine_113 : decode cX12_readHillLine 113 = .ok (.bipush 100, 2) := by decide +kernel
theorem dX12_readHillLine_115 : decode cX12_readHillLine 115 = .ok (.invokevirtual 129, 3) := by decide +kernel
theorem dX12_readHillLine_118 : decode cX12_readHillLine 118 = .ok (.ireturn, 1) := by decide +kernel
theorem dX12_readHillLine_119 : decode cX12_readHillLine 119 = .ok (.aload_n 0, 1) := by decide +kernel
theorem dX12_readHillLine_120 : decode cX12_readHillLine 120 = .ok (.ldc 163, 2) := by decide +kernel
theorem dX12_readHillLine_122 : decode cX12_readHillLine 122 = .ok (.invokevirtual 117, 3) := by decide +kernel
theorem dX12_readHillLine_125 : decode cX12_readHillLine 125 = .ok (.ifCond .eq 13, 3) := by decide +kernel
theorem dX12_readHillLine_128 : decode cX12_readHillLine 128 = .ok (.aload_n 0, 1) := by decide +kernel
theorem dX12_readHillLine_129 : decode cX12_readHillLine 129 = .ok (.bipush 8, 2) := by decide +kernel
theorem dX12_readHillLine_131 : decode cX12_readHillLine 131 = .ok (.iconst 0, 1) := by decide +kernel
theorem dX12_readHillLine_132 : decode cX12_readHillLine 132 = .ok (.bipush 100, 2) := by decide +kernel
theorem dX12_readHillLine_134 : decode cX12_readHillLine 134 = .ok (.invokevirtual 129, 3) := by decide +kernel
theorem dX12_readHillLine_137 : decode cX12_readHillLine 137 = .ok (.ireturn, 1) := by decide +kernel
theorem dX12_readHillLine_138 : decode cX12_readHillLine 138 = .ok (.aload_n 0, 1) := by decide +kernel
theorem dX12_readHillLine_139 : decode cX12_readHillLine 139 = .ok (.ldc 165, 2) := by decide +kernel
theorem dX12_readHillLine_141 : decode cX12_readHillLine 141 = .ok (.invokevirtual 117, 3) := by decide +kernel
theorem dX12_readHillLine_144 : decode cX12_readHillLine 144 = .ok (.ifCond .eq 19, 3) := by decide +kernel
theorem dX12_readHillLine_147 : decode cX12_readHillLine 147 = .ok (.aload_n 0, 1) := by decide +kernel
theorem dX12_readHillLine_148 : decode cX12_readHillLine 148 = .ok (.bipush 9, 2) := by decide +kernel
theorem dX12_readHillLine_150 : decode cX12_readHillLine 150 = .ok (.iconst 0, 1) := by decide +kernel
theorem dX12_readHillLine_151 : decode cX12_readHillLine 151 = .ok (.bipush 99, 2) := by decide +kernel
theorem dX12_readHillLine_153 : decode cX12_readHillLine 153 = .ok (.invokevirtual 129, 3) := by decide +kernel
theorem dX12_readHillLine_156 : decode cX12_readHillLine 156 = .ok (.ifCond .eq 7, 3) := by decide +kernel
theorem dX12_readHillLine_159 : decode cX12_readHillLine 159 = .ok (.iconst 1, 1) := by decide +kernel
theorem dX12_readHillLine_160 : decode cX12_readHillLine 160 = .ok (.goto 4, 3) := by decide +kernel
theorem dX12_readHillLine_163 : decode cX12_readHillLine 163 = .ok (.iconst 0, 1) := by decide +kernel
theorem dX12_readHillLine_164 : decode cX12_readHillLine 164 = .ok (.ireturn, 1) := by decide +kernel
theorem dX12_emits_0 : decode cX12_emits 0 = .ok (.aload_n 0, 1) := by decide +kernel
theorem dX12_emits_1 : decode cX12_emits 1 = .ok (.getfield 13, 3) := by decide +kernel
theorem dX12_emits_4 : decode cX12_emits 4 = .ok (.sipush 1280, 3) := by decide +kernel
theorem dX12_emits_7 : decode cX12_emits 7 = .ok (.iconst 2, 1) := by decide +kernel
theorem dX12_emits_8 : decode cX12_emits 8 = .ok (.aload_n 0, 1) := by decide +kernel
theorem dX12_emits_9 : decode cX12_emits 9 = .ok (.getfield 167, 3) := by decide +kernel
theorem dX12_emits_12 : decode cX12_emits 12 = .ok (.imul, 1) := by decide +kernel
theorem dX12_emits_13 : decode cX12_emits 13 = .ok (.iadd, 1) := by decide +kernel
theorem dX12_emits_14 : decode cX12_emits 14 = .ok (.iload_n 1, 1) := by decide +kernel
theorem dX12_emits_15 : decode cX12_emits 15 = .ok (.iastore, 1) := by decide +kernel
theorem dX12_emits_16 : decode cX12_emits 16 = .ok (.aload_n 0, 1) := by decide +kernel
theorem dX12_emits_17 : decode cX12_emits 17 = .ok (.getfield 13, 3) := by decide +kernel
theorem dX12_emits_20 : decode cX12_emits 20 = .ok (.sipush 1280, 3) := by decide +kernel
theorem dX12_emits_23 : decode cX12_emits 23 = .ok (.iconst 2, 1) := by decide +kernel
theorem dX12_emits_24 : decode cX12_emits 24 = .ok (.aload_n 0, 1) := by decide +kernel
theorem dX12_emits_25 : decode cX12_emits 25 = .ok (.getfield 167, 3) := by decide +kernel
theorem dX12_emits_28 : decode cX12_emits 28 = .ok (.imul, 1) := by decide +kernel
theorem dX12_emits_29 : decode cX12_emits 29 = .ok (.iadd, 1) := by decide +kernel
theorem dX12_emits_30 : decode cX12_emits 30 = .ok (.iconst 1, 1) := by decide +kernel
theorem dX12_emits_31 : decode cX12_emits 31 = .ok (.iadd, 1) := by decide +kernel
theorem dX12_emits_32 : decode cX12_emits 32 = .ok (.iload_n 2, 1) := by decide +kernel
theorem dX12_emits_33 : decode cX12_emits 33 = .ok (.iastore, 1) := by decide +kernel
theorem dX12_emits_34 : decode cX12_emits 34 = .ok (.aload_n 0, 1) := by decide +kernel
theorem dX12_emits_35 : decode cX12_emits 35 = .ok (.dup, 1) := by decide +kernel
theorem dX12_emits_36 : decode cX12_emits 36 = .ok (.getfield 167, 3) := by decide +kernel
theorem dX12_emits_39 : decode cX12_emits 39 = .ok (.iconst 1, 1) := by decide +kernel
theorem dX12_emits_40 : decode cX12_emits 40 = .ok (.iadd, 1) := by decide +kernel
theorem dX12_emits_41 : decode cX12_emits 41 = .ok (.putfield 167, 3) := by decide +kernel
theorem dX12_emits_44 : decode cX12_emits 44 = .ok (.return_, 1) := by decide +kernel
theorem dX12_readPart_0 : decode cX12_readPart 0 = .ok (.aload_n 0, 1) := by decide +kernel
theorem dX12_readPart_1 : decode cX12_readPart 1 = .ok (.invokevirtual 114, 3) := by decide +kernel
theorem dX12_readPart_4 : decode cX12_readPart 4 = .ok (.aload_n 0, 1) := by decide +kernel
theorem dX12_readPart_5 : decode cX12_readPart 5 = .ok (.getfield 89, 3) := by decide +kernel
theorem dX12_readPart_8 : decode cX12_readPart 8 = .ok (.aload_n 0, 1) := by decide +kernel
theorem dX12_readPart_9 : decode cX12_readPart 9 = .ok (.getfield 99, 3) := by decide +kernel
theorem dX12_readPart_12 : decode cX12_readPart 12 = .ok (.if_icmp .ne 22, 3) := by decide +kernel
theorem dX12_readPart_15 : decode cX12_readPart 15 = .ok (.aload_n 0, 1) := by decide +kernel
theorem dX12_readPart_16 : decode cX12_readPart 16 = .ok (.iconst 0, 1) := by decide +kernel
theorem dX12_readPart_17 : decode cX12_readPart 17 = .ok (.sipush 999, 3) := by decide +kernel
theorem dX12_readPart_20 : decode cX12_readPart 20 = .ok (.invokevirtual 121, 3) := by decide +kernel
theorem dX12_readPart_23 : decode cX12_readPart 23 = .ok (.istore_n 1, 1) := by decide +kernel
theorem dX12_readPart_24 : decode cX12_readPart 24 = .ok (.aload_n 0, 1) := by decide +kernel
theorem dX12_readPart_25 : decode cX12_readPart 25 = .ok (.bipush 8, 2) := by decide +kernel
theorem dX12_readPart_27 : decode cX12_readPart 27 = .ok (.iload_n 1, 1) := by decide +kernel
theorem dX12_readPart_28 : decode cX12_readPart 28 = .ok (.invokevirtual 170, 3) := by decide +kernel
theorem dX12_readPart_31 : decode cX12_readPart 31 = .ok (.goto 89, 3) := by decide +kernel
theorem dX12_readPart_34 : decode cX12_readPart 34 = .ok (.aload_n 0, 1) := by decide +kernel
theorem dX12_readPart_35 : decode cX12_readPart 35 = .ok (.ldc 174, 2) := by decide +kernel
theorem dX12_readPart_37 : decode cX12_readPart 37 = .ok (.invokevirtual 117, 3) := by decide +kernel
theorem dX12_readPart_40 : decode cX12_readPart 40 = .ok (.ifCond .eq 7, 3) := by decide +kernel
theorem dX12_readPart_43 : decode cX12_readPart 43 = .ok (.iconst 0, 1) := by decide +kernel
theorem dX12_readPart_44 : decode cX12_readPart 44 = .ok (.goto 69, 3) := by decide +kernel
theorem dX12_readPart_47 : decode cX12_readPart 47 = .ok (.aload_n 0, 1) := by decide +kernel
theorem dX12_readPart_48 : decode cX12_readPart 48 = .ok (.ldc 176, 2) := by decide +kernel
theorem dX12_readPart_50 : decode cX12_readPart 50 = .ok (.invokevirtual 117, 3) := by decide +kernel
theorem dX12_readPart_53 : decode cX12_readPart 53 = .ok (.ifCond .eq 7, 3) := by decide +kernel
theorem dX12_readPart_56 : decode cX12_readPart 56 = .ok (.iconst 1, 1) := by decide +kernel
theorem dX12_readPart_57 : decode cX12_readPart 57 = .ok (.goto 56, 3) := by decide +kernel
theorem dX12_readPart_60 : decode cX12_readPart 60 = .ok (.aload_n 0, 1) := by decide +kernel
theorem dX12_readPart_61 : decode cX12_readPart 61 = .ok (.ldc 178, 2) := by decide +kernel
theorem dX12_readPart_63 : decode cX12_readPart 63 = .ok (.invokevirtual 117, 3) := by decide +kernel
theorem dX12_readPart_66 : decode cX12_readPart 66 = .ok (.ifCond .eq 7, 3) := by decide +kernel
theorem dX12_readPart_69 : decode cX12_readPart 69 = .ok (.iconst 2, 1) := by decide +kernel
theorem dX12_readPart_70 : decode cX12_readPart 70 = .ok (.goto 43, 3) := by decide +kernel
theorem dX12_readPart_73 : decode cX12_readPart 73 = .ok (.aload_n 0, 1) := by decide +kernel
theorem dX12_readPart_74 : decode cX12_readPart 74 = .ok (.ldc 150, 2) := by decide +kernel
theorem dX12_readPart_76 : decode cX12_readPart 76 = .ok (.invokevirtual 117, 3) := by decide +kernel
theorem dX12_readPart_79 : decode cX12_readPart 79 = .ok (.ifCond .eq 7, 3) := by decide +kernel
theorem dX12_readPart_82 : decode cX12_readPart 82 = .ok (.iconst 3, 1) := by decide +kernel
theorem dX12_readPart_83 : decode cX12_readPart 83 = .ok (.goto 30, 3) := by decide +kernel
theorem dX12_readPart_86 : decode cX12_readPart 86 = .ok (.aload_n 0, 1) := by decide +kernel
theorem dX12_readPart_87 : decode cX12_readPart 87 = .ok (.ldc 180, 2) := by decide +kernel
theorem dX12_readPart_89 : decode cX12_readPart 89 = .ok (.invokevirtual 117, 3) := by decide +kernel
theorem dX12_readPart_92 : decode cX12_readPart 92 = .ok (.ifCond .eq 7, 3) := by decide +kernel
theorem dX12_readPart_95 : decode cX12_readPart 95 = .ok (.iconst 4, 1) := by decide +kernel
theorem dX12_readPart_96 : decode cX12_readPart 96 = .ok (.goto 17, 3) := by decide +kernel
theorem dX12_readPart_99 : decode cX12_readPart 99 = .ok (.aload_n 0, 1) := by decide +kernel
theorem dX12_readPart_100 : decode cX12_readPart 100 = .ok (.ldc 182, 2) := by decide +kernel
theorem dX12_readPart_102 : decode cX12_readPart 102 = .ok (.invokevirtual 117, 3) := by decide +kernel
theorem dX12_readPart_105 : decode cX12_readPart 105 = .ok (.ifCond .eq 7, 3) := by decide +kernel
theorem dX12_readPart_108 : decode cX12_readPart 108 = .ok (.iconst 5, 1) := by decide +kernel
theorem dX12_readPart_109 : decode cX12_readPart 109 = .ok (.goto 4, 3) := by decide +kernel
theorem dX12_readPart_112 : decode cX12_readPart 112 = .ok (.iconst (-1), 1) := by decide +kernel
theorem dX12_readPart_113 : decode cX12_readPart 113 = .ok (.istore_n 1, 1) := by decide +kernel
theorem dX12_readPart_114 : decode cX12_readPart 114 = .ok (.aload_n 0, 1) := by decide +kernel
theorem dX12_readPart_115 : decode cX12_readPart 115 = .ok (.iload_n 1, 1) := by decide +kernel
theorem dX12_readPart_116 : decode cX12_readPart 116 = .ok (.iconst 0, 1) := by decide +kernel
theorem dX12_readPart_117 : decode cX12_readPart 117 = .ok (.invokevirtual 170, 3) := by decide +kernel
theorem dX12_readPart_120 : decode cX12_readPart 120 = .ok (.iload_n 1, 1) := by decide +kernel
theorem dX12_readPart_121 : decode cX12_readPart 121 = .ok (.ifCond .lt 7, 3) := by decide +kernel
theorem dX12_readPart_124 : decode cX12_readPart 124 = .ok (.iconst 1, 1) := by decide +kernel
theorem dX12_readPart_125 : decode cX12_readPart 125 = .ok (.goto 4, 3) := by decide +kernel
theorem dX12_readPart_128 : decode cX12_readPart 128 = .ok (.iconst 0, 1) := by decide +kernel
theorem dX12_readPart_129 : decode cX12_readPart 129 = .ok (.ireturn, 1) := by decide +kernel
theorem dX12_readSum_0 : decode cX12_readSum 0 = .ok (.aload_n 0, 1) := by decide +kernel
theorem dX12_readSum_1 : decode cX12_readSum 1 = .ok (.invokevirtual 184, 3) := by decide +kernel
theorem dX12_readSum_4 : decode cX12_readSum 4 = .ok (.ifCond .ne 5, 3) := by decide +kernel
theorem dX12_readSum_7 : decode cX12_readSum 7 = .ok (.iconst 0, 1) := by decide +kernel
theorem dX12_readSum_8 : decode cX12_readSum 8 = .ok (.ireturn, 1) := by decide +kernel
theorem dX12_readSum_9 : decode cX12_readSum 9 = .ok (.aload_n 0, 1) := by decide +kernel
theorem dX12_readSum_10 : decode cX12_readSum 10 = .ok (.bipush 43, 2) := by decide +kernel
theorem dX12_readSum_12 : decode cX12_readSum 12 = .ok (.invokevirtual 187, 3) := by decide +kernel
theorem dX12_readSum_15 : decode cX12_readSum 15 = .ok (.ifCond .eq 22, 3) := by decide +kernel
theorem dX12_readSum_18 : decode cX12_readSum 18 = .ok (.aload_n 0, 1) := by decide +kernel
theorem dX12_readSum_19 : decode cX12_readSum 19 = .ok (.invokevirtual 184, 3) := by decide +kernel
theorem dX12_readSum_22 : decode cX12_readSum 22 = .ok (.ifCond .ne 5, 3) := by decide +kernel
theorem dX12_readSum_25 : decode cX12_readSum 25 = .ok (.iconst 0, 1) := by decide +kernel
theorem dX12_readSum_26 : decode cX12_readSum 26 = .ok (.ireturn, 1) := by decide +kernel
theorem dX12_readSum_27 : decode cX12_readSum 27 = .ok (.aload_n 0, 1) := by decide +kernel
theorem dX12_readSum_28 : decode cX12_readSum 28 = .ok (.bipush 9, 2) := by decide +kernel
theorem dX12_readSum_30 : decode cX12_readSum 30 = .ok (.iconst 0, 1) := by decide +kernel
theorem dX12_readSum_31 : decode cX12_readSum 31 = .ok (.invokevirtual 170, 3) := by decide +kernel
theorem dX12_readSum_34 : decode cX12_readSum 34 = .ok (.goto (-25), 3) := by decide +kernel
theorem dX12_readSum_37 : decode cX12_readSum 37 = .ok (.iconst 1, 1) := by decide +kernel
theorem dX12_readSum_38 : decode cX12_readSum 38 = .ok (.ireturn, 1) := by decide +kernel
theorem dX12_readTag_0 : decode cX12_readTag 0 = .ok (.aload_n 0, 1) := by decide +kernel
theorem dX12_readTag_1 : decode cX12_readTag 1 = .ok (.invokevirtual 114, 3) := by decide +kernel
theorem dX12_readTag_4 : decode cX12_readTag 4 = .ok (.aload_n 0, 1) := by decide +kernel
theorem dX12_readTag_5 : decode cX12_readTag 5 = .ok (.ldc 191, 2) := by decide +kernel
theorem dX12_readTag_7 : decode cX12_readTag 7 = .ok (.invokevirtual 117, 3) := by decide +kernel
theorem dX12_readTag_10 : decode cX12_readTag 10 = .ok (.ifCond .eq 8, 3) := by decide +kernel
theorem dX12_readTag_13 : decode cX12_readTag 13 = .ok (.bipush 6, 2) := by decide +kernel
theorem dX12_readTag_15 : decode cX12_readTag 15 = .ok (.goto 18, 3) := by decide +kernel
theorem dX12_readTag_18 : decode cX12_readTag 18 = .ok (.aload_n 0, 1) := by decide +kernel
theorem dX12_readTag_19 : decode cX12_readTag 19 = .ok (.ldc 193, 2) := by decide +kernel
theorem dX12_readTag_21 : decode cX12_readTag 21 = .ok (.invokevirtual 117, 3) := by decide +kernel
theorem dX12_readTag_24 : decode cX12_readTag 24 = .ok (.ifCond .eq 8, 3) := by decide +kernel
theorem dX12_readTag_27 : decode cX12_readTag 27 = .ok (.bipush 7, 2) := by decide +kernel
theorem dX12_readTag_29 : decode cX12_readTag 29 = .ok (.goto 4, 3) := by decide +kernel
theorem dX12_readTag_32 : decode cX12_readTag 32 = .ok (.iconst (-1), 1) := by decide +kernel
theorem dX12_readTag_33 : decode cX12_readTag 33 = .ok (.istore_n 1, 1) := by decide +kernel
theorem dX12_readTag_34 : decode cX12_readTag 34 = .ok (.iload_n 1, 1) := by decide +kernel
theorem dX12_readTag_35 : decode cX12_readTag 35 = .ok (.ifCond .lt 12, 3) := by decide +kernel
theorem dX12_readTag_38 : decode cX12_readTag 38 = .ok (.aload_n 0, 1) := by decide +kernel
theorem dX12_readTag_39 : decode cX12_readTag 39 = .ok (.iload_n 1, 1) := by decide +kernel
theorem dX12_readTag_40 : decode cX12_readTag 40 = .ok (.iconst 0, 1) := by decide +kernel
theorem dX12_readTag_41 : decode cX12_readTag 41 = .ok (.invokevirtual 170, 3) := by decide +kernel
theorem dX12_readTag_44 : decode cX12_readTag 44 = .ok (.goto 11, 3) := by decide +kernel
theorem dX12_readTag_47 : decode cX12_readTag 47 = .ok (.aload_n 0, 1) := by decide +kernel
theorem dX12_readTag_48 : decode cX12_readTag 48 = .ok (.aload_n 0, 1) := by decide +kernel
theorem dX12_readTag_49 : decode cX12_readTag 49 = .ok (.getfield 99, 3) := by decide +kernel
theorem dX12_readTag_52 : decode cX12_readTag 52 = .ok (.putfield 89, 3) := by decide +kernel
theorem dX12_readTag_55 : decode cX12_readTag 55 = .ok (.iload_n 1, 1) := by decide +kernel
theorem dX12_readTag_56 : decode cX12_readTag 56 = .ok (.ifCond .lt 7, 3) := by decide +kernel
theorem dX12_readTag_59 : decode cX12_readTag 59 = .ok (.iconst 1, 1) := by decide +kernel
theorem dX12_readTag_60 : decode cX12_readTag 60 = .ok (.goto 4, 3) := by decide +kernel
theorem dX12_readTag_63 : decode cX12_readTag 63 = .ok (.iconst 0, 1) := by decide +kernel
theorem dX12_readTag_64 : decode cX12_readTag 64 = .ok (.ireturn, 1) := by decide +kernel
theorem dX12_readAtom_0 : decode cX12_readAtom 0 = .ok (.aload_n 0, 1) := by decide +kernel
theorem dX12_readAtom_1 : decode cX12_readAtom 1 = .ok (.bipush 40, 2) := by decide +kernel
theorem dX12_readAtom_3 : decode cX12_readAtom 3 = .ok (.invokevirtual 187, 3) := by decide +kernel
theorem dX12_readAtom_6 : decode cX12_readAtom 6 = .ok (.ifCond .eq 50, 3) := by decide +kernel
theorem dX12_readAtom_9 : decode cX12_readAtom 9 = .ok (.aload_n 0, 1) := by decide +kernel
theorem dX12_readAtom_10 : decode cX12_readAtom 10 = .ok (.getfield 195, 3) := by decide +kernel
theorem dX12_readAtom_13 : decode cX12_readAtom 13 = .ok (.bipush 6, 2) := by decide +kernel
theorem dX12_readAtom_15 : decode cX12_readAtom 15 = .ok (.if_icmp .ne 5, 3) := by decide +kernel
theorem dX12_readAtom_18 : decode cX12_readAtom 18 = .ok (.iconst 0, 1) := by decide +kernel
theorem dX12_readAtom_19 : decode cX12_readAtom 19 = .ok (.ireturn, 1) := by decide +kernel
theorem dX12_readAtom_20 : decode cX12_readAtom 20 = .ok (.aload_n 0, 1) := by decide +kernel
theorem dX12_readAtom_21 : decode cX12_readAtom 21 = .ok (.dup, 1) := by decide +kernel
theorem dX12_readAtom_22 : decode cX12_readAtom 22 = .ok (.getfield 195, 3) := by decide +kernel
theorem dX12_readAtom_25 : decode cX12_readAtom 25 = .ok (.iconst 1, 1) := by decide +kernel
theorem dX12_readAtom_26 : decode cX12_readAtom 26 = .ok (.iadd, 1) := by decide +kernel
theorem dX12_readAtom_27 : decode cX12_readAtom 27 = .ok (.putfield 195, 3) := by decide +kernel
theorem dX12_readAtom_30 : decode cX12_readAtom 30 = .ok (.aload_n 0, 1) := by decide +kernel
theorem dX12_readAtom_31 : decode cX12_readAtom 31 = .ok (.invokevirtual 198, 3) := by decide +kernel
theorem dX12_readAtom_34 : decode cX12_readAtom 34 = .ok (.ifCond .ne 5, 3) := by decide +kernel
theorem dX12_readAtom_37 : decode cX12_readAtom 37 = .ok (.iconst 0, 1) := by decide +kernel
theorem dX12_readAtom_38 : decode cX12_readAtom 38 = .ok (.ireturn, 1) := by decide +kernel
theorem dX12_readAtom_39 : decode cX12_readAtom 39 = .ok (.aload_n 0, 1) := by decide +kernel
theorem dX12_readAtom_40 : decode cX12_readAtom 40 = .ok (.dup, 1) := by decide +kernel
theorem dX12_readAtom_41 : decode cX12_readAtom 41 = .ok (.getfield 195, 3) := by decide +kernel
theorem dX12_readAtom_44 : decode cX12_readAtom 44 = .ok (.iconst 1, 1) := by decide +kernel
theorem dX12_readAtom_45 : decode cX12_readAtom 45 = .ok (.isub, 1) := by decide +kernel
theorem dX12_readAtom_46 : decode cX12_readAtom 46 = .ok (.putfield 195, 3) := by decide +kernel
theorem dX12_readAtom_49 : decode cX12_readAtom 49 = .ok (.aload_n 0, 1) := by decide +kernel
theorem dX12_readAtom_50 : decode cX12_readAtom 50 = .ok (.bipush 41, 2) := by decide +kernel
theorem dX12_readAtom_52 : decode cX12_readAtom 52 = .ok (.invokevirtual 187, 3) := by decide +kernel
theorem dX12_readAtom_55 : decode cX12_readAtom 55 = .ok (.ireturn, 1) := by decide +kernel
theorem dX12_readAtom_56 : decode cX12_readAtom 56 = .ok (.aload_n 0, 1) := by decide +kernel
theorem dX12_readAtom_57 : decode cX12_readAtom 57 = .ok (.ldc 201, 2) := by decide +kernel
theorem dX12_readAtom_59 : decode cX12_readAtom 59 = .ok (.invokevirtual 126, 3) := by decide +kernel
theorem dX12_readAtom_62 : decode cX12_readAtom 62 = .ok (.ifCond .eq 52, 3) := by decide +kernel
theorem dX12_readAtom_65 : decode cX12_readAtom 65 = .ok (.aload_n 0, 1) := by decide +kernel
theorem dX12_readAtom_66 : decode cX12_readAtom 66 = .ok (.getfield 195, 3) := by decide +kernel
theorem dX12_readAtom_69 : decode cX12_readAtom 69 = .ok (.bipush 6, 2) := by decide +kernel
theorem dX12_readAtom_71 : decode cX12_readAtom 71 = .ok (.if_icmp .ne 5, 3) := by decide +kernel
theorem dX12_readAtom_74 : decode cX12_readAtom 74 = .ok (.iconst 0, 1) := by decide +kernel
theorem dX12_readAtom_75 : decode cX12_readAtom 75 = .ok (.ireturn, 1) := by decide +kernel
theorem dX12_readAtom_76 : decode cX12_readAtom 76 = .ok (.aload_n 0, 1) := by decide +kernel
theorem dX12_readAtom_77 : decode cX12_readAtom 77 = .ok (.dup, 1) := by decide +kernel
theorem dX12_readAtom_78 : decode cX12_readAtom 78 = .ok (.getfield 195, 3) := by decide +kernel
theorem dX12_readAtom_81 : decode cX12_readAtom 81 = .ok (.iconst 1, 1) := by decide +kernel
theorem dX12_readAtom_82 : decode cX12_readAtom 82 = .ok (.iadd, 1) := by decide +kernel
theorem dX12_readAtom_83 : decode cX12_readAtom 83 = .ok (.putfield 195, 3) := by decide +kernel
theorem dX12_readAtom_86 : decode cX12_readAtom 86 = .ok (.aload_n 0, 1) := by decide +kernel
theorem dX12_readAtom_87 : decode cX12_readAtom 87 = .ok (.invokevirtual 203, 3) := by decide +kernel
theorem dX12_readAtom_90 : decode cX12_readAtom 90 = .ok (.ifCond .ne 5, 3) := by decide +kernel
theorem dX12_readAtom_93 : decode cX12_readAtom 93 = .ok (.iconst 0, 1) := by decide +kernel
theorem dX12_readAtom_94 : decode cX12_readAtom 94 = .ok (.ireturn, 1) := by decide +kernel
theorem dX12_readAtom_95 : decode cX12_readAtom 95 = .ok (.aload_n 0, 1) := by decide +kernel
theorem dX12_readAtom_96 : decode cX12_readAtom 96 = .ok (.dup, 1) := by decide +kernel
theorem dX12_readAtom_97 : decode cX12_readAtom 97 = .ok (.getfield 195, 3) := by decide +kernel
theorem dX12_readAtom_100 : decode cX12_readAtom 100 = .ok (.iconst 1, 1) := by decide +kernel
theorem dX12_readAtom_101 : decode cX12_readAtom 101 = .ok (.isub, 1) := by decide +kernel
theorem dX12_readAtom_102 : decode cX12_readAtom 102 = .ok (.putfield 195, 3) := by decide +kernel
theorem dX12_readAtom_105 : decode cX12_readAtom 105 = .ok (.aload_n 0, 1) := by decide +kernel
theorem dX12_readAtom_106 : decode cX12_readAtom 106 = .ok (.bipush 12, 2) := by decide +kernel
theorem dX12_readAtom_108 : decode cX12_readAtom 108 = .ok (.iconst 0, 1) := by decide +kernel
theorem dX12_readAtom_109 : decode cX12_readAtom 109 = .ok (.invokevirtual 170, 3) := by decide +kernel
theorem dX12_readAtom_112 : decode cX12_readAtom 112 = .ok (.iconst 1, 1) := by decide +kernel
theorem dX12_readAtom_113 : decode cX12_readAtom 113 = .ok (.ireturn, 1) := by decide +kernel
theorem dX12_readAtom_114 : decode cX12_readAtom 114 = .ok (.aload_n 0, 1) := by decide +kernel
theorem dX12_readAtom_115 : decode cX12_readAtom 115 = .ok (.invokevirtual 206, 3) := by decide +kernel
theorem dX12_readAtom_118 : decode cX12_readAtom 118 = .ok (.ifCond .eq 5, 3) := by decide +kernel
theorem dX12_readAtom_121 : decode cX12_readAtom 121 = .ok (.iconst 1, 1) := by decide +kernel
theorem dX12_readAtom_122 : decode cX12_readAtom 122 = .ok (.ireturn, 1) := by decide +kernel
theorem dX12_readAtom_123 : decode cX12_readAtom 123 = .ok (.aload_n 0, 1) := by decide +kernel
theorem dX12_readAtom_124 : decode cX12_readAtom 124 = .ok (.invokevirtual 209, 3) := by decide +kernel
theorem dX12_readAtom_127 : decode cX12_readAtom 127 = .ok (.ifCond .ne 5, 3) := by decide +kernel
theorem dX12_readAtom_130 : decode cX12_readAtom 130 = .ok (.iconst 0, 1) := by decide +kernel
theorem dX12_readAtom_131 : decode cX12_readAtom 131 = .ok (.ireturn, 1) := by decide +kernel
theorem dX12_readAtom_132 : decode cX12_readAtom 132 = .ok (.aload_n 0, 1) := by decide +kernel
theorem dX12_readAtom_133 : decode cX12_readAtom 133 = .ok (.bipush 60, 2) := by decide +kernel
theorem dX12_readAtom_135 : decode cX12_readAtom 135 = .ok (.invokevirtual 187, 3) := by decide +kernel
theorem dX12_readAtom_138 : decode cX12_readAtom 138 = .ok (.istore_n 1, 1) := by decide +kernel
theorem dX12_readAtom_139 : decode cX12_readAtom 139 = .ok (.iload_n 1, 1) := by decide +kernel
theorem dX12_readAtom_140 : decode cX12_readAtom 140 = .ok (.ifCond .ne 12, 3) := by decide +kernel
theorem dX12_readAtom_143 : decode cX12_readAtom 143 = .ok (.aload_n 0, 1) := by decide +kernel
theorem dX12_readAtom_144 : decode cX12_readAtom 144 = .ok (.bipush 62, 2) := by decide +kernel
theorem dX12_readAtom_146 : decode cX12_readAtom 146 = .ok (.invokevirtual 187, 3) := by decide +kernel
theorem dX12_readAtom_149 : decode cX12_readAtom 149 = .ok (.ifCond .eq 10, 3) := by decide +kernel
theorem dX12_readAtom_152 : decode cX12_readAtom 152 = .ok (.aload_n 0, 1) := by decide +kernel
theorem dX12_readAtom_153 : decode cX12_readAtom 153 = .ok (.invokevirtual 209, 3) := by decide +kernel
theorem dX12_readAtom_156 : decode cX12_readAtom 156 = .ok (.ifCond .ne 5, 3) := by decide +kernel
theorem dX12_readAtom_159 : decode cX12_readAtom 159 = .ok (.iconst 0, 1) := by decide +kernel
theorem dX12_readAtom_160 : decode cX12_readAtom 160 = .ok (.ireturn, 1) := by decide +kernel
theorem dX12_readAtom_161 : decode cX12_readAtom 161 = .ok (.aload_n 0, 1) := by decide +kernel
theorem dX12_readAtom_162 : decode cX12_readAtom 162 = .ok (.iload_n 1, 1) := by decide +kernel
theorem dX12_readAtom_163 : decode cX12_readAtom 163 = .ok (.ifCond .eq 8, 3) := by decide +kernel
theorem dX12_readAtom_166 : decode cX12_readAtom 166 = .ok (.bipush 10, 2) := by decide +kernel
theorem dX12_readAtom_168 : decode cX12_readAtom 168 = .ok (.goto 5, 3) := by decide +kernel
theorem dX12_readAtom_171 : decode cX12_readAtom 171 = .ok (.bipush 11, 2) := by decide +kernel
theorem dX12_readAtom_173 : decode cX12_readAtom 173 = .ok (.iconst 0, 1) := by decide +kernel
theorem dX12_readAtom_174 : decode cX12_readAtom 174 = .ok (.invokevirtual 170, 3) := by decide +kernel
theorem dX12_readAtom_177 : decode cX12_readAtom 177 = .ok (.iconst 1, 1) := by decide +kernel
theorem dX12_readAtom_178 : decode cX12_readAtom 178 = .ok (.ireturn, 1) := by decide +kernel
theorem dX12_readAllOf_0 : decode cX12_readAllOf 0 = .ok (.aload_n 0, 1) := by decide +kernel
theorem dX12_readAllOf_1 : decode cX12_readAllOf 1 = .ok (.invokevirtual 203, 3) := by decide +kernel
theorem dX12_readAllOf_4 : decode cX12_readAllOf 4 = .ok (.ifCond .ne 5, 3) := by decide +kernel
theorem dX12_readAllOf_7 : decode cX12_readAllOf 7 = .ok (.iconst 0, 1) := by decide +kernel
theorem dX12_readAllOf_8 : decode cX12_readAllOf 8 = .ok (.ireturn, 1) := by decide +kernel
theorem dX12_readAllOf_9 : decode cX12_readAllOf 9 = .ok (.aload_n 0, 1) := by decide +kernel
theorem dX12_readAllOf_10 : decode cX12_readAllOf 10 = .ok (.ldc 212, 2) := by decide +kernel
theorem dX12_readAllOf_12 : decode cX12_readAllOf 12 = .ok (.invokevirtual 126, 3) := by decide +kernel
theorem dX12_readAllOf_15 : decode cX12_readAllOf 15 = .ok (.ifCond .eq 22, 3) := by decide +kernel
theorem dX12_readAllOf_18 : decode cX12_readAllOf 18 = .ok (.aload_n 0, 1) := by decide +kernel
theorem dX12_readAllOf_19 : decode cX12_readAllOf 19 = .ok (.invokevirtual 203, 3) := by decide +kernel
theorem dX12_readAllOf_22 : decode cX12_readAllOf 22 = .ok (.ifCond .ne 5, 3) := by decide +kernel
theorem dX12_readAllOf_25 : decode cX12_readAllOf 25 = .ok (.iconst 0, 1) := by decide +kernel
theorem dX12_readAllOf_26 : decode cX12_readAllOf 26 = .ok (.ireturn, 1) := by decide +kernel
theorem dX12_readAllOf_27 : decode cX12_readAllOf 27 = .ok (.aload_n 0, 1) := by decide +kernel
theorem dX12_readAllOf_28 : decode cX12_readAllOf 28 = .ok (.bipush 13, 2) := by decide +kernel
theorem dX12_readAllOf_30 : decode cX12_readAllOf 30 = .ok (.iconst 0, 1) := by decide +kernel
theorem dX12_readAllOf_31 : decode cX12_readAllOf 31 = .ok (.invokevirtual 170, 3) := by decide +kernel
theorem dX12_readAllOf_34 : decode cX12_readAllOf 34 = .ok (.goto (-25), 3) := by decide +kernel
theorem dX12_readAllOf_37 : decode cX12_readAllOf 37 = .ok (.iconst 1, 1) := by decide +kernel
theorem dX12_readAllOf_38 : decode cX12_readAllOf 38 = .ok (.ireturn, 1) := by decide +kernel
theorem dX12_readCond_0 : decode cX12_readCond 0 = .ok (.aload_n 0, 1) := by decide +kernel
theorem dX12_readCond_1 : decode cX12_readCond 1 = .ok (.invokevirtual 214, 3) := by decide +kernel
theorem dX12_readCond_4 : decode cX12_readCond 4 = .ok (.ifCond .ne 5, 3) := by decide +kernel
theorem dX12_readCond_7 : decode cX12_readCond 7 = .ok (.iconst 0, 1) := by decide +kernel
theorem dX12_readCond_8 : decode cX12_readCond 8 = .ok (.ireturn, 1) := by decide +kernel
theorem dX12_readCond_9 : decode cX12_readCond 9 = .ok (.aload_n 0, 1) := by decide +kernel
theorem dX12_readCond_10 : decode cX12_readCond 10 = .ok (.ldc 217, 2) := by decide +kernel
theorem dX12_readCond_12 : decode cX12_readCond 12 = .ok (.invokevirtual 126, 3) := by decide +kernel
theorem dX12_readCond_15 : decode cX12_readCond 15 = .ok (.ifCond .eq 22, 3) := by decide +kernel
theorem dX12_readCond_18 : decode cX12_readCond 18 = .ok (.aload_n 0, 1) := by decide +kernel
theorem dX12_readCond_19 : decode cX12_readCond 19 = .ok (.invokevirtual 214, 3) := by decide +kernel
theorem dX12_readCond_22 : decode cX12_readCond 22 = .ok (.ifCond .ne 5, 3) := by decide +kernel
theorem dX12_readCond_25 : decode cX12_readCond 25 = .ok (.iconst 0, 1) := by decide +kernel
theorem dX12_readCond_26 : decode cX12_readCond 26 = .ok (.ireturn, 1) := by decide +kernel
theorem dX12_readCond_27 : decode cX12_readCond 27 = .ok (.aload_n 0, 1) := by decide +kernel
theorem dX12_readCond_28 : decode cX12_readCond 28 = .ok (.bipush 14, 2) := by decide +kernel
theorem dX12_readCond_30 : decode cX12_readCond 30 = .ok (.iconst 0, 1) := by decide +kernel
theorem dX12_readCond_31 : decode cX12_readCond 31 = .ok (.invokevirtual 170, 3) := by decide +kernel
theorem dX12_readCond_34 : decode cX12_readCond 34 = .ok (.goto (-25), 3) := by decide +kernel
theorem dX12_readCond_37 : decode cX12_readCond 37 = .ok (.iconst 1, 1) := by decide +kernel
theorem dX12_readCond_38 : decode cX12_readCond 38 = .ok (.ireturn, 1) := by decide +kernel
theorem dX12_readLawLine_0 : decode cX12_readLawLine 0 = .ok (.sipush 1232, 3) := by decide +kernel
theorem dX12_readLawLine_3 : decode cX12_readLawLine 3 = .ok (.iconst 4, 1) := by decide +kernel
theorem dX12_readLawLine_4 : decode cX12_readLawLine 4 = .ok (.iload_n 1, 1) := by decide +kernel
theorem dX12_readLawLine_5 : decode cX12_readLawLine 5 = .ok (.imul, 1) := by decide +kernel
theorem dX12_readLawLine_6 : decode cX12_readLawLine 6 = .ok (.iadd, 1) := by decide +kernel
theorem dX12_readLawLine_7 : decode cX12_readLawLine 7 = .ok (.istore_n 2, 1) := by decide +kernel
theorem dX12_readLawLine_8 : decode cX12_readLawLine 8 = .ok (.aload_n 0, 1) := by decide +kernel
theorem dX12_readLawLine_9 : decode cX12_readLawLine 9 = .ok (.getfield 13, 3) := by decide +kernel
theorem dX12_readLawLine_12 : decode cX12_readLawLine 12 = .ok (.iload_n 2, 1) := by decide +kernel
theorem dX12_readLawLine_13 : decode cX12_readLawLine 13 = .ok (.aload_n 0, 1) := by decide +kernel
theorem dX12_readLawLine_14 : decode cX12_readLawLine 14 = .ok (.ldc 219, 2) := by decide +kernel
theorem dX12_readLawLine_16 : decode cX12_readLawLine 16 = .ok (.invokevirtual 117, 3) := by decide +kernel
theorem dX12_readLawLine_19 : decode cX12_readLawLine 19 = .ok (.ifCond .eq 7, 3) := by decide +kernel
theorem dX12_readLawLine_22 : decode cX12_readLawLine 22 = .ok (.iconst 0, 1) := by decide +kernel
theorem dX12_readLawLine_23 : decode cX12_readLawLine 23 = .ok (.goto 30, 3) := by decide +kernel
theorem dX12_readLawLine_26 : decode cX12_readLawLine 26 = .ok (.aload_n 0, 1) := by decide +kernel
theorem dX12_readLawLine_27 : decode cX12_readLawLine 27 = .ok (.ldc 221, 2) := by decide +kernel
theorem dX12_readLawLine_29 : decode cX12_readLawLine 29 = .ok (.invokevirtual 117, 3) := by decide +kernel
theorem dX12_readLawLine_32 : decode cX12_readLawLine 32 = .ok (.ifCond .eq 7, 3) := by decide +kernel
theorem dX12_readLawLine_35 : decode cX12_readLawLine 35 = .ok (.iconst 1, 1) := by decide +kernel
theorem dX12_readLawLine_36 : decode cX12_readLawLine 36 = .ok (.goto 17, 3) := by decide +kernel
theorem dX12_readLawLine_39 : decode cX12_readLawLine 39 = .ok (.aload_n 0, 1) := by decide +kernel
theorem dX12_readLawLine_40 : decode cX12_readLawLine 40 = .ok (.ldc 124, 2) := by decide +kernel
theorem dX12_readLawLine_42 : decode cX12_readLawLine 42 = .ok (.invokevirtual 117, 3) := by decide +kernel
theorem dX12_readLawLine_45 : decode cX12_readLawLine 45 = .ok (.ifCond .eq 7, 3) := by decide +kernel
theorem dX12_readLawLine_48 : decode cX12_readLawLine 48 = .ok (.iconst 2, 1) := by decide +kernel
theorem dX12_readLawLine_49 : decode cX12_readLawLine 49 = .ok (.goto 4, 3) := by decide +kernel
theorem dX12_readLawLine_52 : decode cX12_readLawLine 52 = .ok (.iconst (-1), 1) := by decide +kernel
theorem dX12_readLawLine_53 : decode cX12_readLawLine 53 = .ok (.iastore, 1) := by decide +kernel
theorem dX12_readLawLine_54 : decode cX12_readLawLine 54 = .ok (.aload_n 0, 1) := by decide +kernel
theorem dX12_readLawLine_55 : decode cX12_readLawLine 55 = .ok (.getfield 13, 3) := by decide +kernel
theorem dX12_readLawLine_58 : decode cX12_readLawLine 58 = .ok (.iload_n 2, 1) := by decide +kernel
theorem dX12_readLawLine_59 : decode cX12_readLawLine 59 = .ok (.iaload, 1) := by decide +kernel
theorem dX12_readLawLine_60 : decode cX12_readLawLine 60 = .ok (.ifCond .ge 5, 3) := by decide +kernel
theorem dX12_readLawLine_63 : decode cX12_readLawLine 63 = .ok (.iconst 0, 1) := by decide +kernel
theorem dX12_readLawLine_64 : decode cX12_readLawLine 64 = .ok (.ireturn, 1) := by decide +kernel
theorem dX12_readLawLine_65 : decode cX12_readLawLine 65 = .ok (.aload_n 0, 1) := by decide +kernel
theorem dX12_readLawLine_66 : decode cX12_readLawLine 66 = .ok (.getfield 13, 3) := by decide +kernel
theorem dX12_readLawLine_69 : decode cX12_readLawLine 69 = .ok (.iload_n 2, 1) := by decide +kernel
theorem dX12_readLawLine_70 : decode cX12_readLawLine 70 = .ok (.iconst 1, 1) := by decide +kernel
theorem dX12_readLawLine_71 : decode cX12_readLawLine 71 = .ok (.iadd, 1) := by decide +kernel
theorem dX12_readLawLine_72 : decode cX12_readLawLine 72 = .ok (.aload_n 0, 1) := by decide +kernel
theorem dX12_readLawLine_73 : decode cX12_readLawLine 73 = .ok (.iconst 0, 1) := by decide +kernel
theorem dX12_readLawLine_74 : decode cX12_readLawLine 74 = .ok (.bipush 60, 2) := by decide +kernel
theorem dX12_readLawLine_76 : decode cX12_readLawLine 76 = .ok (.invokevirtual 121, 3) := by decide +kernel
theorem dX12_readLawLine_79 : decode cX12_readLawLine 79 = .ok (.iastore, 1) := by decide +kernel
theorem dX12_readLawLine_80 : decode cX12_readLawLine 80 = .ok (.aload_n 0, 1) := by decide +kernel
theorem dX12_readLawLine_81 : decode cX12_readLawLine 81 = .ok (.getfield 13, 3) := by decide +kernel
theorem dX12_readLawLine_84 : decode cX12_readLawLine 84 = .ok (.iload_n 2, 1) := by decide +kernel
theorem dX12_readLawLine_85 : decode cX12_readLawLine 85 = .ok (.iconst 1, 1) := by decide +kernel
theorem dX12_readLawLine_86 : decode cX12_readLawLine 86 = .ok (.iadd, 1) := by decide +kernel
theorem dX12_readLawLine_87 : decode cX12_readLawLine 87 = .ok (.iaload, 1) := by decide +kernel
theorem dX12_readLawLine_88 : decode cX12_readLawLine 88 = .ok (.ifCond .ge 5, 3) := by decide +kernel
theorem dX12_readLawLine_91 : decode cX12_readLawLine 91 = .ok (.iconst 0, 1) := by decide +kernel
theorem dX12_readLawLine_92 : decode cX12_readLawLine 92 = .ok (.ireturn, 1) := by decide +kernel
theorem dX12_readLawLine_93 : decode cX12_readLawLine 93 = .ok (.aload_n 0, 1) := by decide +kernel
theorem dX12_readLawLine_94 : decode cX12_readLawLine 94 = .ok (.getfield 13, 3) := by decide +kernel
theorem dX12_readLawLine_97 : decode cX12_readLawLine 97 = .ok (.iload_n 2, 1) := by decide +kernel
theorem dX12_readLawLine_98 : decode cX12_readLawLine 98 = .ok (.iconst 2, 1) := by decide +kernel
theorem dX12_readLawLine_99 : decode cX12_readLawLine 99 = .ok (.iadd, 1) := by decide +kernel
theorem dX12_readLawLine_100 : decode cX12_readLawLine 100 = .ok (.aload_n 0, 1) := by decide +kernel
theorem dX12_readLawLine_101 : decode cX12_readLawLine 101 = .ok (.getfield 167, 3) := by decide +kernel
theorem dX12_readLawLine_104 : decode cX12_readLawLine 104 = .ok (.iastore, 1) := by decide +kernel
theorem dX12_readLawLine_105 : decode cX12_readLawLine 105 = .ok (.aload_n 0, 1) := by decide +kernel
theorem dX12_readLawLine_106 : decode cX12_readLawLine 106 = .ok (.iconst 0, 1) := by decide +kernel
theorem dX12_readLawLine_107 : decode cX12_readLawLine 107 = .ok (.putfield 195, 3) := by decide +kernel
theorem dX12_readLawLine_110 : decode cX12_readLawLine 110 = .ok (.aload_n 0, 1) := by decide +kernel
theorem dX12_readLawLine_111 : decode cX12_readLawLine 111 = .ok (.ldc 223, 2) := by decide +kernel
theorem dX12_readLawLine_113 : decode cX12_readLawLine 113 = .ok (.invokevirtual 126, 3) := by decide +kernel
theorem dX12_readLawLine_116 : decode cX12_readLawLine 116 = .ok (.ifCond .eq 12, 3) := by decide +kernel
theorem dX12_readLawLine_119 : decode cX12_readLawLine 119 = .ok (.aload_n 0, 1) := by decide +kernel
theorem dX12_readLawLine_120 : decode cX12_readLawLine 120 = .ok (.invokevirtual 198, 3) := by decide +kernel
theorem dX12_readLawLine_123 : decode cX12_readLawLine 123 = .ok (.ifCond .ne 5, 3) := by decide +kernel
theorem dX12_readLawLine_126 : decode cX12_readLawLine 126 = .ok (.iconst 0, 1) := by decide +kernel
theorem dX12_readLawLine_127 : decode cX12_readLawLine 127 = .ok (.ireturn, 1) := by decide +kernel
theorem dX12_readLawLine_128 : decode cX12_readLawLine 128 = .ok (.aload_n 0, 1) := by decide +kernel
theorem dX12_readLawLine_129 : decode cX12_readLawLine 129 = .ok (.getfield 13, 3) := by decide +kernel
theorem dX12_readLawLine_132 : decode cX12_readLawLine 132 = .ok (.iload_n 2, 1) := by decide +kernel
theorem dX12_readLawLine_133 : decode cX12_readLawLine 133 = .ok (.iconst 3, 1) := by decide +kernel
theorem dX12_readLawLine_134 : decode cX12_readLawLine 134 = .ok (.iadd, 1) := by decide +kernel
theorem dX12_readLawLine_135 : decode cX12_readLawLine 135 = .ok (.aload_n 0, 1) := by decide +kernel
theorem dX12_readLawLine_136 : decode cX12_readLawLine 136 = .ok (.getfield 167, 3) := by decide +kernel
theorem dX12_readLawLine_139 : decode cX12_readLawLine 139 = .ok (.iastore, 1) := by decide +kernel
theorem dX12_readLawLine_140 : decode cX12_readLawLine 140 = .ok (.iconst 1, 1) := by decide +kernel
theorem dX12_readLawLine_141 : decode cX12_readLawLine 141 = .ok (.ireturn, 1) := by decide +kernel
theorem dX12_readLine_0 : decode cX12_readLine 0 = .ok (.aload_n 0, 1) := by decide +kernel
theorem dX12_readLine_1 : decode cX12_readLine 1 = .ok (.invokevirtual 114, 3) := by decide +kernel
theorem dX12_readLine_4 : decode cX12_readLine 4 = .ok (.iload_n 2, 1) := by decide +kernel
theorem dX12_readLine_5 : decode cX12_readLine 5 = .ok (.iload_n 1, 1) := by decide +kernel
theorem dX12_readLine_6 : decode cX12_readLine 6 = .ok (.ifCond .eq 8, 3) := by decide +kernel
theorem dX12_readLine_9 : decode cX12_readLine 9 = .ok (.bipush 14, 2) := by decide +kernel
theorem dX12_readLine_11 : decode cX12_readLine 11 = .ok (.goto 5, 3) := by decide +kernel
theorem dX12_readLine_14 : decode cX12_readLine 14 = .ok (.bipush 12, 2) := by decide +kernel
theorem dX12_readLine_16 : decode cX12_readLine 16 = .ok (.if_icmp .ge 29, 3) := by decide +kernel
theorem dX12_readLine_19 : decode cX12_readLine 19 = .ok (.iload_n 1, 1) := by decide +kernel
theorem dX12_readLine_20 : decode cX12_readLine 20 = .ok (.ifCond .eq 13, 3) := by decide +kernel
theorem dX12_readLine_23 : decode cX12_readLine 23 = .ok (.aload_n 0, 1) := by decide +kernel
theorem dX12_readLine_24 : decode cX12_readLine 24 = .ok (.invokevirtual 225, 3) := by decide +kernel
theorem dX12_readLine_27 : decode cX12_readLine 27 = .ok (.ifCond .eq 18, 3) := by decide +kernel
theorem dX12_readLine_30 : decode cX12_readLine 30 = .ok (.goto 11, 3) := by decide +kernel
theorem dX12_readLine_33 : decode cX12_readLine 33 = .ok (.aload_n 0, 1) := by decide +kernel
theorem dX12_readLine_34 : decode cX12_readLine 34 = .ok (.iload_n 2, 1) := by decide +kernel
theorem dX12_readLine_35 : decode cX12_readLine 35 = .ok (.invokevirtual 228, 3) := by decide +kernel
theorem dX12_readLine_38 : decode cX12_readLine 38 = .ok (.ifCond .eq 7, 3) := by decide +kernel
theorem dX12_readLine_41 : decode cX12_readLine 41 = .ok (.iconst 1, 1) := by decide +kernel
theorem dX12_readLine_42 : decode cX12_readLine 42 = .ok (.goto 4, 3) := by decide +kernel
theorem dX12_readLine_45 : decode cX12_readLine 45 = .ok (.iconst 0, 1) := by decide +kernel
theorem dX12_readLine_46 : decode cX12_readLine 46 = .ok (.ireturn, 1) := by decide +kernel
theorem dX12_readAll_0 : decode cX12_readAll 0 = .ok (.aload_n 0, 1) := by decide +kernel
theorem dX12_readAll_1 : decode cX12_readAll 1 = .ok (.invokevirtual 231, 3) := by decide +kernel
theorem dX12_readAll_4 : decode cX12_readAll 4 = .ok (.aload_n 0, 1) := by decide +kernel
theorem dX12_readAll_5 : decode cX12_readAll 5 = .ok (.iconst 0, 1) := by decide +kernel
theorem dX12_readAll_6 : decode cX12_readAll 6 = .ok (.putfield 167, 3) := by decide +kernel
theorem dX12_readAll_9 : decode cX12_readAll 9 = .ok (.aload_n 0, 1) := by decide +kernel
theorem dX12_readAll_10 : decode cX12_readAll 10 = .ok (.invokevirtual 102, 3) := by decide +kernel
theorem dX12_readAll_13 : decode cX12_readAll 13 = .ok (.aload_n 0, 1) := by decide +kernel
theorem dX12_readAll_14 : decode cX12_readAll 14 = .ok (.getfield 89, 3) := by decide +kernel
theorem dX12_readAll_17 : decode cX12_readAll 17 = .ok (.aload_n 0, 1) := by decide +kernel
theorem dX12_readAll_18 : decode cX12_readAll 18 = .ok (.getfield 92, 3) := by decide +kernel
theorem dX12_readAll_21 : decode cX12_readAll 21 = .ok (.if_icmp .ne 5, 3) := by decide +kernel
theorem dX12_readAll_24 : decode cX12_readAll 24 = .ok (.iconst 0, 1) := by decide +kernel
theorem dX12_readAll_25 : decode cX12_readAll 25 = .ok (.ireturn, 1) := by decide +kernel
theorem dX12_readAll_26 : decode cX12_readAll 26 = .ok (.iconst 0, 1) := by decide +kernel
theorem dX12_readAll_27 : decode cX12_readAll 27 = .ok (.istore_n 2, 1) := by decide +kernel
theorem dX12_readAll_28 : decode cX12_readAll 28 = .ok (.aload_n 0, 1) := by decide +kernel
theorem dX12_readAll_29 : decode cX12_readAll 29 = .ok (.iload_n 1, 1) := by decide +kernel
theorem dX12_readAll_30 : decode cX12_readAll 30 = .ok (.iload_n 2, 1) := by decide +kernel
theorem dX12_readAll_31 : decode cX12_readAll 31 = .ok (.invokevirtual 234, 3) := by decide +kernel
theorem dX12_readAll_34 : decode cX12_readAll 34 = .ok (.ifCond .ne 5, 3) := by decide +kernel
theorem dX12_readAll_37 : decode cX12_readAll 37 = .ok (.iconst (-1), 1) := by decide +kernel
theorem dX12_readAll_38 : decode cX12_readAll 38 = .ok (.ireturn, 1) := by decide +kernel
theorem dX12_readAll_39 : decode cX12_readAll 39 = .ok (.aload_n 0, 1) := by decide +kernel
theorem dX12_readAll_40 : decode cX12_readAll 40 = .ok (.invokevirtual 102, 3) := by decide +kernel
theorem dX12_readAll_43 : decode cX12_readAll 43 = .ok (.aload_n 0, 1) := by decide +kernel
theorem dX12_readAll_44 : decode cX12_readAll 44 = .ok (.getfield 89, 3) := by decide +kernel
theorem dX12_readAll_47 : decode cX12_readAll 47 = .ok (.aload_n 0, 1) := by decide +kernel
theorem dX12_readAll_48 : decode cX12_readAll 48 = .ok (.getfield 92, 3) := by decide +kernel
theorem dX12_readAll_51 : decode cX12_readAll 51 = .ok (.if_icmp .ne 7, 3) := by decide +kernel
theorem dX12_readAll_54 : decode cX12_readAll 54 = .ok (.iload_n 2, 1) := by decide +kernel
theorem dX12_readAll_55 : decode cX12_readAll 55 = .ok (.iconst 1, 1) := by decide +kernel
theorem dX12_readAll_56 : decode cX12_readAll 56 = .ok (.iadd, 1) := by decide +kernel
theorem dX12_readAll_57 : decode cX12_readAll 57 = .ok (.ireturn, 1) := by decide +kernel
theorem dX12_readAll_58 : decode cX12_readAll 58 = .ok (.aload_n 0, 1) := by decide +kernel
theorem dX12_readAll_59 : decode cX12_readAll 59 = .ok (.bipush 59, 2) := by decide +kernel
theorem dX12_readAll_61 : decode cX12_readAll 61 = .ok (.bipush 59, 2) := by decide +kernel
theorem dX12_readAll_63 : decode cX12_readAll 63 = .ok (.invokevirtual 95, 3) := by decide +kernel
theorem dX12_readAll_66 : decode cX12_readAll 66 = .ok (.ifCond .ne 5, 3) := by decide +kernel
theorem dX12_readAll_69 : decode cX12_readAll 69 = .ok (.iconst (-1), 1) := by decide +kernel
theorem dX12_readAll_70 : decode cX12_readAll 70 = .ok (.ireturn, 1) := by decide +kernel
theorem dX12_readAll_71 : decode cX12_readAll 71 = .ok (.aload_n 0, 1) := by decide +kernel
theorem dX12_readAll_72 : decode cX12_readAll 72 = .ok (.dup, 1) := by decide +kernel
theorem dX12_readAll_73 : decode cX12_readAll 73 = .ok (.getfield 89, 3) := by decide +kernel
theorem dX12_readAll_76 : decode cX12_readAll 76 = .ok (.iconst 1, 1) := by decide +kernel
theorem dX12_readAll_77 : decode cX12_readAll 77 = .ok (.iadd, 1) := by decide +kernel
theorem dX12_readAll_78 : decode cX12_readAll 78 = .ok (.putfield 89, 3) := by decide +kernel
theorem dX12_readAll_81 : decode cX12_readAll 81 = .ok (.iinc 2 1, 3) := by decide +kernel
theorem dX12_readAll_84 : decode cX12_readAll 84 = .ok (.goto (-56), 3) := by decide +kernel
theorem dX12_hill_0 : decode cX12_hill 0 = .ok (.iconst 0, 1) := by decide +kernel
theorem dX12_hill_1 : decode cX12_hill 1 = .ok (.istore_n 1, 1) := by decide +kernel
theorem dX12_hill_2 : decode cX12_hill 2 = .ok (.iload_n 1, 1) := by decide +kernel
theorem dX12_hill_3 : decode cX12_hill 3 = .ok (.sipush 1231, 3) := by decide +kernel
theorem dX12_hill_6 : decode cX12_hill 6 = .ok (.if_icmp .ge 21, 3) := by decide +kernel
theorem dX12_hill_9 : decode cX12_hill 9 = .ok (.aload_n 0, 1) := by decide +kernel
theorem dX12_hill_10 : decode cX12_hill 10 = .ok (.getfield 20, 3) := by decide +kernel
theorem dX12_hill_13 : decode cX12_hill 13 = .ok (.iload_n 1, 1) := by decide +kernel
theorem dX12_hill_14 : decode cX12_hill 14 = .ok (.aload_n 0, 1) := by decide +kernel
theorem dX12_hill_15 : decode cX12_hill 15 = .ok (.getfield 13, 3) := by decide +kernel
theorem dX12_hill_18 : decode cX12_hill 18 = .ok (.iload_n 1, 1) := by decide +kernel
theorem dX12_hill_19 : decode cX12_hill 19 = .ok (.iaload, 1) := by decide +kernel
theorem dX12_hill_20 : decode cX12_hill 20 = .ok (.iastore, 1) := by decide +kernel
theorem dX12_hill_21 : decode cX12_hill 21 = .ok (.iinc 1 1, 3) := by decide +kernel
theorem dX12_hill_24 : decode cX12_hill 24 = .ok (.goto (-22), 3) := by decide +kernel
theorem dX12_hill_27 : decode cX12_hill 27 = .ok (.aload_n 0, 1) := by decide +kernel
theorem dX12_hill_28 : decode cX12_hill 28 = .ok (.iconst 1, 1) := by decide +kernel
theorem dX12_hill_29 : decode cX12_hill 29 = .ok (.invokevirtual 238, 3) := by decide +kernel
theorem dX12_hill_32 : decode cX12_hill 32 = .ok (.istore_n 1, 1) := by decide +kernel
theorem dX12_hill_33 : decode cX12_hill 33 = .ok (.aload_n 0, 1) := by decide +kernel
theorem dX12_hill_34 : decode cX12_hill 34 = .ok (.iload_n 1, 1) := by decide +kernel
theorem dX12_hill_35 : decode cX12_hill 35 = .ok (.ifCond .ge 10, 3) := by decide +kernel
theorem dX12_hill_38 : decode cX12_hill 38 = .ok (.aload_n 0, 1) := by decide +kernel
theorem dX12_hill_39 : decode cX12_hill 39 = .ok (.getfield 99, 3) := by decide +kernel
theorem dX12_hill_42 : decode cX12_hill 42 = .ok (.goto 4, 3) := by decide +kernel
theorem dX12_hill_45 : decode cX12_hill 45 = .ok (.iconst (-1), 1) := by decide +kernel
theorem dX12_hill_46 : decode cX12_hill 46 = .ok (.putfield 33, 3) := by decide +kernel
theorem dX12_hill_49 : decode cX12_hill 49 = .ok (.aload_n 0, 1) := by decide +kernel
theorem dX12_hill_50 : decode cX12_hill 50 = .ok (.iload_n 1, 1) := by decide +kernel
theorem dX12_hill_51 : decode cX12_hill 51 = .ok (.ifCond .ge 7, 3) := by decide +kernel
theorem dX12_hill_54 : decode cX12_hill 54 = .ok (.iconst 1, 1) := by decide +kernel
theorem dX12_hill_55 : decode cX12_hill 55 = .ok (.goto 4, 3) := by decide +kernel
theorem dX12_hill_58 : decode cX12_hill 58 = .ok (.iconst 0, 1) := by decide +kernel
theorem dX12_hill_59 : decode cX12_hill 59 = .ok (.iconst 1, 1) := by decide +kernel
theorem dX12_hill_60 : decode cX12_hill 60 = .ok (.invokevirtual 242, 3) := by decide +kernel
theorem dX12_hill_63 : decode cX12_hill 63 = .ok (.ifCond .ne 27, 3) := by decide +kernel
theorem dX12_hill_66 : decode cX12_hill 66 = .ok (.aload_n 0, 1) := by decide +kernel
theorem dX12_hill_67 : decode cX12_hill 67 = .ok (.aload_n 0, 1) := by decide +kernel
theorem dX12_hill_68 : decode cX12_hill 68 = .ok (.getfield 13, 3) := by decide +kernel
theorem dX12_hill_71 : decode cX12_hill 71 = .ok (.iconst 2, 1) := by decide +kernel
theorem dX12_hill_72 : decode cX12_hill 72 = .ok (.iaload, 1) := by decide +kernel
theorem dX12_hill_73 : decode cX12_hill 73 = .ok (.bipush 12, 2) := by decide +kernel
theorem dX12_hill_75 : decode cX12_hill 75 = .ok (.if_icmp .ne 7, 3) := by decide +kernel
theorem dX12_hill_78 : decode cX12_hill 78 = .ok (.iconst 1, 1) := by decide +kernel
theorem dX12_hill_79 : decode cX12_hill 79 = .ok (.goto 4, 3) := by decide +kernel
theorem dX12_hill_82 : decode cX12_hill 82 = .ok (.iconst 0, 1) := by decide +kernel
theorem dX12_hill_83 : decode cX12_hill 83 = .ok (.iconst 2, 1) := by decide +kernel
theorem dX12_hill_84 : decode cX12_hill 84 = .ok (.invokevirtual 242, 3) := by decide +kernel
theorem dX12_hill_87 : decode cX12_hill 87 = .ok (.ifCond .eq 32, 3) := by decide +kernel
theorem dX12_hill_90 : decode cX12_hill 90 = .ok (.iconst 0, 1) := by decide +kernel
theorem dX12_hill_91 : decode cX12_hill 91 = .ok (.istore_n 2, 1) := by decide +kernel
theorem dX12_hill_92 : decode cX12_hill 92 = .ok (.iload_n 2, 1) := by decide +kernel
theorem dX12_hill_93 : decode cX12_hill 93 = .ok (.sipush 1231, 3) := by decide +kernel
theorem dX12_hill_96 : decode cX12_hill 96 = .ok (.if_icmp .ge 21, 3) := by decide +kernel
theorem dX12_hill_99 : decode cX12_hill 99 = .ok (.aload_n 0, 1) := by decide +kernel
theorem dX12_hill_100 : decode cX12_hill 100 = .ok (.getfield 13, 3) := by decide +kernel
theorem dX12_hill_103 : decode cX12_hill 103 = .ok (.iload_n 2, 1) := by decide +kernel
theorem dX12_hill_104 : decode cX12_hill 104 = .ok (.aload_n 0, 1) := by decide +kernel
theorem dX12_hill_105 : decode cX12_hill 105 = .ok (.getfield 20, 3) := by decide +kernel
theorem dX12_hill_108 : decode cX12_hill 108 = .ok (.iload_n 2, 1) := by decide +kernel
theorem dX12_hill_109 : decode cX12_hill 109 = .ok (.iaload, 1) := by decide +kernel
theorem dX12_hill_110 : decode cX12_hill 110 = .ok (.iastore, 1) := by decide +kernel
theorem dX12_hill_111 : decode cX12_hill 111 = .ok (.iinc 2 1, 3) := by decide +kernel
theorem dX12_hill_114 : decode cX12_hill 114 = .ok (.goto (-22), 3) := by decide +kernel
theorem dX12_hill_117 : decode cX12_hill 117 = .ok (.iconst 0, 1) := by decide +kernel
theorem dX12_hill_118 : decode cX12_hill 118 = .ok (.ireturn, 1) := by decide +kernel
theorem dX12_hill_119 : decode cX12_hill 119 = .ok (.aload_n 0, 1) := by decide +kernel
theorem dX12_hill_120 : decode cX12_hill 120 = .ok (.getfield 13, 3) := by decide +kernel
theorem dX12_hill_123 : decode cX12_hill 123 = .ok (.iconst 2, 1) := by decide +kernel
theorem dX12_hill_124 : decode cX12_hill 124 = .ok (.dup2, 1) := by decide +kernel
theorem dX12_hill_125 : decode cX12_hill 125 = .ok (.iaload, 1) := by decide +kernel
theorem dX12_hill_126 : decode cX12_hill 126 = .ok (.iconst 1, 1) := by decide +kernel
theorem dX12_hill_127 : decode cX12_hill 127 = .ok (.iadd, 1) := by decide +kernel
theorem dX12_hill_128 : decode cX12_hill 128 = .ok (.iastore, 1) := by decide +kernel
theorem dX12_hill_129 : decode cX12_hill 129 = .ok (.aload_n 0, 1) := by decide +kernel
theorem dX12_hill_130 : decode cX12_hill 130 = .ok (.iconst 0, 1) := by decide +kernel
theorem dX12_hill_131 : decode cX12_hill 131 = .ok (.putfield 52, 3) := by decide +kernel
theorem dX12_hill_134 : decode cX12_hill 134 = .ok (.aload_n 0, 1) := by decide +kernel
theorem dX12_hill_135 : decode cX12_hill 135 = .ok (.getfield 13, 3) := by decide +kernel
theorem dX12_hill_138 : decode cX12_hill 138 = .ok (.iconst 2, 1) := by decide +kernel
theorem dX12_hill_139 : decode cX12_hill 139 = .ok (.iaload, 1) := by decide +kernel
theorem dX12_hill_140 : decode cX12_hill 140 = .ok (.ireturn, 1) := by decide +kernel
theorem dX12_law_0 : decode cX12_law 0 = .ok (.aload_n 0, 1) := by decide +kernel
theorem dX12_law_1 : decode cX12_law 1 = .ok (.iconst 0, 1) := by decide +kernel
theorem dX12_law_2 : decode cX12_law 2 = .ok (.invokevirtual 238, 3) := by decide +kernel
theorem dX12_law_5 : decode cX12_law 5 = .ok (.istore_n 1, 1) := by decide +kernel
theorem dX12_law_6 : decode cX12_law 6 = .ok (.aload_n 0, 1) := by decide +kernel
theorem dX12_law_7 : decode cX12_law 7 = .ok (.iload_n 1, 1) := by decide +kernel
theorem dX12_law_8 : decode cX12_law 8 = .ok (.ifCond .ge 10, 3) := by decide +kernel
theorem dX12_law_11 : decode cX12_law 11 = .ok (.aload_n 0, 1) := by decide +kernel
theorem dX12_law_12 : decode cX12_law 12 = .ok (.getfield 99, 3) := by decide +kernel
theorem dX12_law_15 : decode cX12_law 15 = .ok (.goto 4, 3) := by decide +kernel
theorem dX12_law_18 : decode cX12_law 18 = .ok (.iconst (-1), 1) := by decide +kernel
theorem dX12_law_19 : decode cX12_law 19 = .ok (.putfield 33, 3) := by decide +kernel
theorem dX12_law_22 : decode cX12_law 22 = .ok (.aload_n 0, 1) := by decide +kernel
theorem dX12_law_23 : decode cX12_law 23 = .ok (.iload_n 1, 1) := by decide +kernel
theorem dX12_law_24 : decode cX12_law 24 = .ok (.ifCond .ge 7, 3) := by decide +kernel
theorem dX12_law_27 : decode cX12_law 27 = .ok (.iconst 1, 1) := by decide +kernel
theorem dX12_law_28 : decode cX12_law 28 = .ok (.goto 4, 3) := by decide +kernel
theorem dX12_law_31 : decode cX12_law 31 = .ok (.iconst 0, 1) := by decide +kernel
theorem dX12_law_32 : decode cX12_law 32 = .ok (.iconst 1, 1) := by decide +kernel
theorem dX12_law_33 : decode cX12_law 33 = .ok (.invokevirtual 242, 3) := by decide +kernel
theorem dX12_law_36 : decode cX12_law 36 = .ok (.ifCond .eq 5, 3) := by decide +kernel
theorem dX12_law_39 : decode cX12_law 39 = .ok (.iconst 0, 1) := by decide +kernel
theorem dX12_law_40 : decode cX12_law 40 = .ok (.ireturn, 1) := by decide +kernel
theorem dX12_law_41 : decode cX12_law 41 = .ok (.aload_n 0, 1) := by decide +kernel
theorem dX12_law_42 : decode cX12_law 42 = .ok (.getfield 13, 3) := by decide +kernel
theorem dX12_law_45 : decode cX12_law 45 = .ok (.sipush 1231, 3) := by decide +kernel
theorem dX12_law_48 : decode cX12_law 48 = .ok (.iload_n 1, 1) := by decide +kernel
theorem dX12_law_49 : decode cX12_law 49 = .ok (.iastore, 1) := by decide +kernel
theorem dX12_law_50 : decode cX12_law 50 = .ok (.iconst 0, 1) := by decide +kernel
theorem dX12_law_51 : decode cX12_law 51 = .ok (.istore_n 2, 1) := by decide +kernel
theorem dX12_law_52 : decode cX12_law 52 = .ok (.iload_n 2, 1) := by decide +kernel
theorem dX12_law_53 : decode cX12_law 53 = .ok (.sipush 849, 3) := by decide +kernel
theorem dX12_law_56 : decode cX12_law 56 = .ok (.if_icmp .ge 29, 3) := by decide +kernel
theorem dX12_law_59 : decode cX12_law 59 = .ok (.aload_n 0, 1) := by decide +kernel
theorem dX12_law_60 : decode cX12_law 60 = .ok (.getfield 13, 3) := by decide +kernel
theorem dX12_law_63 : decode cX12_law 63 = .ok (.sipush 382, 3) := by decide +kernel
theorem dX12_law_66 : decode cX12_law 66 = .ok (.iload_n 2, 1) := by decide +kernel
theorem dX12_law_67 : decode cX12_law 67 = .ok (.iadd, 1) := by decide +kernel
theorem dX12_law_68 : decode cX12_law 68 = .ok (.aload_n 0, 1) := by decide +kernel
theorem dX12_law_69 : decode cX12_law 69 = .ok (.getfield 13, 3) := by decide +kernel
theorem dX12_law_72 : decode cX12_law 72 = .ok (.sipush 1231, 3) := by decide +kernel
theorem dX12_law_75 : decode cX12_law 75 = .ok (.iload_n 2, 1) := by decide +kernel
theorem dX12_law_76 : decode cX12_law 76 = .ok (.iadd, 1) := by decide +kernel
theorem dX12_law_77 : decode cX12_law 77 = .ok (.iaload, 1) := by decide +kernel
theorem dX12_law_78 : decode cX12_law 78 = .ok (.iastore, 1) := by decide +kernel
theorem dX12_law_79 : decode cX12_law 79 = .ok (.iinc 2 1, 3) := by decide +kernel
theorem dX12_law_82 : decode cX12_law 82 = .ok (.goto (-30), 3) := by decide +kernel
theorem dX12_law_85 : decode cX12_law 85 = .ok (.aload_n 0, 1) := by decide +kernel
theorem dX12_law_86 : decode cX12_law 86 = .ok (.getfield 13, 3) := by decide +kernel
theorem dX12_law_89 : decode cX12_law 89 = .ok (.iconst 3, 1) := by decide +kernel
theorem dX12_law_90 : decode cX12_law 90 = .ok (.iconst 1, 1) := by decide +kernel
theorem dX12_law_91 : decode cX12_law 91 = .ok (.iastore, 1) := by decide +kernel
theorem dX12_law_92 : decode cX12_law 92 = .ok (.aload_n 0, 1) := by decide +kernel
theorem dX12_law_93 : decode cX12_law 93 = .ok (.iconst 0, 1) := by decide +kernel
theorem dX12_law_94 : decode cX12_law 94 = .ok (.putfield 52, 3) := by decide +kernel
theorem dX12_law_97 : decode cX12_law 97 = .ok (.iload_n 1, 1) := by decide +kernel
theorem dX12_law_98 : decode cX12_law 98 = .ok (.ireturn, 1) := by decide +kernel
theorem dX12_thingsIn_0 : decode cX12_thingsIn 0 = .ok (.iconst 0, 1) := by decide +kernel
theorem dX12_thingsIn_1 : decode cX12_thingsIn 1 = .ok (.istore_n 2, 1) := by decide +kernel
theorem dX12_thingsIn_2 : decode cX12_thingsIn 2 = .ok (.iconst 0, 1) := by decide +kernel
theorem dX12_thingsIn_3 : decode cX12_thingsIn 3 = .ok (.istore_n 3, 1) := by decide +kernel
theorem dX12_thingsIn_4 : decode cX12_thingsIn 4 = .ok (.iload_n 3, 1) := by decide +kernel
theorem dX12_thingsIn_5 : decode cX12_thingsIn 5 = .ok (.aload_n 0, 1) := by decide +kernel
theorem dX12_thingsIn_6 : decode cX12_thingsIn 6 = .ok (.invokevirtual 82, 3) := by decide +kernel
theorem dX12_thingsIn_9 : decode cX12_thingsIn 9 = .ok (.if_icmp .ge 29, 3) := by decide +kernel
theorem dX12_thingsIn_12 : decode cX12_thingsIn 12 = .ok (.iload_n 2, 1) := by decide +kernel
theorem dX12_thingsIn_13 : decode cX12_thingsIn 13 = .ok (.aload_n 0, 1) := by decide +kernel
theorem dX12_thingsIn_14 : decode cX12_thingsIn 14 = .ok (.iload_n 3, 1) := by decide +kernel
theorem dX12_thingsIn_15 : decode cX12_thingsIn 15 = .ok (.iconst 2, 1) := by decide +kernel
theorem dX12_thingsIn_16 : decode cX12_thingsIn 16 = .ok (.invokevirtual 72, 3) := by decide +kernel
theorem dX12_thingsIn_19 : decode cX12_thingsIn 19 = .ok (.iload_n 1, 1) := by decide +kernel
theorem dX12_thingsIn_20 : decode cX12_thingsIn 20 = .ok (.if_icmp .ne 9, 3) := by decide +kernel
theorem dX12_thingsIn_23 : decode cX12_thingsIn 23 = .ok (.iconst 1, 1) := by decide +kernel
theorem dX12_thingsIn_24 : decode cX12_thingsIn 24 = .ok (.iload_n 3, 1) := by decide +kernel
theorem dX12_thingsIn_25 : decode cX12_thingsIn 25 = .ok (.ishl, 1) := by decide +kernel
theorem dX12_thingsIn_26 : decode cX12_thingsIn 26 = .ok (.goto 4, 3) := by decide +kernel
theorem dX12_thingsIn_29 : decode cX12_thingsIn 29 = .ok (.iconst 0, 1) := by decide +kernel
theorem dX12_thingsIn_30 : decode cX12_thingsIn 30 = .ok (.ior, 1) := by decide +kernel
theorem dX12_thingsIn_31 : decode cX12_thingsIn 31 = .ok (.istore_n 2, 1) := by decide +kernel
theorem dX12_thingsIn_32 : decode cX12_thingsIn 32 = .ok (.iinc 3 1, 3) := by decide +kernel
theorem dX12_thingsIn_35 : decode cX12_thingsIn 35 = .ok (.goto (-31), 3) := by decide +kernel
theorem dX12_thingsIn_38 : decode cX12_thingsIn 38 = .ok (.iload_n 2, 1) := by decide +kernel
theorem dX12_thingsIn_39 : decode cX12_thingsIn 39 = .ok (.ireturn, 1) := by decide +kernel
theorem dX12_weightOf_0 : decode cX12_weightOf 0 = .ok (.iconst 0, 1) := by decide +kernel
theorem dX12_weightOf_1 : decode cX12_weightOf 1 = .ok (.istore_n 2, 1) := by decide +kernel
theorem dX12_weightOf_2 : decode cX12_weightOf 2 = .ok (.iconst 0, 1) := by decide +kernel
theorem dX12_weightOf_3 : decode cX12_weightOf 3 = .ok (.istore_n 3, 1) := by decide +kernel
theorem dX12_weightOf_4 : decode cX12_weightOf 4 = .ok (.iload_n 3, 1) := by decide +kernel
theorem dX12_weightOf_5 : decode cX12_weightOf 5 = .ok (.aload_n 0, 1) := by decide +kernel
theorem dX12_weightOf_6 : decode cX12_weightOf 6 = .ok (.invokevirtual 82, 3) := by decide +kernel
theorem dX12_weightOf_9 : decode cX12_weightOf 9 = .ok (.if_icmp .ge 30, 3) := by decide +kernel
theorem dX12_weightOf_12 : decode cX12_weightOf 12 = .ok (.iload_n 2, 1) := by decide +kernel
theorem dX12_weightOf_13 : decode cX12_weightOf 13 = .ok (.iload_n 1, 1) := by decide +kernel
theorem dX12_weightOf_14 : decode cX12_weightOf 14 = .ok (.iload_n 3, 1) := by decide +kernel
theorem dX12_weightOf_15 : decode cX12_weightOf 15 = .ok (.invokestatic 245, 3) := by decide +kernel
theorem dX12_weightOf_18 : decode cX12_weightOf 18 = .ok (.ifCond .eq 12, 3) := by decide +kernel
theorem dX12_weightOf_21 : decode cX12_weightOf 21 = .ok (.aload_n 0, 1) := by decide +kernel
theorem dX12_weightOf_22 : decode cX12_weightOf 22 = .ok (.iload_n 3, 1) := by decide +kernel
theorem dX12_weightOf_23 : decode cX12_weightOf 23 = .ok (.iconst 0, 1) := by decide +kernel
theorem dX12_weightOf_24 : decode cX12_weightOf 24 = .ok (.invokevirtual 72, 3) := by decide +kernel
theorem dX12_weightOf_27 : decode cX12_weightOf 27 = .ok (.goto 4, 3) := by decide +kernel
theorem dX12_weightOf_30 : decode cX12_weightOf 30 = .ok (.iconst 0, 1) := by decide +kernel
theorem dX12_weightOf_31 : decode cX12_weightOf 31 = .ok (.iadd, 1) := by decide +kernel
theorem dX12_weightOf_32 : decode cX12_weightOf 32 = .ok (.istore_n 2, 1) := by decide +kernel
theorem dX12_weightOf_33 : decode cX12_weightOf 33 = .ok (.iinc 3 1, 3) := by decide +kernel
theorem dX12_weightOf_36 : decode cX12_weightOf 36 = .ok (.goto (-32), 3) := by decide +kernel
theorem dX12_weightOf_39 : decode cX12_weightOf 39 = .ok (.iload_n 2, 1) := by decide +kernel
theorem dX12_weightOf_40 : decode cX12_weightOf 40 = .ok (.ireturn, 1) := by decide +kernel
theorem dX12_worthOf_0 : decode cX12_worthOf 0 = .ok (.iconst 0, 1) := by decide +kernel
theorem dX12_worthOf_1 : decode cX12_worthOf 1 = .ok (.istore_n 2, 1) := by decide +kernel
theorem dX12_worthOf_2 : decode cX12_worthOf 2 = .ok (.iconst 0, 1) := by decide +kernel
theorem dX12_worthOf_3 : decode cX12_worthOf 3 = .ok (.istore_n 3, 1) := by decide +kernel
theorem dX12_worthOf_4 : decode cX12_worthOf 4 = .ok (.iload_n 3, 1) := by decide +kernel
theorem dX12_worthOf_5 : decode cX12_worthOf 5 = .ok (.aload_n 0, 1) := by decide +kernel
theorem dX12_worthOf_6 : decode cX12_worthOf 6 = .ok (.invokevirtual 82, 3) := by decide +kernel
theorem dX12_worthOf_9 : decode cX12_worthOf 9 = .ok (.if_icmp .ge 30, 3) := by decide +kernel
theorem dX12_worthOf_12 : decode cX12_worthOf 12 = .ok (.iload_n 2, 1) := by decide +kernel
theorem dX12_worthOf_13 : decode cX12_worthOf 13 = .ok (.iload_n 1, 1) := by decide +kernel
theorem dX12_worthOf_14 : decode cX12_worthOf 14 = .ok (.iload_n 3, 1) := by decide +kernel
theorem dX12_worthOf_15 : decode cX12_worthOf 15 = .ok (.invokestatic 245, 3) := by decide +kernel
theorem dX12_worthOf_18 : decode cX12_worthOf 18 = .ok (.ifCond .eq 12, 3) := by decide +kernel
theorem dX12_worthOf_21 : decode cX12_worthOf 21 = .ok (.aload_n 0, 1) := by decide +kernel
theorem dX12_worthOf_22 : decode cX12_worthOf 22 = .ok (.iload_n 3, 1) := by decide +kernel
theorem dX12_worthOf_23 : decode cX12_worthOf 23 = .ok (.iconst 1, 1) := by decide +kernel
theorem dX12_worthOf_24 : decode cX12_worthOf 24 = .ok (.invokevirtual 72, 3) := by decide +kernel
theorem dX12_worthOf_27 : decode cX12_worthOf 27 = .ok (.goto 4, 3) := by decide +kernel
theorem dX12_worthOf_30 : decode cX12_worthOf 30 = .ok (.iconst 0, 1) := by decide +kernel
theorem dX12_worthOf_31 : decode cX12_worthOf 31 = .ok (.iadd, 1) := by decide +kernel
theorem dX12_worthOf_32 : decode cX12_worthOf 32 = .ok (.istore_n 2, 1) := by decide +kernel
theorem dX12_worthOf_33 : decode cX12_worthOf 33 = .ok (.iinc 3 1, 3) := by decide +kernel
theorem dX12_worthOf_36 : decode cX12_worthOf 36 = .ok (.goto (-32), 3) := by decide +kernel
theorem dX12_worthOf_39 : decode cX12_worthOf 39 = .ok (.iload_n 2, 1) := by decide +kernel
theorem dX12_worthOf_40 : decode cX12_worthOf 40 = .ok (.ireturn, 1) := by decide +kernel
theorem dX12_loadOf_0 : decode cX12_loadOf 0 = .ok (.aload_n 0, 1) := by decide +kernel
theorem dX12_loadOf_1 : decode cX12_loadOf 1 = .ok (.aload_n 0, 1) := by decide +kernel
theorem dX12_loadOf_2 : decode cX12_loadOf 2 = .ok (.iload_n 1, 1) := by decide +kernel
theorem dX12_loadOf_3 : decode cX12_loadOf 3 = .ok (.invokevirtual 248, 3) := by decide +kernel
theorem dX12_loadOf_6 : decode cX12_loadOf 6 = .ok (.invokevirtual 252, 3) := by decide +kernel
theorem dX12_loadOf_9 : decode cX12_loadOf 9 = .ok (.iconst 5, 1) := by decide +kernel
theorem dX12_loadOf_10 : decode cX12_loadOf 10 = .ok (.aload_n 0, 1) := by decide +kernel
theorem dX12_loadOf_11 : decode cX12_loadOf 11 = .ok (.iload_n 1, 1) := by decide +kernel
theorem dX12_loadOf_12 : decode cX12_loadOf 12 = .ok (.iconst 1, 1) := by decide +kernel
theorem dX12_loadOf_13 : decode cX12_loadOf 13 = .ok (.invokevirtual 255, 3) := by decide +kernel
theorem dX12_loadOf_16 : decode cX12_loadOf 16 = .ok (.imul, 1) := by decide +kernel
theorem dX12_loadOf_17 : decode cX12_loadOf 17 = .ok (.iadd, 1) := by decide +kernel
theorem dX12_loadOf_18 : decode cX12_loadOf 18 = .ok (.aload_n 0, 1) := by decide +kernel
theorem dX12_loadOf_19 : decode cX12_loadOf 19 = .ok (.getfield 13, 3) := by decide +kernel
theorem dX12_loadOf_22 : decode cX12_loadOf 22 = .ok (.iconst 5, 1) := by decide +kernel
theorem dX12_loadOf_23 : decode cX12_loadOf 23 = .ok (.iaload, 1) := by decide +kernel
theorem dX12_loadOf_24 : decode cX12_loadOf 24 = .ok (.iadd, 1) := by decide +kernel
theorem dX12_loadOf_25 : decode cX12_loadOf 25 = .ok (.ireturn, 1) := by decide +kernel
theorem dX12_tiltBy_0 : decode cX12_tiltBy 0 = .ok (.bipush (-5), 2) := by decide +kernel
theorem dX12_tiltBy_2 : decode cX12_tiltBy 2 = .ok (.iconst 5, 1) := by decide +kernel
theorem dX12_tiltBy_3 : decode cX12_tiltBy 3 = .ok (.iload_n 1, 1) := by decide +kernel
theorem dX12_tiltBy_4 : decode cX12_tiltBy 4 = .ok (.aload_n 0, 1) := by decide +kernel
theorem dX12_tiltBy_5 : decode cX12_tiltBy 5 = .ok (.getfield 13, 3) := by decide +kernel
theorem dX12_tiltBy_8 : decode cX12_tiltBy 8 = .ok (.bipush 6, 2) := by decide +kernel
theorem dX12_tiltBy_10 : decode cX12_tiltBy 10 = .ok (.iaload, 1) := by decide +kernel
theorem dX12_tiltBy_11 : decode cX12_tiltBy 11 = .ok (.idiv, 1) := by decide +kernel
theorem dX12_tiltBy_12 : decode cX12_tiltBy 12 = .ok (.invokestatic 258, 3) := by decide +kernel
theorem dX12_tiltBy_15 : decode cX12_tiltBy 15 = .ok (.invokestatic 263, 3) := by decide +kernel
theorem dX12_tiltBy_18 : decode cX12_tiltBy 18 = .ok (.ireturn, 1) := by decide +kernel
theorem dX12_tiltOf_0 : decode cX12_tiltOf 0 = .ok (.aload_n 0, 1) := by decide +kernel
theorem dX12_tiltOf_1 : decode cX12_tiltOf 1 = .ok (.iload_n 1, 1) := by decide +kernel
theorem dX12_tiltOf_2 : decode cX12_tiltOf 2 = .ok (.invokevirtual 266, 3) := by decide +kernel
theorem dX12_tiltOf_5 : decode cX12_tiltOf 5 = .ok (.ifCond .eq 7, 3) := by decide +kernel
theorem dX12_tiltOf_8 : decode cX12_tiltOf 8 = .ok (.iconst 0, 1) := by decide +kernel
theorem dX12_tiltOf_9 : decode cX12_tiltOf 9 = .ok (.goto 24, 3) := by decide +kernel
theorem dX12_tiltOf_12 : decode cX12_tiltOf 12 = .ok (.aload_n 0, 1) := by decide +kernel
theorem dX12_tiltOf_13 : decode cX12_tiltOf 13 = .ok (.aload_n 0, 1) := by decide +kernel
theorem dX12_tiltOf_14 : decode cX12_tiltOf 14 = .ok (.iconst 2, 1) := by decide +kernel
theorem dX12_tiltOf_15 : decode cX12_tiltOf 15 = .ok (.iload_n 1, 1) := by decide +kernel
theorem dX12_tiltOf_16 : decode cX12_tiltOf 16 = .ok (.imul, 1) := by decide +kernel
theorem dX12_tiltOf_17 : decode cX12_tiltOf 17 = .ok (.iconst 1, 1) := by decide +kernel
theorem dX12_tiltOf_18 : decode cX12_tiltOf 18 = .ok (.iadd, 1) := by decide +kernel
theorem dX12_tiltOf_19 : decode cX12_tiltOf 19 = .ok (.invokevirtual 269, 3) := by decide +kernel
theorem dX12_tiltOf_22 : decode cX12_tiltOf 22 = .ok (.aload_n 0, 1) := by decide +kernel
theorem dX12_tiltOf_23 : decode cX12_tiltOf 23 = .ok (.iconst 2, 1) := by decide +kernel
theorem dX12_tiltOf_24 : decode cX12_tiltOf 24 = .ok (.iload_n 1, 1) := by decide +kernel
theorem dX12_tiltOf_25 : decode cX12_tiltOf 25 = .ok (.imul, 1) := by decide +kernel
theorem dX12_tiltOf_26 : decode cX12_tiltOf 26 = .ok (.invokevirtual 269, 3) := by decide +kernel
theorem dX12_tiltOf_29 : decode cX12_tiltOf 29 = .ok (.isub, 1) := by decide +kernel
theorem dX12_tiltOf_30 : decode cX12_tiltOf 30 = .ok (.invokevirtual 272, 3) := by decide +kernel
theorem dX12_tiltOf_33 : decode cX12_tiltOf 33 = .ok (.ireturn, 1) := by decide +kernel
theorem dX12_plankOf_0 : decode cX12_plankOf 0 = .ok (.iload_n 0, 1) := by decide +kernel
theorem dX12_plankOf_1 : decode cX12_plankOf 1 = .ok (.iconst 2, 1) := by decide +kernel
theorem dX12_plankOf_2 : decode cX12_plankOf 2 = .ok (.idiv, 1) := by decide +kernel
theorem dX12_plankOf_3 : decode cX12_plankOf 3 = .ok (.ireturn, 1) := by decide +kernel
theorem dX12_heightBy_0 : decode cX12_heightBy 0 = .ok (.iload_n 0, 1) := by decide +kernel
theorem dX12_heightBy_1 : decode cX12_heightBy 1 = .ok (.iconst 2, 1) := by decide +kernel
theorem dX12_heightBy_2 : decode cX12_heightBy 2 = .ok (.irem, 1) := by decide +kernel
theorem dX12_heightBy_3 : decode cX12_heightBy 3 = .ok (.ifCond .ne 9, 3) := by decide +kernel
theorem dX12_heightBy_6 : decode cX12_heightBy 6 = .ok (.iconst 5, 1) := by decide +kernel
theorem dX12_heightBy_7 : decode cX12_heightBy 7 = .ok (.iload_n 1, 1) := by decide +kernel
theorem dX12_heightBy_8 : decode cX12_heightBy 8 = .ok (.iadd, 1) := by decide +kernel
theorem dX12_heightBy_9 : decode cX12_heightBy 9 = .ok (.goto 6, 3) := by decide +kernel
theorem dX12_heightBy_12 : decode cX12_heightBy 12 = .ok (.iconst 5, 1) := by decide +kernel
theorem dX12_heightBy_13 : decode cX12_heightBy 13 = .ok (.iload_n 1, 1) := by decide +kernel
theorem dX12_heightBy_14 : decode cX12_heightBy 14 = .ok (.isub, 1) := by decide +kernel
theorem dX12_heightBy_15 : decode cX12_heightBy 15 = .ok (.ireturn, 1) := by decide +kernel
theorem dX12_heightOf_0 : decode cX12_heightOf 0 = .ok (.aload_n 0, 1) := by decide +kernel
theorem dX12_heightOf_1 : decode cX12_heightOf 1 = .ok (.iload_n 1, 1) := by decide +kernel
theorem dX12_heightOf_2 : decode cX12_heightOf 2 = .ok (.invokestatic 275, 3) := by decide +kernel
theorem dX12_heightOf_5 : decode cX12_heightOf 5 = .ok (.invokevirtual 278, 3) := by decide +kernel
theorem dX12_heightOf_8 : decode cX12_heightOf 8 = .ok (.ifCond .eq 7, 3) := by decide +kernel
theorem dX12_heightOf_11 : decode cX12_heightOf 11 = .ok (.iconst 0, 1) := by decide +kernel
theorem dX12_heightOf_12 : decode cX12_heightOf 12 = .ok (.goto 15, 3) := by decide +kernel
theorem dX12_heightOf_15 : decode cX12_heightOf 15 = .ok (.iload_n 1, 1) := by decide +kernel
theorem dX12_heightOf_16 : decode cX12_heightOf 16 = .ok (.aload_n 0, 1) := by decide +kernel
theorem dX12_heightOf_17 : decode cX12_heightOf 17 = .ok (.iload_n 1, 1) := by decide +kernel
theorem dX12_heightOf_18 : decode cX12_heightOf 18 = .ok (.invokestatic 275, 3) := by decide +kernel
theorem dX12_heightOf_21 : decode cX12_heightOf 21 = .ok (.invokevirtual 281, 3) := by decide +kernel
theorem dX12_heightOf_24 : decode cX12_heightOf 24 = .ok (.invokestatic 284, 3) := by decide +kernel
theorem dX12_heightOf_27 : decode cX12_heightOf 27 = .ok (.ireturn, 1) := by decide +kernel
theorem dX12_isLevel_0 : decode cX12_isLevel 0 = .ok (.aload_n 0, 1) := by decide +kernel
theorem dX12_isLevel_1 : decode cX12_isLevel 1 = .ok (.iload_n 1, 1) := by decide +kernel
theorem dX12_isLevel_2 : decode cX12_isLevel 2 = .ok (.invokevirtual 278, 3) := by decide +kernel
theorem dX12_isLevel_5 : decode cX12_isLevel 5 = .ok (.ifCond .ne 15, 3) := by decide +kernel
theorem dX12_isLevel_8 : decode cX12_isLevel 8 = .ok (.aload_n 0, 1) := by decide +kernel
theorem dX12_isLevel_9 : decode cX12_isLevel 9 = .ok (.iload_n 1, 1) := by decide +kernel
theorem dX12_isLevel_10 : decode cX12_isLevel 10 = .ok (.invokevirtual 281, 3) := by decide +kernel
theorem dX12_isLevel_13 : decode cX12_isLevel 13 = .ok (.ifCond .ne 7, 3) := by decide +kernel
theorem dX12_isLevel_16 : decode cX12_isLevel 16 = .ok (.iconst 1, 1) := by decide +kernel
theorem dX12_isLevel_17 : decode cX12_isLevel 17 = .ok (.goto 4, 3) := by decide +kernel
theorem dX12_isLevel_20 : decode cX12_isLevel 20 = .ok (.iconst 0, 1) := by decide +kernel
theorem dX12_isLevel_21 : decode cX12_isLevel 21 = .ok (.ireturn, 1) := by decide +kernel
theorem dX12_factOf_0 : decode cX12_factOf 0 = .ok (.iload_n 1, 1) := by decide +kernel
theorem dX12_factOf_1 : decode cX12_factOf 1 = .ok (.tableswitch 117 0 7 #[47, 49, 55, 61, 68, 78, 85, 100], 47) := by decide +kernel
theorem dX12_factOf_48 : decode cX12_factOf 48 = .ok (.iload_n 3, 1) := by decide +kernel
theorem dX12_factOf_49 : decode cX12_factOf 49 = .ok (.ireturn, 1) := by decide +kernel
theorem dX12_factOf_50 : decode cX12_factOf 50 = .ok (.aload_n 0, 1) := by decide +kernel
theorem dX12_factOf_51 : decode cX12_factOf 51 = .ok (.iload_n 3, 1) := by decide +kernel
theorem dX12_factOf_52 : decode cX12_factOf 52 = .ok (.invokevirtual 287, 3) := by decide +kernel
theorem dX12_factOf_55 : decode cX12_factOf 55 = .ok (.ireturn, 1) := by decide +kernel
theorem dX12_factOf_56 : decode cX12_factOf 56 = .ok (.aload_n 0, 1) := by decide +kernel
theorem dX12_factOf_57 : decode cX12_factOf 57 = .ok (.iload_n 3, 1) := by decide +kernel
theorem dX12_factOf_58 : decode cX12_factOf 58 = .ok (.invokevirtual 269, 3) := by decide +kernel
theorem dX12_factOf_61 : decode cX12_factOf 61 = .ok (.ireturn, 1) := by decide +kernel
theorem dX12_factOf_62 : decode cX12_factOf 62 = .ok (.aload_n 0, 1) := by decide +kernel
theorem dX12_factOf_63 : decode cX12_factOf 63 = .ok (.iload_n 3, 1) := by decide +kernel
theorem dX12_factOf_64 : decode cX12_factOf 64 = .ok (.iconst 1, 1) := by decide +kernel
theorem dX12_factOf_65 : decode cX12_factOf 65 = .ok (.invokevirtual 255, 3) := by decide +kernel
theorem dX12_factOf_68 : decode cX12_factOf 68 = .ok (.ireturn, 1) := by decide +kernel
theorem dX12_factOf_69 : decode cX12_factOf 69 = .ok (.aload_n 0, 1) := by decide +kernel
theorem dX12_factOf_70 : decode cX12_factOf 70 = .ok (.iload_n 3, 1) := by decide +kernel
theorem dX12_factOf_71 : decode cX12_factOf 71 = .ok (.invokestatic 275, 3) := by decide +kernel
theorem dX12_factOf_74 : decode cX12_factOf 74 = .ok (.iconst 1, 1) := by decide +kernel
theorem dX12_factOf_75 : decode cX12_factOf 75 = .ok (.invokevirtual 63, 3) := by decide +kernel
theorem dX12_factOf_78 : decode cX12_factOf 78 = .ok (.ireturn, 1) := by decide +kernel
theorem dX12_factOf_79 : decode cX12_factOf 79 = .ok (.aload_n 0, 1) := by decide +kernel
theorem dX12_factOf_80 : decode cX12_factOf 80 = .ok (.getfield 13, 3) := by decide +kernel
theorem dX12_factOf_83 : decode cX12_factOf 83 = .ok (.iconst 4, 1) := by decide +kernel
theorem dX12_factOf_84 : decode cX12_factOf 84 = .ok (.iaload, 1) := by decide +kernel
theorem dX12_factOf_85 : decode cX12_factOf 85 = .ok (.ireturn, 1) := by decide +kernel
theorem dX12_factOf_86 : decode cX12_factOf 86 = .ok (.aload_n 0, 1) := by decide +kernel
theorem dX12_factOf_87 : decode cX12_factOf 87 = .ok (.iload_n 3, 1) := by decide +kernel
theorem dX12_factOf_88 : decode cX12_factOf 88 = .ok (.invokevirtual 287, 3) := by decide +kernel
theorem dX12_factOf_91 : decode cX12_factOf 91 = .ok (.iconst 5, 1) := by decide +kernel
theorem dX12_factOf_92 : decode cX12_factOf 92 = .ok (.if_icmp .le 7, 3) := by decide +kernel
theorem dX12_factOf_95 : decode cX12_factOf 95 = .ok (.iconst 1, 1) := by decide +kernel
theorem dX12_factOf_96 : decode cX12_factOf 96 = .ok (.goto 4, 3) := by decide +kernel
theorem dX12_factOf_99 : decode cX12_factOf 99 = .ok (.iconst 0, 1) := by decide +kernel
theorem dX12_factOf_100 : decode cX12_factOf 100 = .ok (.ireturn, 1) := by decide +kernel
theorem dX12_factOf_101 : decode cX12_factOf 101 = .ok (.aload_n 0, 1) := by decide +kernel
theorem dX12_factOf_102 : decode cX12_factOf 102 = .ok (.iload_n 3, 1) := by decide +kernel
theorem dX12_factOf_103 : decode cX12_factOf 103 = .ok (.invokestatic 275, 3) := by decide +kernel
theorem dX12_factOf_106 : decode cX12_factOf 106 = .ok (.invokevirtual 290, 3) := by decide +kernel
theorem dX12_factOf_109 : decode cX12_factOf 109 = .ok (.ifCond .eq 7, 3) := by decide +kernel
theorem dX12_factOf_112 : decode cX12_factOf 112 = .ok (.iconst 1, 1) := by decide +kernel
theorem dX12_factOf_113 : decode cX12_factOf 113 = .ok (.goto 4, 3) := by decide +kernel
theorem dX12_factOf_116 : decode cX12_factOf 116 = .ok (.iconst 0, 1) := by decide +kernel
theorem dX12_factOf_117 : decode cX12_factOf 117 = .ok (.ireturn, 1) := by decide +kernel
theorem dX12_factOf_118 : decode cX12_factOf 118 = .ok (.iload_n 2, 1) := by decide +kernel
theorem dX12_factOf_119 : decode cX12_factOf 119 = .ok (.ireturn, 1) := by decide +kernel
theorem dX12_holdsLine_0 : decode cX12_holdsLine 0 = .ok (.iconst 0, 1) := by decide +kernel
theorem dX12_holdsLine_1 : decode cX12_holdsLine 1 = .ok (.istore_n 3, 1) := by decide +kernel
theorem dX12_holdsLine_2 : decode cX12_holdsLine 2 = .ok (.sipush 383, 3) := by decide +kernel
theorem dX12_holdsLine_5 : decode cX12_holdsLine 5 = .ok (.iconst 4, 1) := by decide +kernel
theorem dX12_holdsLine_6 : decode cX12_holdsLine 6 = .ok (.iload_n 1, 1) := by decide +kernel
theorem dX12_holdsLine_7 : decode cX12_holdsLine 7 = .ok (.imul, 1) := by decide +kernel
theorem dX12_holdsLine_8 : decode cX12_holdsLine 8 = .ok (.iadd, 1) := by decide +kernel
theorem dX12_holdsLine_9 : decode cX12_holdsLine 9 = .ok (.istore 4, 2) := by decide +kernel
theorem dX12_holdsLine_11 : decode cX12_holdsLine 11 = .ok (.aload_n 0, 1) := by decide +kernel
theorem dX12_holdsLine_12 : decode cX12_holdsLine 12 = .ok (.getfield 13, 3) := by decide +kernel
theorem dX12_holdsLine_15 : decode cX12_holdsLine 15 = .ok (.iload 4, 2) := by decide +kernel
theorem dX12_holdsLine_17 : decode cX12_holdsLine 17 = .ok (.iconst 2, 1) := by decide +kernel
theorem dX12_holdsLine_18 : decode cX12_holdsLine 18 = .ok (.iadd, 1) := by decide +kernel
theorem dX12_holdsLine_19 : decode cX12_holdsLine 19 = .ok (.iaload, 1) := by decide +kernel
theorem dX12_holdsLine_20 : decode cX12_holdsLine 20 = .ok (.istore 5, 2) := by decide +kernel
theorem dX12_holdsLine_22 : decode cX12_holdsLine 22 = .ok (.iload 5, 2) := by decide +kernel
theorem dX12_holdsLine_24 : decode cX12_holdsLine 24 = .ok (.aload_n 0, 1) := by decide +kernel
theorem dX12_holdsLine_25 : decode cX12_holdsLine 25 = .ok (.getfield 13, 3) := by decide +kernel
theorem dX12_holdsLine_28 : decode cX12_holdsLine 28 = .ok (.iload 4, 2) := by decide +kernel
theorem dX12_holdsLine_30 : decode cX12_holdsLine 30 = .ok (.iconst 3, 1) := by decide +kernel
theorem dX12_holdsLine_31 : decode cX12_holdsLine 31 = .ok (.iadd, 1) := by decide +kernel
theorem dX12_holdsLine_32 : decode cX12_holdsLine 32 = .ok (.iaload, 1) := by decide +kernel
theorem dX12_holdsLine_33 : decode cX12_holdsLine 33 = .ok (.if_icmp .ge 230, 3) := by decide +kernel
theorem dX12_holdsLine_36 : decode cX12_holdsLine 36 = .ok (.aload_n 0, 1) := by decide +kernel
theorem dX12_holdsLine_37 : decode cX12_holdsLine 37 = .ok (.getfield 13, 3) := by decide +kernel
theorem dX12_holdsLine_40 : decode cX12_holdsLine 40 = .ok (.sipush 431, 3) := by decide +kernel
theorem dX12_holdsLine_43 : decode cX12_holdsLine 43 = .ok (.iconst 2, 1) := by decide +kernel
theorem dX12_holdsLine_44 : decode cX12_holdsLine 44 = .ok (.iload 5, 2) := by decide +kernel
theorem dX12_holdsLine_46 : decode cX12_holdsLine 46 = .ok (.imul, 1) := by decide +kernel
theorem dX12_holdsLine_47 : decode cX12_holdsLine 47 = .ok (.iadd, 1) := by decide +kernel
theorem dX12_holdsLine_48 : decode cX12_holdsLine 48 = .ok (.iaload, 1) := by decide +kernel
theorem dX12_holdsLine_49 : decode cX12_holdsLine 49 = .ok (.istore 6, 2) := by decide +kernel
theorem dX12_holdsLine_51 : decode cX12_holdsLine 51 = .ok (.iload 6, 2) := by decide +kernel
theorem dX12_holdsLine_53 : decode cX12_holdsLine 53 = .ok (.bipush 8, 2) := by decide +kernel
theorem dX12_holdsLine_55 : decode cX12_holdsLine 55 = .ok (.if_icmp .gt 37, 3) := by decide +kernel
theorem dX12_holdsLine_58 : decode cX12_holdsLine 58 = .ok (.aload_n 0, 1) := by decide +kernel
theorem dX12_holdsLine_59 : decode cX12_holdsLine 59 = .ok (.getfield 39, 3) := by decide +kernel
theorem dX12_holdsLine_62 : decode cX12_holdsLine 62 = .ok (.iload_n 3, 1) := by decide +kernel
theorem dX12_holdsLine_63 : decode cX12_holdsLine 63 = .ok (.aload_n 0, 1) := by decide +kernel
theorem dX12_holdsLine_64 : decode cX12_holdsLine 64 = .ok (.iload 6, 2) := by decide +kernel
theorem dX12_holdsLine_66 : decode cX12_holdsLine 66 = .ok (.aload_n 0, 1) := by decide +kernel
theorem dX12_holdsLine_67 : decode cX12_holdsLine 67 = .ok (.getfield 13, 3) := by decide +kernel
theorem dX12_holdsLine_70 : decode cX12_holdsLine 70 = .ok (.sipush 431, 3) := by decide +kernel
theorem dX12_holdsLine_73 : decode cX12_holdsLine 73 = .ok (.iconst 2, 1) := by decide +kernel
theorem dX12_holdsLine_74 : decode cX12_holdsLine 74 = .ok (.iload 5, 2) := by decide +kernel
theorem dX12_holdsLine_76 : decode cX12_holdsLine 76 = .ok (.imul, 1) := by decide +kernel
theorem dX12_holdsLine_77 : decode cX12_holdsLine 77 = .ok (.iadd, 1) := by decide +kernel
theorem dX12_holdsLine_78 : decode cX12_holdsLine 78 = .ok (.iconst 1, 1) := by decide +kernel
theorem dX12_holdsLine_79 : decode cX12_holdsLine 79 = .ok (.iadd, 1) := by decide +kernel
theorem dX12_holdsLine_80 : decode cX12_holdsLine 80 = .ok (.iaload, 1) := by decide +kernel
theorem dX12_holdsLine_81 : decode cX12_holdsLine 81 = .ok (.iload_n 2, 1) := by decide +kernel
theorem dX12_holdsLine_82 : decode cX12_holdsLine 82 = .ok (.invokevirtual 293, 3) := by decide +kernel
theorem dX12_holdsLine_85 : decode cX12_holdsLine 85 = .ok (.iastore, 1) := by decide +kernel
theorem dX12_holdsLine_86 : decode cX12_holdsLine 86 = .ok (.iinc 3 1, 3) := by decide +kernel
theorem dX12_holdsLine_89 : decode cX12_holdsLine 89 = .ok (.goto 168, 3) := by decide +kernel
theorem dX12_holdsLine_92 : decode cX12_holdsLine 92 = .ok (.iload 6, 2) := by decide +kernel
theorem dX12_holdsLine_94 : decode cX12_holdsLine 94 = .ok (.bipush 12, 2) := by decide +kernel
theorem dX12_holdsLine_96 : decode cX12_holdsLine 96 = .ok (.if_icmp .ne 24, 3) := by decide +kernel
theorem dX12_holdsLine_99 : decode cX12_holdsLine 99 = .ok (.aload_n 0, 1) := by decide +kernel
theorem dX12_holdsLine_100 : decode cX12_holdsLine 100 = .ok (.getfield 39, 3) := by decide +kernel
theorem dX12_holdsLine_103 : decode cX12_holdsLine 103 = .ok (.iload_n 3, 1) := by decide +kernel
theorem dX12_holdsLine_104 : decode cX12_holdsLine 104 = .ok (.iconst 1, 1) := by decide +kernel
theorem dX12_holdsLine_105 : decode cX12_holdsLine 105 = .ok (.isub, 1) := by decide +kernel
theorem dX12_holdsLine_106 : decode cX12_holdsLine 106 = .ok (.iconst 1, 1) := by decide +kernel
theorem dX12_holdsLine_107 : decode cX12_holdsLine 107 = .ok (.aload_n 0, 1) := by decide +kernel
theorem dX12_holdsLine_108 : decode cX12_holdsLine 108 = .ok (.getfield 39, 3) := by decide +kernel
theorem dX12_holdsLine_111 : decode cX12_holdsLine 111 = .ok (.iload_n 3, 1) := by decide +kernel
theorem dX12_holdsLine_112 : decode cX12_holdsLine 112 = .ok (.iconst 1, 1) := by decide +kernel
theorem dX12_holdsLine_113 : decode cX12_holdsLine 113 = .ok (.isub, 1) := by decide +kernel
theorem dX12_holdsLine_114 : decode cX12_holdsLine 114 = .ok (.iaload, 1) := by decide +kernel
theorem dX12_holdsLine_115 : decode cX12_holdsLine 115 = .ok (.isub, 1) := by decide +kernel
theorem dX12_holdsLine_116 : decode cX12_holdsLine 116 = .ok (.iastore, 1) := by decide +kernel
theorem dX12_holdsLine_117 : decode cX12_holdsLine 117 = .ok (.goto 140, 3) := by decide +kernel
theorem dX12_holdsLine_120 : decode cX12_holdsLine 120 = .ok (.iinc 3 (-1), 3) := by decide +kernel
theorem dX12_holdsLine_123 : decode cX12_holdsLine 123 = .ok (.aload_n 0, 1) := by decide +kernel
theorem dX12_holdsLine_124 : decode cX12_holdsLine 124 = .ok (.getfield 39, 3) := by decide +kernel
theorem dX12_holdsLine_127 : decode cX12_holdsLine 127 = .ok (.iload_n 3, 1) := by decide +kernel
theorem dX12_holdsLine_128 : decode cX12_holdsLine 128 = .ok (.iconst 1, 1) := by decide +kernel
theorem dX12_holdsLine_129 : decode cX12_holdsLine 129 = .ok (.isub, 1) := by decide +kernel
theorem dX12_holdsLine_130 : decode cX12_holdsLine 130 = .ok (.iaload, 1) := by decide +kernel
theorem dX12_holdsLine_131 : decode cX12_holdsLine 131 = .ok (.istore 7, 2) := by decide +kernel
theorem dX12_holdsLine_133 : decode cX12_holdsLine 133 = .ok (.aload_n 0, 1) := by decide +kernel
theorem dX12_holdsLine_134 : decode cX12_holdsLine 134 = .ok (.getfield 39, 3) := by decide +kernel
theorem dX12_holdsLine_137 : decode cX12_holdsLine 137 = .ok (.iload_n 3, 1) := by decide +kernel
theorem dX12_holdsLine_138 : decode cX12_holdsLine 138 = .ok (.iaload, 1) := by decide +kernel
theorem dX12_holdsLine_139 : decode cX12_holdsLine 139 = .ok (.istore 8, 2) := by decide +kernel
theorem dX12_holdsLine_141 : decode cX12_holdsLine 141 = .ok (.iload 6, 2) := by decide +kernel
theorem dX12_holdsLine_143 : decode cX12_holdsLine 143 = .ok (.bipush 10, 2) := by decide +kernel
theorem dX12_holdsLine_145 : decode cX12_holdsLine 145 = .ok (.if_icmp .ne 18, 3) := by decide +kernel
theorem dX12_holdsLine_148 : decode cX12_holdsLine 148 = .ok (.iload 7, 2) := by decide +kernel
theorem dX12_holdsLine_150 : decode cX12_holdsLine 150 = .ok (.iload 8, 2) := by decide +kernel
theorem dX12_holdsLine_152 : decode cX12_holdsLine 152 = .ok (.if_icmp .ge 7, 3) := by decide +kernel
theorem dX12_holdsLine_155 : decode cX12_holdsLine 155 = .ok (.iconst 1, 1) := by decide +kernel
theorem dX12_holdsLine_156 : decode cX12_holdsLine 156 = .ok (.goto 66, 3) := by decide +kernel
theorem dX12_holdsLine_159 : decode cX12_holdsLine 159 = .ok (.iconst 0, 1) := by decide +kernel
theorem dX12_holdsLine_160 : decode cX12_holdsLine 160 = .ok (.goto 62, 3) := by decide +kernel
theorem dX12_holdsLine_163 : decode cX12_holdsLine 163 = .ok (.iload 6, 2) := by decide +kernel
theorem dX12_holdsLine_165 : decode cX12_holdsLine 165 = .ok (.bipush 11, 2) := by decide +kernel
theorem dX12_holdsLine_167 : decode cX12_holdsLine 167 = .ok (.if_icmp .ne 18, 3) := by decide +kernel
theorem dX12_holdsLine_170 : decode cX12_holdsLine 170 = .ok (.iload 7, 2) := by decide +kernel
theorem dX12_holdsLine_172 : decode cX12_holdsLine 172 = .ok (.iload 8, 2) := by decide +kernel
theorem dX12_holdsLine_174 : decode cX12_holdsLine 174 = .ok (.if_icmp .le 7, 3) := by decide +kernel
theorem dX12_holdsLine_177 : decode cX12_holdsLine 177 = .ok (.iconst 1, 1) := by decide +kernel
theorem dX12_holdsLine_178 : decode cX12_holdsLine 178 = .ok (.goto 44, 3) := by decide +kernel
theorem dX12_holdsLine_181 : decode cX12_holdsLine 181 = .ok (.iconst 0, 1) := by decide +kernel
theorem dX12_holdsLine_182 : decode cX12_holdsLine 182 = .ok (.goto 40, 3) := by decide +kernel
theorem dX12_holdsLine_185 : decode cX12_holdsLine 185 = .ok (.iload 6, 2) := by decide +kernel
theorem dX12_holdsLine_187 : decode cX12_holdsLine 187 = .ok (.bipush 13, 2) := by decide +kernel
theorem dX12_holdsLine_189 : decode cX12_holdsLine 189 = .ok (.if_icmp .ne 20, 3) := by decide +kernel
theorem dX12_holdsLine_192 : decode cX12_holdsLine 192 = .ok (.iload 7, 2) := by decide +kernel
theorem dX12_holdsLine_194 : decode cX12_holdsLine 194 = .ok (.iload 8, 2) := by decide +kernel
theorem dX12_holdsLine_196 : decode cX12_holdsLine 196 = .ok (.iadd, 1) := by decide +kernel
theorem dX12_holdsLine_197 : decode cX12_holdsLine 197 = .ok (.iconst 2, 1) := by decide +kernel
theorem dX12_holdsLine_198 : decode cX12_holdsLine 198 = .ok (.if_icmp .ne 7, 3) := by decide +kernel
theorem dX12_holdsLine_201 : decode cX12_holdsLine 201 = .ok (.iconst 1, 1) := by decide +kernel
theorem dX12_holdsLine_202 : decode cX12_holdsLine 202 = .ok (.goto 20, 3) := by decide +kernel
theorem dX12_holdsLine_205 : decode cX12_holdsLine 205 = .ok (.iconst 0, 1) := by decide +kernel
theorem dX12_holdsLine_206 : decode cX12_holdsLine 206 = .ok (.goto 16, 3) := by decide +kernel
theorem dX12_holdsLine_209 : decode cX12_holdsLine 209 = .ok (.iload 7, 2) := by decide +kernel
theorem dX12_holdsLine_211 : decode cX12_holdsLine 211 = .ok (.iload 8, 2) := by decide +kernel
theorem dX12_holdsLine_213 : decode cX12_holdsLine 213 = .ok (.iadd, 1) := by decide +kernel
theorem dX12_holdsLine_214 : decode cX12_holdsLine 214 = .ok (.ifCond .le 7, 3) := by decide +kernel
theorem dX12_holdsLine_217 : decode cX12_holdsLine 217 = .ok (.iconst 1, 1) := by decide +kernel
theorem dX12_holdsLine_218 : decode cX12_holdsLine 218 = .ok (.goto 4, 3) := by decide +kernel
theorem dX12_holdsLine_221 : decode cX12_holdsLine 221 = .ok (.iconst 0, 1) := by decide +kernel
theorem dX12_holdsLine_222 : decode cX12_holdsLine 222 = .ok (.istore 9, 2) := by decide +kernel
theorem dX12_holdsLine_224 : decode cX12_holdsLine 224 = .ok (.aload_n 0, 1) := by decide +kernel
theorem dX12_holdsLine_225 : decode cX12_holdsLine 225 = .ok (.getfield 39, 3) := by decide +kernel
theorem dX12_holdsLine_228 : decode cX12_holdsLine 228 = .ok (.iload_n 3, 1) := by decide +kernel
theorem dX12_holdsLine_229 : decode cX12_holdsLine 229 = .ok (.iconst 1, 1) := by decide +kernel
theorem dX12_holdsLine_230 : decode cX12_holdsLine 230 = .ok (.isub, 1) := by decide +kernel
theorem dX12_holdsLine_231 : decode cX12_holdsLine 231 = .ok (.iload 6, 2) := by decide +kernel
theorem dX12_holdsLine_233 : decode cX12_holdsLine 233 = .ok (.bipush 9, 2) := by decide +kernel
theorem dX12_holdsLine_235 : decode cX12_holdsLine 235 = .ok (.if_icmp .ne 11, 3) := by decide +kernel
theorem dX12_holdsLine_238 : decode cX12_holdsLine 238 = .ok (.iload 7, 2) := by decide +kernel
theorem dX12_holdsLine_240 : decode cX12_holdsLine 240 = .ok (.iload 8, 2) := by decide +kernel
theorem dX12_holdsLine_242 : decode cX12_holdsLine 242 = .ok (.iadd, 1) := by decide +kernel
theorem dX12_holdsLine_243 : decode cX12_holdsLine 243 = .ok (.goto 13, 3) := by decide +kernel
theorem dX12_holdsLine_246 : decode cX12_holdsLine 246 = .ok (.iload 9, 2) := by decide +kernel
theorem dX12_holdsLine_248 : decode cX12_holdsLine 248 = .ok (.ifCond .eq 7, 3) := by decide +kernel
theorem dX12_holdsLine_251 : decode cX12_holdsLine 251 = .ok (.iconst 1, 1) := by decide +kernel
theorem dX12_holdsLine_252 : decode cX12_holdsLine 252 = .ok (.goto 4, 3) := by decide +kernel
theorem dX12_holdsLine_255 : decode cX12_holdsLine 255 = .ok (.iconst 0, 1) := by decide +kernel
theorem dX12_holdsLine_256 : decode cX12_holdsLine 256 = .ok (.iastore, 1) := by decide +kernel
theorem dX12_holdsLine_257 : decode cX12_holdsLine 257 = .ok (.iinc 5 1, 3) := by decide +kernel
theorem dX12_holdsLine_260 : decode cX12_holdsLine 260 = .ok (.goto (-238), 3) := by decide +kernel
theorem dX12_holdsLine_263 : decode cX12_holdsLine 263 = .ok (.iload_n 3, 1) := by decide +kernel
theorem dX12_holdsLine_264 : decode cX12_holdsLine 264 = .ok (.ifCond .eq 13, 3) := by decide +kernel
theorem dX12_holdsLine_267 : decode cX12_holdsLine 267 = .ok (.aload_n 0, 1) := by decide +kernel
theorem dX12_holdsLine_268 : decode cX12_holdsLine 268 = .ok (.getfield 39, 3) := by decide +kernel
theorem dX12_holdsLine_271 : decode cX12_holdsLine 271 = .ok (.iconst 0, 1) := by decide +kernel
theorem dX12_holdsLine_272 : decode cX12_holdsLine 272 = .ok (.iaload, 1) := by decide +kernel
theorem dX12_holdsLine_273 : decode cX12_holdsLine 273 = .ok (.iconst 1, 1) := by decide +kernel
theorem dX12_holdsLine_274 : decode cX12_holdsLine 274 = .ok (.if_icmp .ne 7, 3) := by decide +kernel
theorem dX12_holdsLine_277 : decode cX12_holdsLine 277 = .ok (.iconst 1, 1) := by decide +kernel
theorem dX12_holdsLine_278 : decode cX12_holdsLine 278 = .ok (.goto 4, 3) := by decide +kernel
theorem dX12_holdsLine_281 : decode cX12_holdsLine 281 = .ok (.iconst 0, 1) := by decide +kernel
theorem dX12_holdsLine_282 : decode cX12_holdsLine 282 = .ok (.ireturn, 1) := by decide +kernel
theorem dX12_sumOf_0 : decode cX12_sumOf 0 = .ok (.iconst 0, 1) := by decide +kernel
theorem dX12_sumOf_1 : decode cX12_sumOf 1 = .ok (.istore_n 3, 1) := by decide +kernel
theorem dX12_sumOf_2 : decode cX12_sumOf 2 = .ok (.iconst 0, 1) := by decide +kernel
theorem dX12_sumOf_3 : decode cX12_sumOf 3 = .ok (.istore 4, 2) := by decide +kernel
theorem dX12_sumOf_5 : decode cX12_sumOf 5 = .ok (.aload_n 0, 1) := by decide +kernel
theorem dX12_sumOf_6 : decode cX12_sumOf 6 = .ok (.getfield 13, 3) := by decide +kernel
theorem dX12_sumOf_9 : decode cX12_sumOf 9 = .ok (.iconst 3, 1) := by decide +kernel
theorem dX12_sumOf_10 : decode cX12_sumOf 10 = .ok (.iaload, 1) := by decide +kernel
theorem dX12_sumOf_11 : decode cX12_sumOf 11 = .ok (.iconst 1, 1) := by decide +kernel
theorem dX12_sumOf_12 : decode cX12_sumOf 12 = .ok (.if_icmp .ne 67, 3) := by decide +kernel
theorem dX12_sumOf_15 : decode cX12_sumOf 15 = .ok (.iload 4, 2) := by decide +kernel
theorem dX12_sumOf_17 : decode cX12_sumOf 17 = .ok (.aload_n 0, 1) := by decide +kernel
theorem dX12_sumOf_18 : decode cX12_sumOf 18 = .ok (.getfield 13, 3) := by decide +kernel
theorem dX12_sumOf_21 : decode cX12_sumOf 21 = .ok (.sipush 382, 3) := by decide +kernel
theorem dX12_sumOf_24 : decode cX12_sumOf 24 = .ok (.iaload, 1) := by decide +kernel
theorem dX12_sumOf_25 : decode cX12_sumOf 25 = .ok (.if_icmp .ge 54, 3) := by decide +kernel
theorem dX12_sumOf_28 : decode cX12_sumOf 28 = .ok (.aload_n 0, 1) := by decide +kernel
theorem dX12_sumOf_29 : decode cX12_sumOf 29 = .ok (.getfield 13, 3) := by decide +kernel
theorem dX12_sumOf_32 : decode cX12_sumOf 32 = .ok (.sipush 383, 3) := by decide +kernel
theorem dX12_sumOf_35 : decode cX12_sumOf 35 = .ok (.iconst 4, 1) := by decide +kernel
theorem dX12_sumOf_36 : decode cX12_sumOf 36 = .ok (.iload 4, 2) := by decide +kernel
theorem dX12_sumOf_38 : decode cX12_sumOf 38 = .ok (.imul, 1) := by decide +kernel
theorem dX12_sumOf_39 : decode cX12_sumOf 39 = .ok (.iadd, 1) := by decide +kernel
theorem dX12_sumOf_40 : decode cX12_sumOf 40 = .ok (.iaload, 1) := by decide +kernel
theorem dX12_sumOf_41 : decode cX12_sumOf 41 = .ok (.iload_n 1, 1) := by decide +kernel
theorem dX12_sumOf_42 : decode cX12_sumOf 42 = .ok (.if_icmp .ne 31, 3) := by decide +kernel
theorem dX12_sumOf_45 : decode cX12_sumOf 45 = .ok (.aload_n 0, 1) := by decide +kernel
theorem dX12_sumOf_46 : decode cX12_sumOf 46 = .ok (.iload 4, 2) := by decide +kernel
theorem dX12_sumOf_48 : decode cX12_sumOf 48 = .ok (.iload_n 2, 1) := by decide +kernel
theorem dX12_sumOf_49 : decode cX12_sumOf 49 = .ok (.invokevirtual 297, 3) := by decide +kernel
theorem dX12_sumOf_52 : decode cX12_sumOf 52 = .ok (.ifCond .eq 21, 3) := by decide +kernel
theorem dX12_sumOf_55 : decode cX12_sumOf 55 = .ok (.iload_n 3, 1) := by decide +kernel
theorem dX12_sumOf_56 : decode cX12_sumOf 56 = .ok (.aload_n 0, 1) := by decide +kernel
theorem dX12_sumOf_57 : decode cX12_sumOf 57 = .ok (.getfield 13, 3) := by decide +kernel
theorem dX12_sumOf_60 : decode cX12_sumOf 60 = .ok (.sipush 383, 3) := by decide +kernel
theorem dX12_sumOf_63 : decode cX12_sumOf 63 = .ok (.iconst 4, 1) := by decide +kernel
theorem dX12_sumOf_64 : decode cX12_sumOf 64 = .ok (.iload 4, 2) := by decide +kernel
theorem dX12_sumOf_66 : decode cX12_sumOf 66 = .ok (.imul, 1) := by decide +kernel
theorem dX12_sumOf_67 : decode cX12_sumOf 67 = .ok (.iadd, 1) := by decide +kernel
theorem dX12_sumOf_68 : decode cX12_sumOf 68 = .ok (.iconst 1, 1) := by decide +kernel
theorem dX12_sumOf_69 : decode cX12_sumOf 69 = .ok (.iadd, 1) := by decide +kernel
theorem dX12_sumOf_70 : decode cX12_sumOf 70 = .ok (.iaload, 1) := by decide +kernel
theorem dX12_sumOf_71 : decode cX12_sumOf 71 = .ok (.iadd, 1) := by decide +kernel
theorem dX12_sumOf_72 : decode cX12_sumOf 72 = .ok (.istore_n 3, 1) := by decide +kernel
theorem dX12_sumOf_73 : decode cX12_sumOf 73 = .ok (.iinc 4 1, 3) := by decide +kernel
theorem dX12_sumOf_76 : decode cX12_sumOf 76 = .ok (.goto (-71), 3) := by decide +kernel
theorem dX12_sumOf_79 : decode cX12_sumOf 79 = .ok (.iload_n 3, 1) := by decide +kernel
theorem dX12_sumOf_80 : decode cX12_sumOf 80 = .ok (.ireturn, 1) := by decide +kernel
theorem dX12_paysBy_0 : decode cX12_paysBy 0 = .ok (.aload_n 0, 1) := by decide +kernel
theorem dX12_paysBy_1 : decode cX12_paysBy 1 = .ok (.getfield 13, 3) := by decide +kernel
theorem dX12_paysBy_4 : decode cX12_paysBy 4 = .ok (.bipush 9, 2) := by decide +kernel
theorem dX12_paysBy_6 : decode cX12_paysBy 6 = .ok (.iaload, 1) := by decide +kernel
theorem dX12_paysBy_7 : decode cX12_paysBy 7 = .ok (.aload_n 0, 1) := by decide +kernel
theorem dX12_paysBy_8 : decode cX12_paysBy 8 = .ok (.iload_n 1, 1) := by decide +kernel
theorem dX12_paysBy_9 : decode cX12_paysBy 9 = .ok (.invokevirtual 287, 3) := by decide +kernel
theorem dX12_paysBy_12 : decode cX12_paysBy 12 = .ok (.imul, 1) := by decide +kernel
theorem dX12_paysBy_13 : decode cX12_paysBy 13 = .ok (.aload_n 0, 1) := by decide +kernel
theorem dX12_paysBy_14 : decode cX12_paysBy 14 = .ok (.iconst 0, 1) := by decide +kernel
theorem dX12_paysBy_15 : decode cX12_paysBy 15 = .ok (.iload_n 1, 1) := by decide +kernel
theorem dX12_paysBy_16 : decode cX12_paysBy 16 = .ok (.invokevirtual 300, 3) := by decide +kernel
theorem dX12_paysBy_19 : decode cX12_paysBy 19 = .ok (.iadd, 1) := by decide +kernel
theorem dX12_paysBy_20 : decode cX12_paysBy 20 = .ok (.ireturn, 1) := by decide +kernel
theorem dX12_luresBy_0 : decode cX12_luresBy 0 = .ok (.aload_n 0, 1) := by decide +kernel
theorem dX12_luresBy_1 : decode cX12_luresBy 1 = .ok (.aload_n 0, 1) := by decide +kernel
theorem dX12_luresBy_2 : decode cX12_luresBy 2 = .ok (.iload_n 1, 1) := by decide +kernel
theorem dX12_luresBy_3 : decode cX12_luresBy 3 = .ok (.invokevirtual 248, 3) := by decide +kernel
theorem dX12_luresBy_6 : decode cX12_luresBy 6 = .ok (.invokevirtual 303, 3) := by decide +kernel
theorem dX12_luresBy_9 : decode cX12_luresBy 9 = .ok (.aload_n 0, 1) := by decide +kernel
theorem dX12_luresBy_10 : decode cX12_luresBy 10 = .ok (.iconst 1, 1) := by decide +kernel
theorem dX12_luresBy_11 : decode cX12_luresBy 11 = .ok (.iload_n 1, 1) := by decide +kernel
theorem dX12_luresBy_12 : decode cX12_luresBy 12 = .ok (.invokevirtual 300, 3) := by decide +kernel
theorem dX12_luresBy_15 : decode cX12_luresBy 15 = .ok (.iadd, 1) := by decide +kernel
theorem dX12_luresBy_16 : decode cX12_luresBy 16 = .ok (.ireturn, 1) := by decide +kernel
theorem dX12_agesBy_0 : decode cX12_agesBy 0 = .ok (.iconst 1, 1) := by decide +kernel
theorem dX12_agesBy_1 : decode cX12_agesBy 1 = .ok (.aload_n 0, 1) := by decide +kernel
theorem dX12_agesBy_2 : decode cX12_agesBy 2 = .ok (.iconst 2, 1) := by decide +kernel
theorem dX12_agesBy_3 : decode cX12_agesBy 3 = .ok (.iconst 2, 1) := by decide +kernel
theorem dX12_agesBy_4 : decode cX12_agesBy 4 = .ok (.iload_n 1, 1) := by decide +kernel
theorem dX12_agesBy_5 : decode cX12_agesBy 5 = .ok (.imul, 1) := by decide +kernel
theorem dX12_agesBy_6 : decode cX12_agesBy 6 = .ok (.invokevirtual 300, 3) := by decide +kernel
theorem dX12_agesBy_9 : decode cX12_agesBy 9 = .ok (.iadd, 1) := by decide +kernel
theorem dX12_agesBy_10 : decode cX12_agesBy 10 = .ok (.ireturn, 1) := by decide +kernel
theorem dX12_lowOf_0 : decode cX12_lowOf 0 = .ok (.iconst 0, 1) := by decide +kernel
theorem dX12_lowOf_1 : decode cX12_lowOf 1 = .ok (.iconst 5, 1) := by decide +kernel
theorem dX12_lowOf_2 : decode cX12_lowOf 2 = .ok (.aload_n 0, 1) := by decide +kernel
theorem dX12_lowOf_3 : decode cX12_lowOf 3 = .ok (.iload_n 1, 1) := by decide +kernel
theorem dX12_lowOf_4 : decode cX12_lowOf 4 = .ok (.invokevirtual 287, 3) := by decide +kernel
theorem dX12_lowOf_7 : decode cX12_lowOf 7 = .ok (.isub, 1) := by decide +kernel
theorem dX12_lowOf_8 : decode cX12_lowOf 8 = .ok (.invokestatic 263, 3) := by decide +kernel
theorem dX12_lowOf_11 : decode cX12_lowOf 11 = .ok (.ireturn, 1) := by decide +kernel
theorem dX12_shareOf_0 : decode cX12_shareOf 0 = .ok (.iconst 0, 1) := by decide +kernel
theorem dX12_shareOf_1 : decode cX12_shareOf 1 = .ok (.istore_n 2, 1) := by decide +kernel
theorem dX12_shareOf_2 : decode cX12_shareOf 2 = .ok (.iconst 0, 1) := by decide +kernel
theorem dX12_shareOf_3 : decode cX12_shareOf 3 = .ok (.istore_n 3, 1) := by decide +kernel
theorem dX12_shareOf_4 : decode cX12_shareOf 4 = .ok (.iload_n 3, 1) := by decide +kernel
theorem dX12_shareOf_5 : decode cX12_shareOf 5 = .ok (.aload_n 0, 1) := by decide +kernel
theorem dX12_shareOf_6 : decode cX12_shareOf 6 = .ok (.invokevirtual 79, 3) := by decide +kernel
theorem dX12_shareOf_9 : decode cX12_shareOf 9 = .ok (.if_icmp .ge 17, 3) := by decide +kernel
theorem dX12_shareOf_12 : decode cX12_shareOf 12 = .ok (.iload_n 2, 1) := by decide +kernel
theorem dX12_shareOf_13 : decode cX12_shareOf 13 = .ok (.aload_n 0, 1) := by decide +kernel
theorem dX12_shareOf_14 : decode cX12_shareOf 14 = .ok (.iload_n 3, 1) := by decide +kernel
theorem dX12_shareOf_15 : decode cX12_shareOf 15 = .ok (.invokevirtual 306, 3) := by decide +kernel
theorem dX12_shareOf_18 : decode cX12_shareOf 18 = .ok (.iadd, 1) := by decide +kernel
theorem dX12_shareOf_19 : decode cX12_shareOf 19 = .ok (.istore_n 2, 1) := by decide +kernel
theorem dX12_shareOf_20 : decode cX12_shareOf 20 = .ok (.iinc 3 1, 3) := by decide +kernel
theorem dX12_shareOf_23 : decode cX12_shareOf 23 = .ok (.goto (-19), 3) := by decide +kernel
theorem dX12_shareOf_26 : decode cX12_shareOf 26 = .ok (.iload_n 2, 1) := by decide +kernel
theorem dX12_shareOf_27 : decode cX12_shareOf 27 = .ok (.ifCond .ne 7, 3) := by decide +kernel
theorem dX12_shareOf_30 : decode cX12_shareOf 30 = .ok (.iconst 0, 1) := by decide +kernel
theorem dX12_shareOf_31 : decode cX12_shareOf 31 = .ok (.goto 13, 3) := by decide +kernel
theorem dX12_shareOf_34 : decode cX12_shareOf 34 = .ok (.bipush 100, 2) := by decide +kernel
theorem dX12_shareOf_36 : decode cX12_shareOf 36 = .ok (.aload_n 0, 1) := by decide +kernel
theorem dX12_shareOf_37 : decode cX12_shareOf 37 = .ok (.iload_n 1, 1) := by decide +kernel
theorem dX12_shareOf_38 : decode cX12_shareOf 38 = .ok (.invokevirtual 306, 3) := by decide +kernel
theorem dX12_shareOf_41 : decode cX12_shareOf 41 = .ok (.imul, 1) := by decide +kernel
theorem dX12_shareOf_42 : decode cX12_shareOf 42 = .ok (.iload_n 2, 1) := by decide +kernel
theorem dX12_shareOf_43 : decode cX12_shareOf 43 = .ok (.idiv, 1) := by decide +kernel
theorem dX12_shareOf_44 : decode cX12_shareOf 44 = .ok (.ireturn, 1) := by decide +kernel
theorem dX12_corkOf_0 : decode cX12_corkOf 0 = .ok (.iload_n 1, 1) := by decide +kernel
theorem dX12_corkOf_1 : decode cX12_corkOf 1 = .ok (.invokestatic 275, 3) := by decide +kernel
theorem dX12_corkOf_4 : decode cX12_corkOf 4 = .ok (.istore_n 2, 1) := by decide +kernel
theorem dX12_corkOf_5 : decode cX12_corkOf 5 = .ok (.aload_n 0, 1) := by decide +kernel
theorem dX12_corkOf_6 : decode cX12_corkOf 6 = .ok (.iload_n 1, 1) := by decide +kernel
theorem dX12_corkOf_7 : decode cX12_corkOf 7 = .ok (.iconst 2, 1) := by decide +kernel
theorem dX12_corkOf_8 : decode cX12_corkOf 8 = .ok (.irem, 1) := by decide +kernel
theorem dX12_corkOf_9 : decode cX12_corkOf 9 = .ok (.ifCond .ne 9, 3) := by decide +kernel
theorem dX12_corkOf_12 : decode cX12_corkOf 12 = .ok (.iload_n 1, 1) := by decide +kernel
theorem dX12_corkOf_13 : decode cX12_corkOf 13 = .ok (.iconst 1, 1) := by decide +kernel
theorem dX12_corkOf_14 : decode cX12_corkOf 14 = .ok (.iadd, 1) := by decide +kernel
theorem dX12_corkOf_15 : decode cX12_corkOf 15 = .ok (.goto 6, 3) := by decide +kernel
theorem dX12_corkOf_18 : decode cX12_corkOf 18 = .ok (.iload_n 1, 1) := by decide +kernel
theorem dX12_corkOf_19 : decode cX12_corkOf 19 = .ok (.iconst 1, 1) := by decide +kernel
theorem dX12_corkOf_20 : decode cX12_corkOf 20 = .ok (.isub, 1) := by decide +kernel
theorem dX12_corkOf_21 : decode cX12_corkOf 21 = .ok (.invokevirtual 269, 3) := by decide +kernel
theorem dX12_corkOf_24 : decode cX12_corkOf 24 = .ok (.aload_n 0, 1) := by decide +kernel
theorem dX12_corkOf_25 : decode cX12_corkOf 25 = .ok (.getfield 13, 3) := by decide +kernel
theorem dX12_corkOf_28 : decode cX12_corkOf 28 = .ok (.iconst 5, 1) := by decide +kernel
theorem dX12_corkOf_29 : decode cX12_corkOf 29 = .ok (.iaload, 1) := by decide +kernel
theorem dX12_corkOf_30 : decode cX12_corkOf 30 = .ok (.isub, 1) := by decide +kernel
theorem dX12_corkOf_31 : decode cX12_corkOf 31 = .ok (.istore_n 3, 1) := by decide +kernel
theorem dX12_corkOf_32 : decode cX12_corkOf 32 = .ok (.aload_n 0, 1) := by decide +kernel
theorem dX12_corkOf_33 : decode cX12_corkOf 33 = .ok (.iload_n 2, 1) := by decide +kernel
theorem dX12_corkOf_34 : decode cX12_corkOf 34 = .ok (.invokevirtual 266, 3) := by decide +kernel
theorem dX12_corkOf_37 : decode cX12_corkOf 37 = .ok (.ifCond .eq 7, 3) := by decide +kernel
theorem dX12_corkOf_40 : decode cX12_corkOf 40 = .ok (.iconst 0, 1) := by decide +kernel
theorem dX12_corkOf_41 : decode cX12_corkOf 41 = .ok (.goto 19, 3) := by decide +kernel
theorem dX12_corkOf_44 : decode cX12_corkOf 44 = .ok (.aload_n 0, 1) := by decide +kernel
theorem dX12_corkOf_45 : decode cX12_corkOf 45 = .ok (.iload_n 1, 1) := by decide +kernel
theorem dX12_corkOf_46 : decode cX12_corkOf 46 = .ok (.iconst 2, 1) := by decide +kernel
theorem dX12_corkOf_47 : decode cX12_corkOf 47 = .ok (.irem, 1) := by decide +kernel
theorem dX12_corkOf_48 : decode cX12_corkOf 48 = .ok (.ifCond .ne 7, 3) := by decide +kernel
theorem dX12_corkOf_51 : decode cX12_corkOf 51 = .ok (.iload_n 3, 1) := by decide +kernel
theorem dX12_corkOf_52 : decode cX12_corkOf 52 = .ok (.goto 5, 3) := by decide +kernel
theorem dX12_corkOf_55 : decode cX12_corkOf 55 = .ok (.iload_n 3, 1) := by decide +kernel
theorem dX12_corkOf_56 : decode cX12_corkOf 56 = .ok (.ineg, 1) := by decide +kernel
theorem dX12_corkOf_57 : decode cX12_corkOf 57 = .ok (.invokevirtual 272, 3) := by decide +kernel
theorem dX12_corkOf_60 : decode cX12_corkOf 60 = .ok (.istore 4, 2) := by decide +kernel
theorem dX12_corkOf_62 : decode cX12_corkOf 62 = .ok (.aload_n 0, 1) := by decide +kernel
theorem dX12_corkOf_63 : decode cX12_corkOf 63 = .ok (.iload_n 2, 1) := by decide +kernel
theorem dX12_corkOf_64 : decode cX12_corkOf 64 = .ok (.invokevirtual 278, 3) := by decide +kernel
theorem dX12_corkOf_67 : decode cX12_corkOf 67 = .ok (.ifCond .eq 7, 3) := by decide +kernel
theorem dX12_corkOf_70 : decode cX12_corkOf 70 = .ok (.iconst 0, 1) := by decide +kernel
theorem dX12_corkOf_71 : decode cX12_corkOf 71 = .ok (.goto 9, 3) := by decide +kernel
theorem dX12_corkOf_74 : decode cX12_corkOf 74 = .ok (.iload_n 1, 1) := by decide +kernel
theorem dX12_corkOf_75 : decode cX12_corkOf 75 = .ok (.iload 4, 2) := by decide +kernel
theorem dX12_corkOf_77 : decode cX12_corkOf 77 = .ok (.invokestatic 284, 3) := by decide +kernel
theorem dX12_corkOf_80 : decode cX12_corkOf 80 = .ok (.ireturn, 1) := by decide +kernel
theorem dX12_plank_0 : decode cX12_plank 0 = .ok (.aload_n 0, 1) := by decide +kernel
theorem dX12_plank_1 : decode cX12_plank 1 = .ok (.iconst 0, 1) := by decide +kernel
theorem dX12_plank_2 : decode cX12_plank 2 = .ok (.putfield 3, 3) := by decide +kernel
theorem dX12_plank_5 : decode cX12_plank 5 = .ok (.aload_n 0, 1) := by decide +kernel
theorem dX12_plank_6 : decode cX12_plank 6 = .ok (.aload_n 0, 1) := by decide +kernel
theorem dX12_plank_7 : decode cX12_plank 7 = .ok (.iload_n 1, 1) := by decide +kernel
theorem dX12_plank_8 : decode cX12_plank 8 = .ok (.invokevirtual 309, 3) := by decide +kernel
theorem dX12_plank_11 : decode cX12_plank 11 = .ok (.iconst 1, 1) := by decide +kernel
theorem dX12_plank_12 : decode cX12_plank 12 = .ok (.invokevirtual 242, 3) := by decide +kernel
theorem dX12_plank_15 : decode cX12_plank 15 = .ok (.ifCond .ne 26, 3) := by decide +kernel
theorem dX12_plank_18 : decode cX12_plank 18 = .ok (.aload_n 0, 1) := by decide +kernel
theorem dX12_plank_19 : decode cX12_plank 19 = .ok (.iload_n 2, 1) := by decide +kernel
theorem dX12_plank_20 : decode cX12_plank 20 = .ok (.iconst 0, 1) := by decide +kernel
theorem dX12_plank_21 : decode cX12_plank 21 = .ok (.bipush 6, 2) := by decide +kernel
theorem dX12_plank_23 : decode cX12_plank 23 = .ok (.invokestatic 75, 3) := by decide +kernel
theorem dX12_plank_26 : decode cX12_plank 26 = .ok (.ifCond .ne 7, 3) := by decide +kernel
theorem dX12_plank_29 : decode cX12_plank 29 = .ok (.iconst 1, 1) := by decide +kernel
theorem dX12_plank_30 : decode cX12_plank 30 = .ok (.goto 4, 3) := by decide +kernel
theorem dX12_plank_33 : decode cX12_plank 33 = .ok (.iconst 0, 1) := by decide +kernel
theorem dX12_plank_34 : decode cX12_plank 34 = .ok (.iconst 2, 1) := by decide +kernel
theorem dX12_plank_35 : decode cX12_plank 35 = .ok (.invokevirtual 242, 3) := by decide +kernel
theorem dX12_plank_38 : decode cX12_plank 38 = .ok (.ifCond .eq 5, 3) := by decide +kernel
theorem dX12_plank_41 : decode cX12_plank 41 = .ok (.iconst 0, 1) := by decide +kernel
theorem dX12_plank_42 : decode cX12_plank 42 = .ok (.ireturn, 1) := by decide +kernel
theorem dX12_plank_43 : decode cX12_plank 43 = .ok (.iload_n 2, 1) := by decide +kernel
theorem dX12_plank_44 : decode cX12_plank 44 = .ok (.tableswitch 56 4 6 #[28, 36, 50], 28) := by decide +kernel
theorem dX12_plank_72 : decode cX12_plank 72 = .ok (.aload_n 0, 1) := by decide +kernel
theorem dX12_plank_73 : decode cX12_plank 73 = .ok (.iload_n 1, 1) := by decide +kernel
theorem dX12_plank_74 : decode cX12_plank 74 = .ok (.invokevirtual 281, 3) := by decide +kernel
theorem dX12_plank_77 : decode cX12_plank 77 = .ok (.iconst 5, 1) := by decide +kernel
theorem dX12_plank_78 : decode cX12_plank 78 = .ok (.iadd, 1) := by decide +kernel
theorem dX12_plank_79 : decode cX12_plank 79 = .ok (.ireturn, 1) := by decide +kernel
theorem dX12_plank_80 : decode cX12_plank 80 = .ok (.aload_n 0, 1) := by decide +kernel
theorem dX12_plank_81 : decode cX12_plank 81 = .ok (.iload_n 1, 1) := by decide +kernel
theorem dX12_plank_82 : decode cX12_plank 82 = .ok (.invokevirtual 290, 3) := by decide +kernel
theorem dX12_plank_85 : decode cX12_plank 85 = .ok (.ifCond .eq 7, 3) := by decide +kernel
theorem dX12_plank_88 : decode cX12_plank 88 = .ok (.iconst 1, 1) := by decide +kernel
theorem dX12_plank_89 : decode cX12_plank 89 = .ok (.goto 4, 3) := by decide +kernel
theorem dX12_plank_92 : decode cX12_plank 92 = .ok (.iconst 0, 1) := by decide +kernel
theorem dX12_plank_93 : decode cX12_plank 93 = .ok (.ireturn, 1) := by decide +kernel
theorem dX12_plank_94 : decode cX12_plank 94 = .ok (.aload_n 0, 1) := by decide +kernel
theorem dX12_plank_95 : decode cX12_plank 95 = .ok (.iload_n 1, 1) := by decide +kernel
theorem dX12_plank_96 : decode cX12_plank 96 = .ok (.invokevirtual 312, 3) := by decide +kernel
theorem dX12_plank_99 : decode cX12_plank 99 = .ok (.ireturn, 1) := by decide +kernel
theorem dX12_plank_100 : decode cX12_plank 100 = .ok (.aload_n 0, 1) := by decide +kernel
theorem dX12_plank_101 : decode cX12_plank 101 = .ok (.iload_n 1, 1) := by decide +kernel
theorem dX12_plank_102 : decode cX12_plank 102 = .ok (.iload_n 2, 1) := by decide +kernel
theorem dX12_plank_103 : decode cX12_plank 103 = .ok (.invokevirtual 63, 3) := by decide +kernel
theorem dX12_plank_106 : decode cX12_plank 106 = .ok (.ireturn, 1) := by decide +kernel
theorem dX12_house_0 : decode cX12_house 0 = .ok (.aload_n 0, 1) := by decide +kernel
theorem dX12_house_1 : decode cX12_house 1 = .ok (.iconst 0, 1) := by decide +kernel
theorem dX12_house_2 : decode cX12_house 2 = .ok (.putfield 3, 3) := by decide +kernel
theorem dX12_house_5 : decode cX12_house 5 = .ok (.aload_n 0, 1) := by decide +kernel
theorem dX12_house_6 : decode cX12_house 6 = .ok (.aload_n 0, 1) := by decide +kernel
theorem dX12_house_7 : decode cX12_house 7 = .ok (.iload_n 1, 1) := by decide +kernel
theorem dX12_house_8 : decode cX12_house 8 = .ok (.invokevirtual 315, 3) := by decide +kernel
theorem dX12_house_11 : decode cX12_house 11 = .ok (.iconst 1, 1) := by decide +kernel
theorem dX12_house_12 : decode cX12_house 12 = .ok (.invokevirtual 242, 3) := by decide +kernel
theorem dX12_house_15 : decode cX12_house 15 = .ok (.ifCond .ne 26, 3) := by decide +kernel
theorem dX12_house_18 : decode cX12_house 18 = .ok (.aload_n 0, 1) := by decide +kernel
theorem dX12_house_19 : decode cX12_house 19 = .ok (.iload_n 2, 1) := by decide +kernel
theorem dX12_house_20 : decode cX12_house 20 = .ok (.iconst 0, 1) := by decide +kernel
theorem dX12_house_21 : decode cX12_house 21 = .ok (.bipush 8, 2) := by decide +kernel
theorem dX12_house_23 : decode cX12_house 23 = .ok (.invokestatic 75, 3) := by decide +kernel
theorem dX12_house_26 : decode cX12_house 26 = .ok (.ifCond .ne 7, 3) := by decide +kernel
theorem dX12_house_29 : decode cX12_house 29 = .ok (.iconst 1, 1) := by decide +kernel
theorem dX12_house_30 : decode cX12_house 30 = .ok (.goto 4, 3) := by decide +kernel
theorem dX12_house_33 : decode cX12_house 33 = .ok (.iconst 0, 1) := by decide +kernel
theorem dX12_house_34 : decode cX12_house 34 = .ok (.iconst 2, 1) := by decide +kernel
theorem dX12_house_35 : decode cX12_house 35 = .ok (.invokevirtual 242, 3) := by decide +kernel
theorem dX12_house_38 : decode cX12_house 38 = .ok (.ifCond .eq 5, 3) := by decide +kernel
theorem dX12_house_41 : decode cX12_house 41 = .ok (.iconst 0, 1) := by decide +kernel
theorem dX12_house_42 : decode cX12_house 42 = .ok (.ireturn, 1) := by decide +kernel
theorem dX12_house_43 : decode cX12_house 43 = .ok (.iload_n 2, 1) := by decide +kernel
theorem dX12_house_44 : decode cX12_house 44 = .ok (.tableswitch 86 2 8 #[44, 50, 56, 62, 68, 74, 80], 44) := by decide +kernel
theorem dX12_house_88 : decode cX12_house 88 = .ok (.aload_n 0, 1) := by decide +kernel
theorem dX12_house_89 : decode cX12_house 89 = .ok (.iload_n 1, 1) := by decide +kernel
theorem dX12_house_90 : decode cX12_house 90 = .ok (.invokevirtual 269, 3) := by decide +kernel
theorem dX12_house_93 : decode cX12_house 93 = .ok (.ireturn, 1) := by decide +kernel
theorem dX12_house_94 : decode cX12_house 94 = .ok (.aload_n 0, 1) := by decide +kernel
theorem dX12_house_95 : decode cX12_house 95 = .ok (.iload_n 1, 1) := by decide +kernel
theorem dX12_house_96 : decode cX12_house 96 = .ok (.invokevirtual 287, 3) := by decide +kernel
theorem dX12_house_99 : decode cX12_house 99 = .ok (.ireturn, 1) := by decide +kernel
theorem dX12_house_100 : decode cX12_house 100 = .ok (.aload_n 0, 1) := by decide +kernel
theorem dX12_house_101 : decode cX12_house 101 = .ok (.iload_n 1, 1) := by decide +kernel
theorem dX12_house_102 : decode cX12_house 102 = .ok (.invokevirtual 248, 3) := by decide +kernel
theorem dX12_house_105 : decode cX12_house 105 = .ok (.ireturn, 1) := by decide +kernel
theorem dX12_house_106 : decode cX12_house 106 = .ok (.aload_n 0, 1) := by decide +kernel
theorem dX12_house_107 : decode cX12_house 107 = .ok (.iload_n 1, 1) := by decide +kernel
theorem dX12_house_108 : decode cX12_house 108 = .ok (.invokevirtual 318, 3) := by decide +kernel
theorem dX12_house_111 : decode cX12_house 111 = .ok (.ireturn, 1) := by decide +kernel
theorem dX12_house_112 : decode cX12_house 112 = .ok (.aload_n 0, 1) := by decide +kernel
theorem dX12_house_113 : decode cX12_house 113 = .ok (.iload_n 1, 1) := by decide +kernel
theorem dX12_house_114 : decode cX12_house 114 = .ok (.invokevirtual 321, 3) := by decide +kernel
theorem dX12_house_117 : decode cX12_house 117 = .ok (.ireturn, 1) := by decide +kernel
theorem dX12_house_118 : decode cX12_house 118 = .ok (.aload_n 0, 1) := by decide +kernel
theorem dX12_house_119 : decode cX12_house 119 = .ok (.iload_n 1, 1) := by decide +kernel
theorem dX12_house_120 : decode cX12_house 120 = .ok (.invokevirtual 324, 3) := by decide +kernel
theorem dX12_house_123 : decode cX12_house 123 = .ok (.ireturn, 1) := by decide +kernel
theorem dX12_house_124 : decode cX12_house 124 = .ok (.aload_n 0, 1) := by decide +kernel
theorem dX12_house_125 : decode cX12_house 125 = .ok (.iload_n 1, 1) := by decide +kernel
theorem dX12_house_126 : decode cX12_house 126 = .ok (.invokevirtual 327, 3) := by decide +kernel
theorem dX12_house_129 : decode cX12_house 129 = .ok (.ireturn, 1) := by decide +kernel
theorem dX12_house_130 : decode cX12_house 130 = .ok (.aload_n 0, 1) := by decide +kernel
theorem dX12_house_131 : decode cX12_house 131 = .ok (.iload_n 1, 1) := by decide +kernel
theorem dX12_house_132 : decode cX12_house 132 = .ok (.iload_n 2, 1) := by decide +kernel
theorem dX12_house_133 : decode cX12_house 133 = .ok (.invokevirtual 255, 3) := by decide +kernel
theorem dX12_house_136 : decode cX12_house 136 = .ok (.ireturn, 1) := by decide +kernel
theorem dX12_thing_0 : decode cX12_thing 0 = .ok (.aload_n 0, 1) := by decide +kernel
theorem dX12_thing_1 : decode cX12_thing 1 = .ok (.iconst 0, 1) := by decide +kernel
theorem dX12_thing_2 : decode cX12_thing 2 = .ok (.putfield 3, 3) := by decide +kernel
theorem dX12_thing_5 : decode cX12_thing 5 = .ok (.aload_n 0, 1) := by decide +kernel
theorem dX12_thing_6 : decode cX12_thing 6 = .ok (.aload_n 0, 1) := by decide +kernel
theorem dX12_thing_7 : decode cX12_thing 7 = .ok (.iload_n 1, 1) := by decide +kernel
theorem dX12_thing_8 : decode cX12_thing 8 = .ok (.invokevirtual 330, 3) := by decide +kernel
theorem dX12_thing_11 : decode cX12_thing 11 = .ok (.iconst 1, 1) := by decide +kernel
theorem dX12_thing_12 : decode cX12_thing 12 = .ok (.invokevirtual 242, 3) := by decide +kernel
theorem dX12_thing_15 : decode cX12_thing 15 = .ok (.ifCond .ne 25, 3) := by decide +kernel
theorem dX12_thing_18 : decode cX12_thing 18 = .ok (.aload_n 0, 1) := by decide +kernel
theorem dX12_thing_19 : decode cX12_thing 19 = .ok (.iload_n 2, 1) := by decide +kernel
theorem dX12_thing_20 : decode cX12_thing 20 = .ok (.iconst 0, 1) := by decide +kernel
theorem dX12_thing_21 : decode cX12_thing 21 = .ok (.iconst 2, 1) := by decide +kernel
theorem dX12_thing_22 : decode cX12_thing 22 = .ok (.invokestatic 75, 3) := by decide +kernel
theorem dX12_thing_25 : decode cX12_thing 25 = .ok (.ifCond .ne 7, 3) := by decide +kernel
theorem dX12_thing_28 : decode cX12_thing 28 = .ok (.iconst 1, 1) := by decide +kernel
theorem dX12_thing_29 : decode cX12_thing 29 = .ok (.goto 4, 3) := by decide +kernel
theorem dX12_thing_32 : decode cX12_thing 32 = .ok (.iconst 0, 1) := by decide +kernel
theorem dX12_thing_33 : decode cX12_thing 33 = .ok (.iconst 2, 1) := by decide +kernel
theorem dX12_thing_34 : decode cX12_thing 34 = .ok (.invokevirtual 242, 3) := by decide +kernel
theorem dX12_thing_37 : decode cX12_thing 37 = .ok (.ifCond .eq 7, 3) := by decide +kernel
theorem dX12_thing_40 : decode cX12_thing 40 = .ok (.iconst 0, 1) := by decide +kernel
theorem dX12_thing_41 : decode cX12_thing 41 = .ok (.goto 9, 3) := by decide +kernel
theorem dX12_thing_44 : decode cX12_thing 44 = .ok (.aload_n 0, 1) := by decide +kernel
theorem dX12_thing_45 : decode cX12_thing 45 = .ok (.iload_n 1, 1) := by decide +kernel
theorem dX12_thing_46 : decode cX12_thing 46 = .ok (.iload_n 2, 1) := by decide +kernel
theorem dX12_thing_47 : decode cX12_thing 47 = .ok (.invokevirtual 72, 3) := by decide +kernel
theorem dX12_thing_50 : decode cX12_thing 50 = .ok (.ireturn, 1) := by decide +kernel
theorem dX12_tells_0 : decode cX12_tells 0 = .ok (.sipush 299, 3) := by decide +kernel
theorem dX12_tells_3 : decode cX12_tells 3 = .ok (.istore 5, 2) := by decide +kernel
theorem dX12_tells_5 : decode cX12_tells 5 = .ok (.iload 5, 2) := by decide +kernel
theorem dX12_tells_7 : decode cX12_tells 7 = .ok (.iconst 5, 1) := by decide +kernel
theorem dX12_tells_8 : decode cX12_tells 8 = .ok (.if_icmp .lt 31, 3) := by decide +kernel
theorem dX12_tells_11 : decode cX12_tells 11 = .ok (.aload_n 0, 1) := by decide +kernel
theorem dX12_tells_12 : decode cX12_tells 12 = .ok (.getfield 13, 3) := by decide +kernel
theorem dX12_tells_15 : decode cX12_tells 15 = .ok (.bipush 82, 2) := by decide +kernel
theorem dX12_tells_17 : decode cX12_tells 17 = .ok (.iload 5, 2) := by decide +kernel
theorem dX12_tells_19 : decode cX12_tells 19 = .ok (.iadd, 1) := by decide +kernel
theorem dX12_tells_20 : decode cX12_tells 20 = .ok (.aload_n 0, 1) := by decide +kernel
theorem dX12_tells_21 : decode cX12_tells 21 = .ok (.getfield 13, 3) := by decide +kernel
theorem dX12_tells_24 : decode cX12_tells 24 = .ok (.bipush 82, 2) := by decide +kernel
theorem dX12_tells_26 : decode cX12_tells 26 = .ok (.iload 5, 2) := by decide +kernel
theorem dX12_tells_28 : decode cX12_tells 28 = .ok (.iadd, 1) := by decide +kernel
theorem dX12_tells_29 : decode cX12_tells 29 = .ok (.iconst 5, 1) := by decide +kernel
theorem dX12_tells_30 : decode cX12_tells 30 = .ok (.isub, 1) := by decide +kernel
theorem dX12_tells_31 : decode cX12_tells 31 = .ok (.iaload, 1) := by decide +kernel
theorem dX12_tells_32 : decode cX12_tells 32 = .ok (.iastore, 1) := by decide +kernel
theorem dX12_tells_33 : decode cX12_tells 33 = .ok (.iinc 5 (-1), 3) := by decide +kernel
theorem dX12_tells_36 : decode cX12_tells 36 = .ok (.goto (-31), 3) := by decide +kernel
theorem dX12_tells_39 : decode cX12_tells 39 = .ok (.aload_n 0, 1) := by decide +kernel
theorem dX12_tells_40 : decode cX12_tells 40 = .ok (.getfield 13, 3) := by decide +kernel
theorem dX12_tells_43 : decode cX12_tells 43 = .ok (.bipush 82, 2) := by decide +kernel
theorem dX12_tells_45 : decode cX12_tells 45 = .ok (.aload_n 0, 1) := by decide +kernel
theorem dX12_tells_46 : decode cX12_tells 46 = .ok (.getfield 13, 3) := by decide +kernel
theorem dX12_tells_49 : decode cX12_tells 49 = .ok (.iconst 4, 1) := by decide +kernel
theorem dX12_tells_50 : decode cX12_tells 50 = .ok (.iaload, 1) := by decide +kernel
theorem dX12_tells_51 : decode cX12_tells 51 = .ok (.iastore, 1) := by decide +kernel
theorem dX12_tells_52 : decode cX12_tells 52 = .ok (.aload_n 0, 1) := by decide +kernel
theorem dX12_tells_53 : decode cX12_tells 53 = .ok (.getfield 13, 3) := by decide +kernel
theorem dX12_tells_56 : decode cX12_tells 56 = .ok (.bipush 83, 2) := by decide +kernel
theorem dX12_tells_58 : decode cX12_tells 58 = .ok (.iload_n 1, 1) := by decide +kernel
theorem dX12_tells_59 : decode cX12_tells 59 = .ok (.iastore, 1) := by decide +kernel
theorem dX12_tells_60 : decode cX12_tells 60 = .ok (.aload_n 0, 1) := by decide +kernel
theorem dX12_tells_61 : decode cX12_tells 61 = .ok (.getfield 13, 3) := by decide +kernel
theorem dX12_tells_64 : decode cX12_tells 64 = .ok (.bipush 84, 2) := by decide +kernel
theorem dX12_tells_66 : decode cX12_tells 66 = .ok (.iload_n 2, 1) := by decide +kernel
theorem dX12_tells_67 : decode cX12_tells 67 = .ok (.iastore, 1) := by decide +kernel
theorem dX12_tells_68 : decode cX12_tells 68 = .ok (.aload_n 0, 1) := by decide +kernel
theorem dX12_tells_69 : decode cX12_tells 69 = .ok (.getfield 13, 3) := by decide +kernel
theorem dX12_tells_72 : decode cX12_tells 72 = .ok (.bipush 85, 2) := by decide +kernel
theorem dX12_tells_74 : decode cX12_tells 74 = .ok (.iload_n 3, 1) := by decide +kernel
theorem dX12_tells_75 : decode cX12_tells 75 = .ok (.iastore, 1) := by decide +kernel
theorem dX12_tells_76 : decode cX12_tells 76 = .ok (.aload_n 0, 1) := by decide +kernel
theorem dX12_tells_77 : decode cX12_tells 77 = .ok (.getfield 13, 3) := by decide +kernel
theorem dX12_tells_80 : decode cX12_tells 80 = .ok (.bipush 86, 2) := by decide +kernel
theorem dX12_tells_82 : decode cX12_tells 82 = .ok (.iload 4, 2) := by decide +kernel
theorem dX12_tells_84 : decode cX12_tells 84 = .ok (.iastore, 1) := by decide +kernel
theorem dX12_tells_85 : decode cX12_tells 85 = .ok (.aload_n 0, 1) := by decide +kernel
theorem dX12_tells_86 : decode cX12_tells 86 = .ok (.getfield 13, 3) := by decide +kernel
theorem dX12_tells_89 : decode cX12_tells 89 = .ok (.bipush 10, 2) := by decide +kernel
theorem dX12_tells_91 : decode cX12_tells 91 = .ok (.bipush 60, 2) := by decide +kernel
theorem dX12_tells_93 : decode cX12_tells 93 = .ok (.aload_n 0, 1) := by decide +kernel
theorem dX12_tells_94 : decode cX12_tells 94 = .ok (.getfield 13, 3) := by decide +kernel
theorem dX12_tells_97 : decode cX12_tells 97 = .ok (.bipush 10, 2) := by decide +kernel
theorem dX12_tells_99 : decode cX12_tells 99 = .ok (.iaload, 1) := by decide +kernel
theorem dX12_tells_100 : decode cX12_tells 100 = .ok (.iconst 1, 1) := by decide +kernel
theorem dX12_tells_101 : decode cX12_tells 101 = .ok (.iadd, 1) := by decide +kernel
theorem dX12_tells_102 : decode cX12_tells 102 = .ok (.invokestatic 258, 3) := by decide +kernel
theorem dX12_tells_105 : decode cX12_tells 105 = .ok (.iastore, 1) := by decide +kernel
theorem dX12_tells_106 : decode cX12_tells 106 = .ok (.return_, 1) := by decide +kernel
theorem dX12_carry_0 : decode cX12_carry 0 = .ok (.aload_n 0, 1) := by decide +kernel
theorem dX12_carry_1 : decode cX12_carry 1 = .ok (.iconst 0, 1) := by decide +kernel
theorem dX12_carry_2 : decode cX12_carry 2 = .ok (.putfield 3, 3) := by decide +kernel
theorem dX12_carry_5 : decode cX12_carry 5 = .ok (.aload_n 0, 1) := by decide +kernel
theorem dX12_carry_6 : decode cX12_carry 6 = .ok (.aload_n 0, 1) := by decide +kernel
theorem dX12_carry_7 : decode cX12_carry 7 = .ok (.iload_n 1, 1) := by decide +kernel
theorem dX12_carry_8 : decode cX12_carry 8 = .ok (.invokevirtual 330, 3) := by decide +kernel
theorem dX12_carry_11 : decode cX12_carry 11 = .ok (.ifCond .ne 11, 3) := by decide +kernel
theorem dX12_carry_14 : decode cX12_carry 14 = .ok (.aload_n 0, 1) := by decide +kernel
theorem dX12_carry_15 : decode cX12_carry 15 = .ok (.iload_n 2, 1) := by decide +kernel
theorem dX12_carry_16 : decode cX12_carry 16 = .ok (.invokevirtual 315, 3) := by decide +kernel
theorem dX12_carry_19 : decode cX12_carry 19 = .ok (.ifCond .eq 7, 3) := by decide +kernel
theorem dX12_carry_22 : decode cX12_carry 22 = .ok (.iconst 1, 1) := by decide +kernel
theorem dX12_carry_23 : decode cX12_carry 23 = .ok (.goto 4, 3) := by decide +kernel
theorem dX12_carry_26 : decode cX12_carry 26 = .ok (.iconst 0, 1) := by decide +kernel
theorem dX12_carry_27 : decode cX12_carry 27 = .ok (.iconst 1, 1) := by decide +kernel
theorem dX12_carry_28 : decode cX12_carry 28 = .ok (.invokevirtual 242, 3) := by decide +kernel
theorem dX12_carry_31 : decode cX12_carry 31 = .ok (.ifCond .ne 16, 3) := by decide +kernel
theorem dX12_carry_34 : decode cX12_carry 34 = .ok (.aload_n 0, 1) := by decide +kernel
theorem dX12_carry_35 : decode cX12_carry 35 = .ok (.aload_n 0, 1) := by decide +kernel
theorem dX12_carry_36 : decode cX12_carry 36 = .ok (.iload_n 1, 1) := by decide +kernel
theorem dX12_carry_37 : decode cX12_carry 37 = .ok (.invokevirtual 333, 3) := by decide +kernel
theorem dX12_carry_40 : decode cX12_carry 40 = .ok (.iconst 2, 1) := by decide +kernel
theorem dX12_carry_41 : decode cX12_carry 41 = .ok (.invokevirtual 242, 3) := by decide +kernel
theorem dX12_carry_44 : decode cX12_carry 44 = .ok (.ifCond .eq 5, 3) := by decide +kernel
theorem dX12_carry_47 : decode cX12_carry 47 = .ok (.iconst 0, 1) := by decide +kernel
theorem dX12_carry_48 : decode cX12_carry 48 = .ok (.ireturn, 1) := by decide +kernel
theorem dX12_carry_49 : decode cX12_carry 49 = .ok (.aload_n 0, 1) := by decide +kernel
theorem dX12_carry_50 : decode cX12_carry 50 = .ok (.invokevirtual 336, 3) := by decide +kernel
theorem dX12_carry_53 : decode cX12_carry 53 = .ok (.aload_n 0, 1) := by decide +kernel
theorem dX12_carry_54 : decode cX12_carry 54 = .ok (.iload_n 1, 1) := by decide +kernel
theorem dX12_carry_55 : decode cX12_carry 55 = .ok (.iconst 2, 1) := by decide +kernel
theorem dX12_carry_56 : decode cX12_carry 56 = .ok (.invokevirtual 72, 3) := by decide +kernel
theorem dX12_carry_59 : decode cX12_carry 59 = .ok (.istore_n 3, 1) := by decide +kernel
theorem dX12_carry_60 : decode cX12_carry 60 = .ok (.aload_n 0, 1) := by decide +kernel
theorem dX12_carry_61 : decode cX12_carry 61 = .ok (.getfield 13, 3) := by decide +kernel
theorem dX12_carry_64 : decode cX12_carry 64 = .ok (.iload_n 1, 1) := by decide +kernel
theorem dX12_carry_65 : decode cX12_carry 65 = .ok (.iconst 2, 1) := by decide +kernel
theorem dX12_carry_66 : decode cX12_carry 66 = .ok (.invokestatic 69, 3) := by decide +kernel
theorem dX12_carry_69 : decode cX12_carry 69 = .ok (.iload_n 2, 1) := by decide +kernel
theorem dX12_carry_70 : decode cX12_carry 70 = .ok (.iastore, 1) := by decide +kernel
theorem dX12_carry_71 : decode cX12_carry 71 = .ok (.aload_n 0, 1) := by decide +kernel
theorem dX12_carry_72 : decode cX12_carry 72 = .ok (.iload_n 1, 1) := by decide +kernel
theorem dX12_carry_73 : decode cX12_carry 73 = .ok (.iload_n 3, 1) := by decide +kernel
theorem dX12_carry_74 : decode cX12_carry 74 = .ok (.iload_n 2, 1) := by decide +kernel
theorem dX12_carry_75 : decode cX12_carry 75 = .ok (.iconst 0, 1) := by decide +kernel
theorem dX12_carry_76 : decode cX12_carry 76 = .ok (.invokevirtual 339, 3) := by decide +kernel
theorem dX12_carry_79 : decode cX12_carry 79 = .ok (.iload_n 3, 1) := by decide +kernel
theorem dX12_carry_80 : decode cX12_carry 80 = .ok (.ireturn, 1) := by decide +kernel
theorem dX12_guests_0 : decode cX12_guests 0 = .ok (.aload_n 0, 1) := by decide +kernel
theorem dX12_guests_1 : decode cX12_guests 1 = .ok (.iconst 0, 1) := by decide +kernel
theorem dX12_guests_2 : decode cX12_guests 2 = .ok (.putfield 3, 3) := by decide +kernel
theorem dX12_guests_5 : decode cX12_guests 5 = .ok (.aload_n 0, 1) := by decide +kernel
theorem dX12_guests_6 : decode cX12_guests 6 = .ok (.aload_n 0, 1) := by decide +kernel
theorem dX12_guests_7 : decode cX12_guests 7 = .ok (.iload_n 1, 1) := by decide +kernel
theorem dX12_guests_8 : decode cX12_guests 8 = .ok (.invokevirtual 315, 3) := by decide +kernel
theorem dX12_guests_11 : decode cX12_guests 11 = .ok (.iconst 1, 1) := by decide +kernel
theorem dX12_guests_12 : decode cX12_guests 12 = .ok (.invokevirtual 242, 3) := by decide +kernel
theorem dX12_guests_15 : decode cX12_guests 15 = .ok (.ifCond .ne 26, 3) := by decide +kernel
theorem dX12_guests_18 : decode cX12_guests 18 = .ok (.aload_n 0, 1) := by decide +kernel
theorem dX12_guests_19 : decode cX12_guests 19 = .ok (.iload_n 2, 1) := by decide +kernel
theorem dX12_guests_20 : decode cX12_guests 20 = .ok (.iconst 0, 1) := by decide +kernel
theorem dX12_guests_21 : decode cX12_guests 21 = .ok (.bipush 9, 2) := by decide +kernel
theorem dX12_guests_23 : decode cX12_guests 23 = .ok (.invokestatic 75, 3) := by decide +kernel
theorem dX12_guests_26 : decode cX12_guests 26 = .ok (.ifCond .ne 7, 3) := by decide +kernel
theorem dX12_guests_29 : decode cX12_guests 29 = .ok (.iconst 1, 1) := by decide +kernel
theorem dX12_guests_30 : decode cX12_guests 30 = .ok (.goto 4, 3) := by decide +kernel
theorem dX12_guests_33 : decode cX12_guests 33 = .ok (.iconst 0, 1) := by decide +kernel
theorem dX12_guests_34 : decode cX12_guests 34 = .ok (.iconst 2, 1) := by decide +kernel
theorem dX12_guests_35 : decode cX12_guests 35 = .ok (.invokevirtual 242, 3) := by decide +kernel
theorem dX12_guests_38 : decode cX12_guests 38 = .ok (.ifCond .eq 5, 3) := by decide +kernel
theorem dX12_guests_41 : decode cX12_guests 41 = .ok (.iconst 0, 1) := by decide +kernel
theorem dX12_guests_42 : decode cX12_guests 42 = .ok (.ireturn, 1) := by decide +kernel
theorem dX12_guests_43 : decode cX12_guests 43 = .ok (.aload_n 0, 1) := by decide +kernel
theorem dX12_guests_44 : decode cX12_guests 44 = .ok (.invokevirtual 336, 3) := by decide +kernel
theorem dX12_guests_47 : decode cX12_guests 47 = .ok (.aload_n 0, 1) := by decide +kernel
theorem dX12_guests_48 : decode cX12_guests 48 = .ok (.iload_n 1, 1) := by decide +kernel
theorem dX12_guests_49 : decode cX12_guests 49 = .ok (.iconst 1, 1) := by decide +kernel
theorem dX12_guests_50 : decode cX12_guests 50 = .ok (.invokevirtual 255, 3) := by decide +kernel
theorem dX12_guests_53 : decode cX12_guests 53 = .ok (.istore_n 3, 1) := by decide +kernel
theorem dX12_guests_54 : decode cX12_guests 54 = .ok (.aload_n 0, 1) := by decide +kernel
theorem dX12_guests_55 : decode cX12_guests 55 = .ok (.getfield 13, 3) := by decide +kernel
theorem dX12_guests_58 : decode cX12_guests 58 = .ok (.iload_n 1, 1) := by decide +kernel
theorem dX12_guests_59 : decode cX12_guests 59 = .ok (.iconst 1, 1) := by decide +kernel
theorem dX12_guests_60 : decode cX12_guests 60 = .ok (.invokestatic 66, 3) := by decide +kernel
theorem dX12_guests_63 : decode cX12_guests 63 = .ok (.iload_n 2, 1) := by decide +kernel
theorem dX12_guests_64 : decode cX12_guests 64 = .ok (.iastore, 1) := by decide +kernel
theorem dX12_guests_65 : decode cX12_guests 65 = .ok (.iload_n 3, 1) := by decide +kernel
theorem dX12_guests_66 : decode cX12_guests 66 = .ok (.ireturn, 1) := by decide +kernel
theorem dX12_prop_0 : decode cX12_prop 0 = .ok (.aload_n 0, 1) := by decide +kernel
theorem dX12_prop_1 : decode cX12_prop 1 = .ok (.iconst 0, 1) := by decide +kernel
theorem dX12_prop_2 : decode cX12_prop 2 = .ok (.putfield 3, 3) := by decide +kernel
theorem dX12_prop_5 : decode cX12_prop 5 = .ok (.aload_n 0, 1) := by decide +kernel
theorem dX12_prop_6 : decode cX12_prop 6 = .ok (.aload_n 0, 1) := by decide +kernel
theorem dX12_prop_7 : decode cX12_prop 7 = .ok (.iload_n 1, 1) := by decide +kernel
theorem dX12_prop_8 : decode cX12_prop 8 = .ok (.invokevirtual 309, 3) := by decide +kernel
theorem dX12_prop_11 : decode cX12_prop 11 = .ok (.iconst 1, 1) := by decide +kernel
theorem dX12_prop_12 : decode cX12_prop 12 = .ok (.invokevirtual 242, 3) := by decide +kernel
theorem dX12_prop_15 : decode cX12_prop 15 = .ok (.ifCond .eq 5, 3) := by decide +kernel
theorem dX12_prop_18 : decode cX12_prop 18 = .ok (.iconst 0, 1) := by decide +kernel
theorem dX12_prop_19 : decode cX12_prop 19 = .ok (.ireturn, 1) := by decide +kernel
theorem dX12_prop_20 : decode cX12_prop 20 = .ok (.aload_n 0, 1) := by decide +kernel
theorem dX12_prop_21 : decode cX12_prop 21 = .ok (.invokevirtual 336, 3) := by decide +kernel
theorem dX12_prop_24 : decode cX12_prop 24 = .ok (.aload_n 0, 1) := by decide +kernel
theorem dX12_prop_25 : decode cX12_prop 25 = .ok (.iload_n 1, 1) := by decide +kernel
theorem dX12_prop_26 : decode cX12_prop 26 = .ok (.invokevirtual 266, 3) := by decide +kernel
theorem dX12_prop_29 : decode cX12_prop 29 = .ok (.istore_n 3, 1) := by decide +kernel
theorem dX12_prop_30 : decode cX12_prop 30 = .ok (.aload_n 0, 1) := by decide +kernel
theorem dX12_prop_31 : decode cX12_prop 31 = .ok (.getfield 13, 3) := by decide +kernel
theorem dX12_prop_34 : decode cX12_prop 34 = .ok (.iload_n 1, 1) := by decide +kernel
theorem dX12_prop_35 : decode cX12_prop 35 = .ok (.iconst 2, 1) := by decide +kernel
theorem dX12_prop_36 : decode cX12_prop 36 = .ok (.invokestatic 59, 3) := by decide +kernel
theorem dX12_prop_39 : decode cX12_prop 39 = .ok (.iload_n 2, 1) := by decide +kernel
theorem dX12_prop_40 : decode cX12_prop 40 = .ok (.ifCond .eq 7, 3) := by decide +kernel
theorem dX12_prop_43 : decode cX12_prop 43 = .ok (.iconst 1, 1) := by decide +kernel
theorem dX12_prop_44 : decode cX12_prop 44 = .ok (.goto 4, 3) := by decide +kernel
theorem dX12_prop_47 : decode cX12_prop 47 = .ok (.iconst 0, 1) := by decide +kernel
theorem dX12_prop_48 : decode cX12_prop 48 = .ok (.iastore, 1) := by decide +kernel
theorem dX12_prop_49 : decode cX12_prop 49 = .ok (.iload_n 3, 1) := by decide +kernel
theorem dX12_prop_50 : decode cX12_prop 50 = .ok (.iload_n 2, 1) := by decide +kernel
theorem dX12_prop_51 : decode cX12_prop 51 = .ok (.if_icmp .eq 7, 3) := by decide +kernel
theorem dX12_prop_54 : decode cX12_prop 54 = .ok (.iconst 1, 1) := by decide +kernel
theorem dX12_prop_55 : decode cX12_prop 55 = .ok (.goto 4, 3) := by decide +kernel
theorem dX12_prop_58 : decode cX12_prop 58 = .ok (.iconst 0, 1) := by decide +kernel
theorem dX12_prop_59 : decode cX12_prop 59 = .ok (.ireturn, 1) := by decide +kernel
theorem dX12_mend_0 : decode cX12_mend 0 = .ok (.aload_n 0, 1) := by decide +kernel
theorem dX12_mend_1 : decode cX12_mend 1 = .ok (.iconst 0, 1) := by decide +kernel
theorem dX12_mend_2 : decode cX12_mend 2 = .ok (.putfield 3, 3) := by decide +kernel
theorem dX12_mend_5 : decode cX12_mend 5 = .ok (.aload_n 0, 1) := by decide +kernel
theorem dX12_mend_6 : decode cX12_mend 6 = .ok (.aload_n 0, 1) := by decide +kernel
theorem dX12_mend_7 : decode cX12_mend 7 = .ok (.iload_n 1, 1) := by decide +kernel
theorem dX12_mend_8 : decode cX12_mend 8 = .ok (.invokevirtual 309, 3) := by decide +kernel
theorem dX12_mend_11 : decode cX12_mend 11 = .ok (.iconst 1, 1) := by decide +kernel
theorem dX12_mend_12 : decode cX12_mend 12 = .ok (.invokevirtual 242, 3) := by decide +kernel
theorem dX12_mend_15 : decode cX12_mend 15 = .ok (.ifCond .ne 24, 3) := by decide +kernel
theorem dX12_mend_18 : decode cX12_mend 18 = .ok (.aload_n 0, 1) := by decide +kernel
theorem dX12_mend_19 : decode cX12_mend 19 = .ok (.aload_n 0, 1) := by decide +kernel
theorem dX12_mend_20 : decode cX12_mend 20 = .ok (.iload_n 1, 1) := by decide +kernel
theorem dX12_mend_21 : decode cX12_mend 21 = .ok (.invokevirtual 278, 3) := by decide +kernel
theorem dX12_mend_24 : decode cX12_mend 24 = .ok (.ifCond .ne 7, 3) := by decide +kernel
theorem dX12_mend_27 : decode cX12_mend 27 = .ok (.iconst 1, 1) := by decide +kernel
theorem dX12_mend_28 : decode cX12_mend 28 = .ok (.goto 4, 3) := by decide +kernel
theorem dX12_mend_31 : decode cX12_mend 31 = .ok (.iconst 0, 1) := by decide +kernel
theorem dX12_mend_32 : decode cX12_mend 32 = .ok (.iconst 2, 1) := by decide +kernel
theorem dX12_mend_33 : decode cX12_mend 33 = .ok (.invokevirtual 242, 3) := by decide +kernel
theorem dX12_mend_36 : decode cX12_mend 36 = .ok (.ifCond .eq 5, 3) := by decide +kernel
theorem dX12_mend_39 : decode cX12_mend 39 = .ok (.iconst 0, 1) := by decide +kernel
theorem dX12_mend_40 : decode cX12_mend 40 = .ok (.ireturn, 1) := by decide +kernel
theorem dX12_mend_41 : decode cX12_mend 41 = .ok (.aload_n 0, 1) := by decide +kernel
theorem dX12_mend_42 : decode cX12_mend 42 = .ok (.invokevirtual 336, 3) := by decide +kernel
theorem dX12_mend_45 : decode cX12_mend 45 = .ok (.aload_n 0, 1) := by decide +kernel
theorem dX12_mend_46 : decode cX12_mend 46 = .ok (.iload_n 1, 1) := by decide +kernel
theorem dX12_mend_47 : decode cX12_mend 47 = .ok (.iconst 1, 1) := by decide +kernel
theorem dX12_mend_48 : decode cX12_mend 48 = .ok (.invokevirtual 63, 3) := by decide +kernel
theorem dX12_mend_51 : decode cX12_mend 51 = .ok (.istore_n 2, 1) := by decide +kernel
theorem dX12_mend_52 : decode cX12_mend 52 = .ok (.aload_n 0, 1) := by decide +kernel
theorem dX12_mend_53 : decode cX12_mend 53 = .ok (.getfield 13, 3) := by decide +kernel
theorem dX12_mend_56 : decode cX12_mend 56 = .ok (.iload_n 1, 1) := by decide +kernel
theorem dX12_mend_57 : decode cX12_mend 57 = .ok (.iconst 1, 1) := by decide +kernel
theorem dX12_mend_58 : decode cX12_mend 58 = .ok (.invokestatic 59, 3) := by decide +kernel
theorem dX12_mend_61 : decode cX12_mend 61 = .ok (.iconst 0, 1) := by decide +kernel
theorem dX12_mend_62 : decode cX12_mend 62 = .ok (.iastore, 1) := by decide +kernel
theorem dX12_mend_63 : decode cX12_mend 63 = .ok (.aload_n 0, 1) := by decide +kernel
theorem dX12_mend_64 : decode cX12_mend 64 = .ok (.getfield 13, 3) := by decide +kernel
theorem dX12_mend_67 : decode cX12_mend 67 = .ok (.iload_n 1, 1) := by decide +kernel
theorem dX12_mend_68 : decode cX12_mend 68 = .ok (.iconst 3, 1) := by decide +kernel
theorem dX12_mend_69 : decode cX12_mend 69 = .ok (.invokestatic 59, 3) := by decide +kernel
theorem dX12_mend_72 : decode cX12_mend 72 = .ok (.iconst 0, 1) := by decide +kernel
theorem dX12_mend_73 : decode cX12_mend 73 = .ok (.iastore, 1) := by decide +kernel
theorem dX12_mend_74 : decode cX12_mend 74 = .ok (.iload_n 2, 1) := by decide +kernel
theorem dX12_mend_75 : decode cX12_mend 75 = .ok (.ireturn, 1) := by decide +kernel
theorem dX12_give_0 : decode cX12_give 0 = .ok (.aload_n 0, 1) := by decide +kernel
theorem dX12_give_1 : decode cX12_give 1 = .ok (.iconst 0, 1) := by decide +kernel
theorem dX12_give_2 : decode cX12_give 2 = .ok (.putfield 3, 3) := by decide +kernel
theorem dX12_give_5 : decode cX12_give 5 = .ok (.aload_n 0, 1) := by decide +kernel
theorem dX12_give_6 : decode cX12_give 6 = .ok (.aload_n 0, 1) := by decide +kernel
theorem dX12_give_7 : decode cX12_give 7 = .ok (.iload_n 1, 1) := by decide +kernel
theorem dX12_give_8 : decode cX12_give 8 = .ok (.invokevirtual 315, 3) := by decide +kernel
theorem dX12_give_11 : decode cX12_give 11 = .ok (.ifCond .ne 11, 3) := by decide +kernel
theorem dX12_give_14 : decode cX12_give 14 = .ok (.aload_n 0, 1) := by decide +kernel
theorem dX12_give_15 : decode cX12_give 15 = .ok (.iload_n 2, 1) := by decide +kernel
theorem dX12_give_16 : decode cX12_give 16 = .ok (.invokevirtual 315, 3) := by decide +kernel
theorem dX12_give_19 : decode cX12_give 19 = .ok (.ifCond .eq 7, 3) := by decide +kernel
theorem dX12_give_22 : decode cX12_give 22 = .ok (.iconst 1, 1) := by decide +kernel
theorem dX12_give_23 : decode cX12_give 23 = .ok (.goto 4, 3) := by decide +kernel
theorem dX12_give_26 : decode cX12_give 26 = .ok (.iconst 0, 1) := by decide +kernel
theorem dX12_give_27 : decode cX12_give 27 = .ok (.iconst 1, 1) := by decide +kernel
theorem dX12_give_28 : decode cX12_give 28 = .ok (.invokevirtual 242, 3) := by decide +kernel
theorem dX12_give_31 : decode cX12_give 31 = .ok (.ifCond .ne 35, 3) := by decide +kernel
theorem dX12_give_34 : decode cX12_give 34 = .ok (.aload_n 0, 1) := by decide +kernel
theorem dX12_give_35 : decode cX12_give 35 = .ok (.iload_n 1, 1) := by decide +kernel
theorem dX12_give_36 : decode cX12_give 36 = .ok (.iload_n 2, 1) := by decide +kernel
theorem dX12_give_37 : decode cX12_give 37 = .ok (.if_icmp .eq 17, 3) := by decide +kernel
theorem dX12_give_40 : decode cX12_give 40 = .ok (.iload_n 3, 1) := by decide +kernel
theorem dX12_give_41 : decode cX12_give 41 = .ok (.iconst 1, 1) := by decide +kernel
theorem dX12_give_42 : decode cX12_give 42 = .ok (.aload_n 0, 1) := by decide +kernel
theorem dX12_give_43 : decode cX12_give 43 = .ok (.iload_n 1, 1) := by decide +kernel
theorem dX12_give_44 : decode cX12_give 44 = .ok (.iconst 0, 1) := by decide +kernel
theorem dX12_give_45 : decode cX12_give 45 = .ok (.invokevirtual 255, 3) := by decide +kernel
theorem dX12_give_48 : decode cX12_give 48 = .ok (.invokestatic 75, 3) := by decide +kernel
theorem dX12_give_51 : decode cX12_give 51 = .ok (.ifCond .ne 7, 3) := by decide +kernel
theorem dX12_give_54 : decode cX12_give 54 = .ok (.iconst 1, 1) := by decide +kernel
theorem dX12_give_55 : decode cX12_give 55 = .ok (.goto 4, 3) := by decide +kernel
theorem dX12_give_58 : decode cX12_give 58 = .ok (.iconst 0, 1) := by decide +kernel
theorem dX12_give_59 : decode cX12_give 59 = .ok (.iconst 2, 1) := by decide +kernel
theorem dX12_give_60 : decode cX12_give 60 = .ok (.invokevirtual 242, 3) := by decide +kernel
theorem dX12_give_63 : decode cX12_give 63 = .ok (.ifCond .eq 5, 3) := by decide +kernel
theorem dX12_give_66 : decode cX12_give 66 = .ok (.iconst 0, 1) := by decide +kernel
theorem dX12_give_67 : decode cX12_give 67 = .ok (.ireturn, 1) := by decide +kernel
theorem dX12_give_68 : decode cX12_give 68 = .ok (.aload_n 0, 1) := by decide +kernel
theorem dX12_give_69 : decode cX12_give 69 = .ok (.invokevirtual 336, 3) := by decide +kernel
theorem dX12_give_72 : decode cX12_give 72 = .ok (.aload_n 0, 1) := by decide +kernel
theorem dX12_give_73 : decode cX12_give 73 = .ok (.getfield 13, 3) := by decide +kernel
theorem dX12_give_76 : decode cX12_give 76 = .ok (.iload_n 1, 1) := by decide +kernel
theorem dX12_give_77 : decode cX12_give 77 = .ok (.iconst 0, 1) := by decide +kernel
theorem dX12_give_78 : decode cX12_give 78 = .ok (.invokestatic 66, 3) := by decide +kernel
theorem dX12_give_81 : decode cX12_give 81 = .ok (.dup2, 1) := by decide +kernel
theorem dX12_give_82 : decode cX12_give 82 = .ok (.iaload, 1) := by decide +kernel
theorem dX12_give_83 : decode cX12_give 83 = .ok (.iload_n 3, 1) := by decide +kernel
theorem dX12_give_84 : decode cX12_give 84 = .ok (.isub, 1) := by decide +kernel
theorem dX12_give_85 : decode cX12_give 85 = .ok (.iastore, 1) := by decide +kernel
theorem dX12_give_86 : decode cX12_give 86 = .ok (.aload_n 0, 1) := by decide +kernel
theorem dX12_give_87 : decode cX12_give 87 = .ok (.getfield 13, 3) := by decide +kernel
theorem dX12_give_90 : decode cX12_give 90 = .ok (.iload_n 2, 1) := by decide +kernel
theorem dX12_give_91 : decode cX12_give 91 = .ok (.iconst 0, 1) := by decide +kernel
theorem dX12_give_92 : decode cX12_give 92 = .ok (.invokestatic 66, 3) := by decide +kernel
theorem dX12_give_95 : decode cX12_give 95 = .ok (.sipush 9999, 3) := by decide +kernel
theorem dX12_give_98 : decode cX12_give 98 = .ok (.aload_n 0, 1) := by decide +kernel
theorem dX12_give_99 : decode cX12_give 99 = .ok (.iload_n 2, 1) := by decide +kernel
theorem dX12_give_100 : decode cX12_give 100 = .ok (.iconst 0, 1) := by decide +kernel
theorem dX12_give_101 : decode cX12_give 101 = .ok (.invokevirtual 255, 3) := by decide +kernel
theorem dX12_give_104 : decode cX12_give 104 = .ok (.iload_n 3, 1) := by decide +kernel
theorem dX12_give_105 : decode cX12_give 105 = .ok (.iadd, 1) := by decide +kernel
theorem dX12_give_106 : decode cX12_give 106 = .ok (.invokestatic 258, 3) := by decide +kernel
theorem dX12_give_109 : decode cX12_give 109 = .ok (.iastore, 1) := by decide +kernel
theorem dX12_give_110 : decode cX12_give 110 = .ok (.aload_n 0, 1) := by decide +kernel
theorem dX12_give_111 : decode cX12_give 111 = .ok (.iload_n 2, 1) := by decide +kernel
theorem dX12_give_112 : decode cX12_give 112 = .ok (.iconst 0, 1) := by decide +kernel
theorem dX12_give_113 : decode cX12_give 113 = .ok (.invokevirtual 255, 3) := by decide +kernel
theorem dX12_give_116 : decode cX12_give 116 = .ok (.ireturn, 1) := by decide +kernel
theorem dX12_sweep_0 : decode cX12_sweep 0 = .ok (.aload_n 0, 1) := by decide +kernel
theorem dX12_sweep_1 : decode cX12_sweep 1 = .ok (.iconst 0, 1) := by decide +kernel
theorem dX12_sweep_2 : decode cX12_sweep 2 = .ok (.putfield 3, 3) := by decide +kernel
theorem dX12_sweep_5 : decode cX12_sweep 5 = .ok (.aload_n 0, 1) := by decide +kernel
theorem dX12_sweep_6 : decode cX12_sweep 6 = .ok (.invokevirtual 336, 3) := by decide +kernel
theorem dX12_sweep_9 : decode cX12_sweep 9 = .ok (.aload_n 0, 1) := by decide +kernel
theorem dX12_sweep_10 : decode cX12_sweep 10 = .ok (.getfield 13, 3) := by decide +kernel
theorem dX12_sweep_13 : decode cX12_sweep 13 = .ok (.iconst 5, 1) := by decide +kernel
theorem dX12_sweep_14 : decode cX12_sweep 14 = .ok (.iaload, 1) := by decide +kernel
theorem dX12_sweep_15 : decode cX12_sweep 15 = .ok (.istore_n 1, 1) := by decide +kernel
theorem dX12_sweep_16 : decode cX12_sweep 16 = .ok (.aload_n 0, 1) := by decide +kernel
theorem dX12_sweep_17 : decode cX12_sweep 17 = .ok (.getfield 13, 3) := by decide +kernel
theorem dX12_sweep_20 : decode cX12_sweep 20 = .ok (.iconst 5, 1) := by decide +kernel
theorem dX12_sweep_21 : decode cX12_sweep 21 = .ok (.iconst 0, 1) := by decide +kernel
theorem dX12_sweep_22 : decode cX12_sweep 22 = .ok (.iastore, 1) := by decide +kernel
theorem dX12_sweep_23 : decode cX12_sweep 23 = .ok (.iload_n 1, 1) := by decide +kernel
theorem dX12_sweep_24 : decode cX12_sweep 24 = .ok (.ireturn, 1) := by decide +kernel
theorem dX12_luredTo_0 : decode cX12_luredTo 0 = .ok (.iconst (-1), 1) := by decide +kernel
theorem dX12_luredTo_1 : decode cX12_luredTo 1 = .ok (.istore_n 2, 1) := by decide +kernel
theorem dX12_luredTo_2 : decode cX12_luredTo 2 = .ok (.iconst (-1), 1) := by decide +kernel
theorem dX12_luredTo_3 : decode cX12_luredTo 3 = .ok (.istore_n 3, 1) := by decide +kernel
theorem dX12_luredTo_4 : decode cX12_luredTo 4 = .ok (.iconst 0, 1) := by decide +kernel
theorem dX12_luredTo_5 : decode cX12_luredTo 5 = .ok (.istore 4, 2) := by decide +kernel
theorem dX12_luredTo_7 : decode cX12_luredTo 7 = .ok (.iload 4, 2) := by decide +kernel
theorem dX12_luredTo_9 : decode cX12_luredTo 9 = .ok (.aload_n 0, 1) := by decide +kernel
theorem dX12_luredTo_10 : decode cX12_luredTo 10 = .ok (.invokevirtual 79, 3) := by decide +kernel
theorem dX12_luredTo_13 : decode cX12_luredTo 13 = .ok (.if_icmp .ge 50, 3) := by decide +kernel
theorem dX12_luredTo_16 : decode cX12_luredTo 16 = .ok (.iload_n 1, 1) := by decide +kernel
theorem dX12_luredTo_17 : decode cX12_luredTo 17 = .ok (.iload 4, 2) := by decide +kernel
theorem dX12_luredTo_19 : decode cX12_luredTo 19 = .ok (.invokestatic 245, 3) := by decide +kernel
theorem dX12_luredTo_22 : decode cX12_luredTo 22 = .ok (.ifCond .eq 7, 3) := by decide +kernel
theorem dX12_luredTo_25 : decode cX12_luredTo 25 = .ok (.iconst (-1), 1) := by decide +kernel
theorem dX12_luredTo_26 : decode cX12_luredTo 26 = .ok (.goto 9, 3) := by decide +kernel
theorem dX12_luredTo_29 : decode cX12_luredTo 29 = .ok (.aload_n 0, 1) := by decide +kernel
theorem dX12_luredTo_30 : decode cX12_luredTo 30 = .ok (.iload 4, 2) := by decide +kernel
theorem dX12_luredTo_32 : decode cX12_luredTo 32 = .ok (.invokevirtual 321, 3) := by decide +kernel
theorem dX12_luredTo_35 : decode cX12_luredTo 35 = .ok (.istore 5, 2) := by decide +kernel
theorem dX12_luredTo_37 : decode cX12_luredTo 37 = .ok (.iload 5, 2) := by decide +kernel
theorem dX12_luredTo_39 : decode cX12_luredTo 39 = .ok (.iload_n 3, 1) := by decide +kernel
theorem dX12_luredTo_40 : decode cX12_luredTo 40 = .ok (.if_icmp .le 8, 3) := by decide +kernel
theorem dX12_luredTo_43 : decode cX12_luredTo 43 = .ok (.iload 4, 2) := by decide +kernel
theorem dX12_luredTo_45 : decode cX12_luredTo 45 = .ok (.goto 4, 3) := by decide +kernel
theorem dX12_luredTo_48 : decode cX12_luredTo 48 = .ok (.iload_n 2, 1) := by decide +kernel
theorem dX12_luredTo_49 : decode cX12_luredTo 49 = .ok (.istore_n 2, 1) := by decide +kernel
theorem dX12_luredTo_50 : decode cX12_luredTo 50 = .ok (.iload_n 3, 1) := by decide +kernel
theorem dX12_luredTo_51 : decode cX12_luredTo 51 = .ok (.iload 5, 2) := by decide +kernel
theorem dX12_luredTo_53 : decode cX12_luredTo 53 = .ok (.invokestatic 263, 3) := by decide +kernel
theorem dX12_luredTo_56 : decode cX12_luredTo 56 = .ok (.istore_n 3, 1) := by decide +kernel
theorem dX12_luredTo_57 : decode cX12_luredTo 57 = .ok (.iinc 4 1, 3) := by decide +kernel
theorem dX12_luredTo_60 : decode cX12_luredTo 60 = .ok (.goto (-53), 3) := by decide +kernel
theorem dX12_luredTo_63 : decode cX12_luredTo 63 = .ok (.iload_n 2, 1) := by decide +kernel
theorem dX12_luredTo_64 : decode cX12_luredTo 64 = .ok (.ireturn, 1) := by decide +kernel
theorem dX12_dearestIn_0 : decode cX12_dearestIn 0 = .ok (.iconst (-1), 1) := by decide +kernel
theorem dX12_dearestIn_1 : decode cX12_dearestIn 1 = .ok (.istore_n 2, 1) := by decide +kernel
theorem dX12_dearestIn_2 : decode cX12_dearestIn 2 = .ok (.iconst 0, 1) := by decide +kernel
theorem dX12_dearestIn_3 : decode cX12_dearestIn 3 = .ok (.istore_n 3, 1) := by decide +kernel
theorem dX12_dearestIn_4 : decode cX12_dearestIn 4 = .ok (.iload_n 3, 1) := by decide +kernel
theorem dX12_dearestIn_5 : decode cX12_dearestIn 5 = .ok (.aload_n 0, 1) := by decide +kernel
theorem dX12_dearestIn_6 : decode cX12_dearestIn 6 = .ok (.invokevirtual 82, 3) := by decide +kernel
theorem dX12_dearestIn_9 : decode cX12_dearestIn 9 = .ok (.if_icmp .ge 41, 3) := by decide +kernel
theorem dX12_dearestIn_12 : decode cX12_dearestIn 12 = .ok (.aload_n 0, 1) := by decide +kernel
theorem dX12_dearestIn_13 : decode cX12_dearestIn 13 = .ok (.iload_n 3, 1) := by decide +kernel
theorem dX12_dearestIn_14 : decode cX12_dearestIn 14 = .ok (.iconst 2, 1) := by decide +kernel
theorem dX12_dearestIn_15 : decode cX12_dearestIn 15 = .ok (.invokevirtual 72, 3) := by decide +kernel
theorem dX12_dearestIn_18 : decode cX12_dearestIn 18 = .ok (.iload_n 1, 1) := by decide +kernel
theorem dX12_dearestIn_19 : decode cX12_dearestIn 19 = .ok (.if_icmp .ne 25, 3) := by decide +kernel
theorem dX12_dearestIn_22 : decode cX12_dearestIn 22 = .ok (.iload_n 2, 1) := by decide +kernel
theorem dX12_dearestIn_23 : decode cX12_dearestIn 23 = .ok (.iconst (-1), 1) := by decide +kernel
theorem dX12_dearestIn_24 : decode cX12_dearestIn 24 = .ok (.if_icmp .eq 18, 3) := by decide +kernel
theorem dX12_dearestIn_27 : decode cX12_dearestIn 27 = .ok (.aload_n 0, 1) := by decide +kernel
theorem dX12_dearestIn_28 : decode cX12_dearestIn 28 = .ok (.iload_n 3, 1) := by decide +kernel
theorem dX12_dearestIn_29 : decode cX12_dearestIn 29 = .ok (.iconst 1, 1) := by decide +kernel
theorem dX12_dearestIn_30 : decode cX12_dearestIn 30 = .ok (.invokevirtual 72, 3) := by decide +kernel
theorem dX12_dearestIn_33 : decode cX12_dearestIn 33 = .ok (.aload_n 0, 1) := by decide +kernel
theorem dX12_dearestIn_34 : decode cX12_dearestIn 34 = .ok (.iload_n 2, 1) := by decide +kernel
theorem dX12_dearestIn_35 : decode cX12_dearestIn 35 = .ok (.iconst 1, 1) := by decide +kernel
theorem dX12_dearestIn_36 : decode cX12_dearestIn 36 = .ok (.invokevirtual 72, 3) := by decide +kernel
theorem dX12_dearestIn_39 : decode cX12_dearestIn 39 = .ok (.if_icmp .le 5, 3) := by decide +kernel
theorem dX12_dearestIn_42 : decode cX12_dearestIn 42 = .ok (.iload_n 3, 1) := by decide +kernel
theorem dX12_dearestIn_43 : decode cX12_dearestIn 43 = .ok (.istore_n 2, 1) := by decide +kernel
theorem dX12_dearestIn_44 : decode cX12_dearestIn 44 = .ok (.iinc 3 1, 3) := by decide +kernel
theorem dX12_dearestIn_47 : decode cX12_dearestIn 47 = .ok (.goto (-43), 3) := by decide +kernel
theorem dX12_dearestIn_50 : decode cX12_dearestIn 50 = .ok (.iload_n 2, 1) := by decide +kernel
theorem dX12_dearestIn_51 : decode cX12_dearestIn 51 = .ok (.ireturn, 1) := by decide +kernel
theorem dX12_steals_0 : decode cX12_steals 0 = .ok (.aload_n 0, 1) := by decide +kernel
theorem dX12_steals_1 : decode cX12_steals 1 = .ok (.iload_n 1, 1) := by decide +kernel
theorem dX12_steals_2 : decode cX12_steals 2 = .ok (.invokevirtual 343, 3) := by decide +kernel
theorem dX12_steals_5 : decode cX12_steals 5 = .ok (.istore_n 2, 1) := by decide +kernel
theorem dX12_steals_6 : decode cX12_steals 6 = .ok (.iload_n 2, 1) := by decide +kernel
theorem dX12_steals_7 : decode cX12_steals 7 = .ok (.iconst (-1), 1) := by decide +kernel
theorem dX12_steals_8 : decode cX12_steals 8 = .ok (.if_icmp .ne 7, 3) := by decide +kernel
theorem dX12_steals_11 : decode cX12_steals 11 = .ok (.iconst (-1), 1) := by decide +kernel
theorem dX12_steals_12 : decode cX12_steals 12 = .ok (.goto 8, 3) := by decide +kernel
theorem dX12_steals_15 : decode cX12_steals 15 = .ok (.aload_n 0, 1) := by decide +kernel
theorem dX12_steals_16 : decode cX12_steals 16 = .ok (.iload_n 2, 1) := by decide +kernel
theorem dX12_steals_17 : decode cX12_steals 17 = .ok (.invokevirtual 346, 3) := by decide +kernel
theorem dX12_steals_20 : decode cX12_steals 20 = .ok (.istore_n 3, 1) := by decide +kernel
theorem dX12_steals_21 : decode cX12_steals 21 = .ok (.iload_n 3, 1) := by decide +kernel
theorem dX12_steals_22 : decode cX12_steals 22 = .ok (.iconst (-1), 1) := by decide +kernel
theorem dX12_steals_23 : decode cX12_steals 23 = .ok (.if_icmp .eq 14, 3) := by decide +kernel
theorem dX12_steals_26 : decode cX12_steals 26 = .ok (.aload_n 0, 1) := by decide +kernel
theorem dX12_steals_27 : decode cX12_steals 27 = .ok (.getfield 13, 3) := by decide +kernel
theorem dX12_steals_30 : decode cX12_steals 30 = .ok (.iload_n 3, 1) := by decide +kernel
theorem dX12_steals_31 : decode cX12_steals 31 = .ok (.iconst 2, 1) := by decide +kernel
theorem dX12_steals_32 : decode cX12_steals 32 = .ok (.invokestatic 69, 3) := by decide +kernel
theorem dX12_steals_35 : decode cX12_steals 35 = .ok (.iconst (-1), 1) := by decide +kernel
theorem dX12_steals_36 : decode cX12_steals 36 = .ok (.iastore, 1) := by decide +kernel
theorem dX12_steals_37 : decode cX12_steals 37 = .ok (.iload_n 3, 1) := by decide +kernel
theorem dX12_steals_38 : decode cX12_steals 38 = .ok (.ireturn, 1) := by decide +kernel
theorem dX12_keepsAll_0 : decode cX12_keepsAll 0 = .ok (.iconst 0, 1) := by decide +kernel
theorem dX12_keepsAll_1 : decode cX12_keepsAll 1 = .ok (.istore_n 1, 1) := by decide +kernel
theorem dX12_keepsAll_2 : decode cX12_keepsAll 2 = .ok (.iload_n 1, 1) := by decide +kernel
theorem dX12_keepsAll_3 : decode cX12_keepsAll 3 = .ok (.sipush 382, 3) := by decide +kernel
theorem dX12_keepsAll_6 : decode cX12_keepsAll 6 = .ok (.if_icmp .ge 21, 3) := by decide +kernel
theorem dX12_keepsAll_9 : decode cX12_keepsAll 9 = .ok (.aload_n 0, 1) := by decide +kernel
theorem dX12_keepsAll_10 : decode cX12_keepsAll 10 = .ok (.getfield 23, 3) := by decide +kernel
theorem dX12_keepsAll_13 : decode cX12_keepsAll 13 = .ok (.iload_n 1, 1) := by decide +kernel
theorem dX12_keepsAll_14 : decode cX12_keepsAll 14 = .ok (.aload_n 0, 1) := by decide +kernel
theorem dX12_keepsAll_15 : decode cX12_keepsAll 15 = .ok (.getfield 13, 3) := by decide +kernel
theorem dX12_keepsAll_18 : decode cX12_keepsAll 18 = .ok (.iload_n 1, 1) := by decide +kernel
theorem dX12_keepsAll_19 : decode cX12_keepsAll 19 = .ok (.iaload, 1) := by decide +kernel
theorem dX12_keepsAll_20 : decode cX12_keepsAll 20 = .ok (.iastore, 1) := by decide +kernel
theorem dX12_keepsAll_21 : decode cX12_keepsAll 21 = .ok (.iinc 1 1, 3) := by decide +kernel
theorem dX12_keepsAll_24 : decode cX12_keepsAll 24 = .ok (.goto (-22), 3) := by decide +kernel
theorem dX12_keepsAll_27 : decode cX12_keepsAll 27 = .ok (.return_, 1) := by decide +kernel
theorem dX12_bringsBack_0 : decode cX12_bringsBack 0 = .ok (.iconst 0, 1) := by decide +kernel
theorem dX12_bringsBack_1 : decode cX12_bringsBack 1 = .ok (.istore_n 1, 1) := by decide +kernel
theorem dX12_bringsBack_2 : decode cX12_bringsBack 2 = .ok (.iload_n 1, 1) := by decide +kernel
theorem dX12_bringsBack_3 : decode cX12_bringsBack 3 = .ok (.sipush 382, 3) := by decide +kernel
theorem dX12_bringsBack_6 : decode cX12_bringsBack 6 = .ok (.if_icmp .ge 21, 3) := by decide +kernel
theorem dX12_bringsBack_9 : decode cX12_bringsBack 9 = .ok (.aload_n 0, 1) := by decide +kernel
theorem dX12_bringsBack_10 : decode cX12_bringsBack 10 = .ok (.getfield 13, 3) := by decide +kernel
theorem dX12_bringsBack_13 : decode cX12_bringsBack 13 = .ok (.iload_n 1, 1) := by decide +kernel
theorem dX12_bringsBack_14 : decode cX12_bringsBack 14 = .ok (.aload_n 0, 1) := by decide +kernel
theorem dX12_bringsBack_15 : decode cX12_bringsBack 15 = .ok (.getfield 23, 3) := by decide +kernel
theorem dX12_bringsBack_18 : decode cX12_bringsBack 18 = .ok (.iload_n 1, 1) := by decide +kernel
theorem dX12_bringsBack_19 : decode cX12_bringsBack 19 = .ok (.iaload, 1) := by decide +kernel
theorem dX12_bringsBack_20 : decode cX12_bringsBack 20 = .ok (.iastore, 1) := by decide +kernel
theorem dX12_bringsBack_21 : decode cX12_bringsBack 21 = .ok (.iinc 1 1, 3) := by decide +kernel
theorem dX12_bringsBack_24 : decode cX12_bringsBack 24 = .ok (.goto (-22), 3) := by decide +kernel
theorem dX12_bringsBack_27 : decode cX12_bringsBack 27 = .ok (.return_, 1) := by decide +kernel
theorem dX12_worstOf_0 : decode cX12_worstOf 0 = .ok (.iconst (-1), 1) := by decide +kernel
theorem dX12_worstOf_1 : decode cX12_worstOf 1 = .ok (.istore_n 3, 1) := by decide +kernel
theorem dX12_worstOf_2 : decode cX12_worstOf 2 = .ok (.aload_n 0, 1) := by decide +kernel
theorem dX12_worstOf_3 : decode cX12_worstOf 3 = .ok (.invokevirtual 349, 3) := by decide +kernel
theorem dX12_worstOf_6 : decode cX12_worstOf 6 = .ok (.iconst 0, 1) := by decide +kernel
theorem dX12_worstOf_7 : decode cX12_worstOf 7 = .ok (.istore 4, 2) := by decide +kernel
theorem dX12_worstOf_9 : decode cX12_worstOf 9 = .ok (.iload 4, 2) := by decide +kernel
theorem dX12_worstOf_11 : decode cX12_worstOf 11 = .ok (.iload_n 1, 1) := by decide +kernel
theorem dX12_worstOf_12 : decode cX12_worstOf 12 = .ok (.if_icmp .ge 38, 3) := by decide +kernel
theorem dX12_worstOf_15 : decode cX12_worstOf 15 = .ok (.aload_n 0, 1) := by decide +kernel
theorem dX12_worstOf_16 : decode cX12_worstOf 16 = .ok (.iload_n 2, 1) := by decide +kernel
theorem dX12_worstOf_17 : decode cX12_worstOf 17 = .ok (.invokevirtual 352, 3) := by decide +kernel
theorem dX12_worstOf_20 : decode cX12_worstOf 20 = .ok (.istore 5, 2) := by decide +kernel
theorem dX12_worstOf_22 : decode cX12_worstOf 22 = .ok (.iload 5, 2) := by decide +kernel
theorem dX12_worstOf_24 : decode cX12_worstOf 24 = .ok (.iconst (-1), 1) := by decide +kernel
theorem dX12_worstOf_25 : decode cX12_worstOf 25 = .ok (.if_icmp .ne 7, 3) := by decide +kernel
theorem dX12_worstOf_28 : decode cX12_worstOf 28 = .ok (.iload_n 3, 1) := by decide +kernel
theorem dX12_worstOf_29 : decode cX12_worstOf 29 = .ok (.goto 14, 3) := by decide +kernel
theorem dX12_worstOf_32 : decode cX12_worstOf 32 = .ok (.iload_n 3, 1) := by decide +kernel
theorem dX12_worstOf_33 : decode cX12_worstOf 33 = .ok (.aload_n 0, 1) := by decide +kernel
theorem dX12_worstOf_34 : decode cX12_worstOf 34 = .ok (.iload 5, 2) := by decide +kernel
theorem dX12_worstOf_36 : decode cX12_worstOf 36 = .ok (.iconst 1, 1) := by decide +kernel
theorem dX12_worstOf_37 : decode cX12_worstOf 37 = .ok (.invokevirtual 72, 3) := by decide +kernel
theorem dX12_worstOf_40 : decode cX12_worstOf 40 = .ok (.invokestatic 263, 3) := by decide +kernel
theorem dX12_worstOf_43 : decode cX12_worstOf 43 = .ok (.istore_n 3, 1) := by decide +kernel
theorem dX12_worstOf_44 : decode cX12_worstOf 44 = .ok (.iinc 4 1, 3) := by decide +kernel
theorem dX12_worstOf_47 : decode cX12_worstOf 47 = .ok (.goto (-38), 3) := by decide +kernel
theorem dX12_worstOf_50 : decode cX12_worstOf 50 = .ok (.aload_n 0, 1) := by decide +kernel
theorem dX12_worstOf_51 : decode cX12_worstOf 51 = .ok (.invokevirtual 355, 3) := by decide +kernel
theorem dX12_worstOf_54 : decode cX12_worstOf 54 = .ok (.iload_n 3, 1) := by decide +kernel
theorem dX12_worstOf_55 : decode cX12_worstOf 55 = .ok (.ireturn, 1) := by decide +kernel
theorem dX12_thief_0 : decode cX12_thief 0 = .ok (.aload_n 0, 1) := by decide +kernel
theorem dX12_thief_1 : decode cX12_thief 1 = .ok (.iconst 0, 1) := by decide +kernel
theorem dX12_thief_2 : decode cX12_thief 2 = .ok (.putfield 3, 3) := by decide +kernel
theorem dX12_thief_5 : decode cX12_thief 5 = .ok (.aload_n 0, 1) := by decide +kernel
theorem dX12_thief_6 : decode cX12_thief 6 = .ok (.iconst 0, 1) := by decide +kernel
theorem dX12_thief_7 : decode cX12_thief 7 = .ok (.invokevirtual 343, 3) := by decide +kernel
theorem dX12_thief_10 : decode cX12_thief 10 = .ok (.ireturn, 1) := by decide +kernel
theorem dX12_loot_0 : decode cX12_loot 0 = .ok (.aload_n 0, 1) := by decide +kernel
theorem dX12_loot_1 : decode cX12_loot 1 = .ok (.iconst 0, 1) := by decide +kernel
theorem dX12_loot_2 : decode cX12_loot 2 = .ok (.putfield 3, 3) := by decide +kernel
theorem dX12_loot_5 : decode cX12_loot 5 = .ok (.aload_n 0, 1) := by decide +kernel
theorem dX12_loot_6 : decode cX12_loot 6 = .ok (.iload_n 1, 1) := by decide +kernel
theorem dX12_loot_7 : decode cX12_loot 7 = .ok (.iconst 0, 1) := by decide +kernel
theorem dX12_loot_8 : decode cX12_loot 8 = .ok (.bipush 10, 2) := by decide +kernel
theorem dX12_loot_10 : decode cX12_loot 10 = .ok (.invokestatic 75, 3) := by decide +kernel
theorem dX12_loot_13 : decode cX12_loot 13 = .ok (.ifCond .ne 7, 3) := by decide +kernel
theorem dX12_loot_16 : decode cX12_loot 16 = .ok (.iconst 1, 1) := by decide +kernel
theorem dX12_loot_17 : decode cX12_loot 17 = .ok (.goto 4, 3) := by decide +kernel
theorem dX12_loot_20 : decode cX12_loot 20 = .ok (.iconst 0, 1) := by decide +kernel
theorem dX12_loot_21 : decode cX12_loot 21 = .ok (.iconst 1, 1) := by decide +kernel
theorem dX12_loot_22 : decode cX12_loot 22 = .ok (.invokevirtual 242, 3) := by decide +kernel
theorem dX12_loot_25 : decode cX12_loot 25 = .ok (.ifCond .eq 5, 3) := by decide +kernel
theorem dX12_loot_28 : decode cX12_loot 28 = .ok (.iconst 0, 1) := by decide +kernel
theorem dX12_loot_29 : decode cX12_loot 29 = .ok (.ireturn, 1) := by decide +kernel
theorem dX12_loot_30 : decode cX12_loot 30 = .ok (.iconst 0, 1) := by decide +kernel
theorem dX12_loot_31 : decode cX12_loot 31 = .ok (.istore_n 2, 1) := by decide +kernel
theorem dX12_loot_32 : decode cX12_loot 32 = .ok (.aload_n 0, 1) := by decide +kernel
theorem dX12_loot_33 : decode cX12_loot 33 = .ok (.invokevirtual 349, 3) := by decide +kernel
theorem dX12_loot_36 : decode cX12_loot 36 = .ok (.iconst 0, 1) := by decide +kernel
theorem dX12_loot_37 : decode cX12_loot 37 = .ok (.istore_n 3, 1) := by decide +kernel
theorem dX12_loot_38 : decode cX12_loot 38 = .ok (.iload_n 3, 1) := by decide +kernel
theorem dX12_loot_39 : decode cX12_loot 39 = .ok (.iload_n 1, 1) := by decide +kernel
theorem dX12_loot_40 : decode cX12_loot 40 = .ok (.if_icmp .ge 36, 3) := by decide +kernel
theorem dX12_loot_43 : decode cX12_loot 43 = .ok (.aload_n 0, 1) := by decide +kernel
theorem dX12_loot_44 : decode cX12_loot 44 = .ok (.iconst 0, 1) := by decide +kernel
theorem dX12_loot_45 : decode cX12_loot 45 = .ok (.invokevirtual 352, 3) := by decide +kernel
theorem dX12_loot_48 : decode cX12_loot 48 = .ok (.istore 4, 2) := by decide +kernel
theorem dX12_loot_50 : decode cX12_loot 50 = .ok (.iload_n 2, 1) := by decide +kernel
theorem dX12_loot_51 : decode cX12_loot 51 = .ok (.iload 4, 2) := by decide +kernel
theorem dX12_loot_53 : decode cX12_loot 53 = .ok (.iconst (-1), 1) := by decide +kernel
theorem dX12_loot_54 : decode cX12_loot 54 = .ok (.if_icmp .ne 7, 3) := by decide +kernel
theorem dX12_loot_57 : decode cX12_loot 57 = .ok (.iconst 0, 1) := by decide +kernel
theorem dX12_loot_58 : decode cX12_loot 58 = .ok (.goto 10, 3) := by decide +kernel
theorem dX12_loot_61 : decode cX12_loot 61 = .ok (.aload_n 0, 1) := by decide +kernel
theorem dX12_loot_62 : decode cX12_loot 62 = .ok (.iload 4, 2) := by decide +kernel
theorem dX12_loot_64 : decode cX12_loot 64 = .ok (.iconst 1, 1) := by decide +kernel
theorem dX12_loot_65 : decode cX12_loot 65 = .ok (.invokevirtual 72, 3) := by decide +kernel
theorem dX12_loot_68 : decode cX12_loot 68 = .ok (.iadd, 1) := by decide +kernel
theorem dX12_loot_69 : decode cX12_loot 69 = .ok (.istore_n 2, 1) := by decide +kernel
theorem dX12_loot_70 : decode cX12_loot 70 = .ok (.iinc 3 1, 3) := by decide +kernel
theorem dX12_loot_73 : decode cX12_loot 73 = .ok (.goto (-35), 3) := by decide +kernel
theorem dX12_loot_76 : decode cX12_loot 76 = .ok (.aload_n 0, 1) := by decide +kernel
theorem dX12_loot_77 : decode cX12_loot 77 = .ok (.invokevirtual 355, 3) := by decide +kernel
theorem dX12_loot_80 : decode cX12_loot 80 = .ok (.iload_n 2, 1) := by decide +kernel
theorem dX12_loot_81 : decode cX12_loot 81 = .ok (.ireturn, 1) := by decide +kernel
theorem dX12_guards_0 : decode cX12_guards 0 = .ok (.aload_n 0, 1) := by decide +kernel
theorem dX12_guards_1 : decode cX12_guards 1 = .ok (.iconst 0, 1) := by decide +kernel
theorem dX12_guards_2 : decode cX12_guards 2 = .ok (.putfield 3, 3) := by decide +kernel
theorem dX12_guards_5 : decode cX12_guards 5 = .ok (.aload_n 0, 1) := by decide +kernel
theorem dX12_guards_6 : decode cX12_guards 6 = .ok (.iload_n 1, 1) := by decide +kernel
theorem dX12_guards_7 : decode cX12_guards 7 = .ok (.iconst 0, 1) := by decide +kernel
theorem dX12_guards_8 : decode cX12_guards 8 = .ok (.bipush 8, 2) := by decide +kernel
theorem dX12_guards_10 : decode cX12_guards 10 = .ok (.invokestatic 75, 3) := by decide +kernel
theorem dX12_guards_13 : decode cX12_guards 13 = .ok (.ifCond .eq 13, 3) := by decide +kernel
theorem dX12_guards_16 : decode cX12_guards 16 = .ok (.iload_n 2, 1) := by decide +kernel
theorem dX12_guards_17 : decode cX12_guards 17 = .ok (.iconst 0, 1) := by decide +kernel
theorem dX12_guards_18 : decode cX12_guards 18 = .ok (.bipush 99, 2) := by decide +kernel
theorem dX12_guards_20 : decode cX12_guards 20 = .ok (.invokestatic 75, 3) := by decide +kernel
theorem dX12_guards_23 : decode cX12_guards 23 = .ok (.ifCond .ne 7, 3) := by decide +kernel
theorem dX12_guards_26 : decode cX12_guards 26 = .ok (.iconst 1, 1) := by decide +kernel
theorem dX12_guards_27 : decode cX12_guards 27 = .ok (.goto 4, 3) := by decide +kernel
theorem dX12_guards_30 : decode cX12_guards 30 = .ok (.iconst 0, 1) := by decide +kernel
theorem dX12_guards_31 : decode cX12_guards 31 = .ok (.iconst 1, 1) := by decide +kernel
theorem dX12_guards_32 : decode cX12_guards 32 = .ok (.invokevirtual 242, 3) := by decide +kernel
theorem dX12_guards_35 : decode cX12_guards 35 = .ok (.ifCond .eq 5, 3) := by decide +kernel
theorem dX12_guards_38 : decode cX12_guards 38 = .ok (.iconst 0, 1) := by decide +kernel
theorem dX12_guards_39 : decode cX12_guards 39 = .ok (.ireturn, 1) := by decide +kernel
theorem dX12_guards_40 : decode cX12_guards 40 = .ok (.iconst (-1), 1) := by decide +kernel
theorem dX12_guards_41 : decode cX12_guards 41 = .ok (.istore_n 3, 1) := by decide +kernel
theorem dX12_guards_42 : decode cX12_guards 42 = .ok (.iconst 4, 1) := by decide +kernel
theorem dX12_guards_43 : decode cX12_guards 43 = .ok (.istore 4, 2) := by decide +kernel
theorem dX12_guards_45 : decode cX12_guards 45 = .ok (.iconst 0, 1) := by decide +kernel
theorem dX12_guards_46 : decode cX12_guards 46 = .ok (.istore 5, 2) := by decide +kernel
theorem dX12_guards_48 : decode cX12_guards 48 = .ok (.iload 5, 2) := by decide +kernel
theorem dX12_guards_50 : decode cX12_guards 50 = .ok (.iconst 1, 1) := by decide +kernel
theorem dX12_guards_51 : decode cX12_guards 51 = .ok (.aload_n 0, 1) := by decide +kernel
theorem dX12_guards_52 : decode cX12_guards 52 = .ok (.invokevirtual 79, 3) := by decide +kernel
theorem dX12_guards_55 : decode cX12_guards 55 = .ok (.ishl, 1) := by decide +kernel
theorem dX12_guards_56 : decode cX12_guards 56 = .ok (.if_icmp .ge 43, 3) := by decide +kernel
theorem dX12_guards_59 : decode cX12_guards 59 = .ok (.iload 5, 2) := by decide +kernel
theorem dX12_guards_61 : decode cX12_guards 61 = .ok (.invokestatic 358, 3) := by decide +kernel
theorem dX12_guards_64 : decode cX12_guards 64 = .ok (.iload 4, 2) := by decide +kernel
theorem dX12_guards_66 : decode cX12_guards 66 = .ok (.if_icmp .ge 27, 3) := by decide +kernel
theorem dX12_guards_69 : decode cX12_guards 69 = .ok (.aload_n 0, 1) := by decide +kernel
theorem dX12_guards_70 : decode cX12_guards 70 = .ok (.iload_n 1, 1) := by decide +kernel
theorem dX12_guards_71 : decode cX12_guards 71 = .ok (.iload 5, 2) := by decide +kernel
theorem dX12_guards_73 : decode cX12_guards 73 = .ok (.invokevirtual 363, 3) := by decide +kernel
theorem dX12_guards_76 : decode cX12_guards 76 = .ok (.iload_n 2, 1) := by decide +kernel
theorem dX12_guards_77 : decode cX12_guards 77 = .ok (.if_icmp .le 6, 3) := by decide +kernel
theorem dX12_guards_80 : decode cX12_guards 80 = .ok (.goto 13, 3) := by decide +kernel
theorem dX12_guards_83 : decode cX12_guards 83 = .ok (.iload 5, 2) := by decide +kernel
theorem dX12_guards_85 : decode cX12_guards 85 = .ok (.istore_n 3, 1) := by decide +kernel
theorem dX12_guards_86 : decode cX12_guards 86 = .ok (.iload 5, 2) := by decide +kernel
theorem dX12_guards_88 : decode cX12_guards 88 = .ok (.invokestatic 358, 3) := by decide +kernel
theorem dX12_guards_91 : decode cX12_guards 91 = .ok (.istore 4, 2) := by decide +kernel
theorem dX12_guards_93 : decode cX12_guards 93 = .ok (.iinc 5 1, 3) := by decide +kernel
theorem dX12_guards_96 : decode cX12_guards 96 = .ok (.goto (-48), 3) := by decide +kernel
theorem dX12_guards_99 : decode cX12_guards 99 = .ok (.iload_n 3, 1) := by decide +kernel
theorem dX12_guards_100 : decode cX12_guards 100 = .ok (.ireturn, 1) := by decide +kernel
theorem dX12_snowsAndSteals_0 : decode cX12_snowsAndSteals 0 = .ok (.iload_n 1, 1) := by decide +kernel
theorem dX12_snowsAndSteals_1 : decode cX12_snowsAndSteals 1 = .ok (.ifCond .eq 55, 3) := by decide +kernel
theorem dX12_snowsAndSteals_4 : decode cX12_snowsAndSteals 4 = .ok (.aload_n 0, 1) := by decide +kernel
theorem dX12_snowsAndSteals_5 : decode cX12_snowsAndSteals 5 = .ok (.getfield 13, 3) := by decide +kernel
theorem dX12_snowsAndSteals_8 : decode cX12_snowsAndSteals 8 = .ok (.iconst 5, 1) := by decide +kernel
theorem dX12_snowsAndSteals_9 : decode cX12_snowsAndSteals 9 = .ok (.aload_n 0, 1) := by decide +kernel
theorem dX12_snowsAndSteals_10 : decode cX12_snowsAndSteals 10 = .ok (.bipush 100, 2) := by decide +kernel
theorem dX12_snowsAndSteals_12 : decode cX12_snowsAndSteals 12 = .ok (.invokevirtual 366, 3) := by decide +kernel
theorem dX12_snowsAndSteals_15 : decode cX12_snowsAndSteals 15 = .ok (.aload_n 0, 1) := by decide +kernel
theorem dX12_snowsAndSteals_16 : decode cX12_snowsAndSteals 16 = .ok (.getfield 13, 3) := by decide +kernel
theorem dX12_snowsAndSteals_19 : decode cX12_snowsAndSteals 19 = .ok (.bipush 7, 2) := by decide +kernel
theorem dX12_snowsAndSteals_21 : decode cX12_snowsAndSteals 21 = .ok (.iaload, 1) := by decide +kernel
theorem dX12_snowsAndSteals_22 : decode cX12_snowsAndSteals 22 = .ok (.if_icmp .ge 24, 3) := by decide +kernel
theorem dX12_snowsAndSteals_25 : decode cX12_snowsAndSteals 25 = .ok (.bipush 99, 2) := by decide +kernel
theorem dX12_snowsAndSteals_27 : decode cX12_snowsAndSteals 27 = .ok (.aload_n 0, 1) := by decide +kernel
theorem dX12_snowsAndSteals_28 : decode cX12_snowsAndSteals 28 = .ok (.getfield 13, 3) := by decide +kernel
theorem dX12_snowsAndSteals_31 : decode cX12_snowsAndSteals 31 = .ok (.iconst 5, 1) := by decide +kernel
theorem dX12_snowsAndSteals_32 : decode cX12_snowsAndSteals 32 = .ok (.iaload, 1) := by decide +kernel
theorem dX12_snowsAndSteals_33 : decode cX12_snowsAndSteals 33 = .ok (.aload_n 0, 1) := by decide +kernel
theorem dX12_snowsAndSteals_34 : decode cX12_snowsAndSteals 34 = .ok (.bipush 10, 2) := by decide +kernel
theorem dX12_snowsAndSteals_36 : decode cX12_snowsAndSteals 36 = .ok (.invokevirtual 366, 3) := by decide +kernel
theorem dX12_snowsAndSteals_39 : decode cX12_snowsAndSteals 39 = .ok (.iadd, 1) := by decide +kernel
theorem dX12_snowsAndSteals_40 : decode cX12_snowsAndSteals 40 = .ok (.invokestatic 258, 3) := by decide +kernel
theorem dX12_snowsAndSteals_43 : decode cX12_snowsAndSteals 43 = .ok (.goto 11, 3) := by decide +kernel
theorem dX12_snowsAndSteals_46 : decode cX12_snowsAndSteals 46 = .ok (.aload_n 0, 1) := by decide +kernel
theorem dX12_snowsAndSteals_47 : decode cX12_snowsAndSteals 47 = .ok (.getfield 13, 3) := by decide +kernel
theorem dX12_snowsAndSteals_50 : decode cX12_snowsAndSteals 50 = .ok (.iconst 5, 1) := by decide +kernel
theorem dX12_snowsAndSteals_51 : decode cX12_snowsAndSteals 51 = .ok (.iaload, 1) := by decide +kernel
theorem dX12_snowsAndSteals_52 : decode cX12_snowsAndSteals 52 = .ok (.iconst 2, 1) := by decide +kernel
theorem dX12_snowsAndSteals_53 : decode cX12_snowsAndSteals 53 = .ok (.idiv, 1) := by decide +kernel
theorem dX12_snowsAndSteals_54 : decode cX12_snowsAndSteals 54 = .ok (.iastore, 1) := by decide +kernel
theorem dX12_snowsAndSteals_55 : decode cX12_snowsAndSteals 55 = .ok (.return_, 1) := by decide +kernel
theorem dX12_snowsAndSteals_56 : decode cX12_snowsAndSteals 56 = .ok (.aload_n 0, 1) := by decide +kernel
theorem dX12_snowsAndSteals_57 : decode cX12_snowsAndSteals 57 = .ok (.bipush 100, 2) := by decide +kernel
theorem dX12_snowsAndSteals_59 : decode cX12_snowsAndSteals 59 = .ok (.invokevirtual 366, 3) := by decide +kernel
theorem dX12_snowsAndSteals_62 : decode cX12_snowsAndSteals 62 = .ok (.aload_n 0, 1) := by decide +kernel
theorem dX12_snowsAndSteals_63 : decode cX12_snowsAndSteals 63 = .ok (.getfield 13, 3) := by decide +kernel
theorem dX12_snowsAndSteals_66 : decode cX12_snowsAndSteals 66 = .ok (.bipush 8, 2) := by decide +kernel
theorem dX12_snowsAndSteals_68 : decode cX12_snowsAndSteals 68 = .ok (.iaload, 1) := by decide +kernel
theorem dX12_snowsAndSteals_69 : decode cX12_snowsAndSteals 69 = .ok (.if_icmp .lt 4, 3) := by decide +kernel
theorem dX12_snowsAndSteals_72 : decode cX12_snowsAndSteals 72 = .ok (.return_, 1) := by decide +kernel
theorem dX12_snowsAndSteals_73 : decode cX12_snowsAndSteals 73 = .ok (.aload_n 0, 1) := by decide +kernel
theorem dX12_snowsAndSteals_74 : decode cX12_snowsAndSteals 74 = .ok (.iconst 0, 1) := by decide +kernel
theorem dX12_snowsAndSteals_75 : decode cX12_snowsAndSteals 75 = .ok (.invokevirtual 343, 3) := by decide +kernel
theorem dX12_snowsAndSteals_78 : decode cX12_snowsAndSteals 78 = .ok (.istore_n 2, 1) := by decide +kernel
theorem dX12_snowsAndSteals_79 : decode cX12_snowsAndSteals 79 = .ok (.aload_n 0, 1) := by decide +kernel
theorem dX12_snowsAndSteals_80 : decode cX12_snowsAndSteals 80 = .ok (.iconst 0, 1) := by decide +kernel
theorem dX12_snowsAndSteals_81 : decode cX12_snowsAndSteals 81 = .ok (.invokevirtual 352, 3) := by decide +kernel
theorem dX12_snowsAndSteals_84 : decode cX12_snowsAndSteals 84 = .ok (.istore_n 3, 1) := by decide +kernel
theorem dX12_snowsAndSteals_85 : decode cX12_snowsAndSteals 85 = .ok (.iload_n 3, 1) := by decide +kernel
theorem dX12_snowsAndSteals_86 : decode cX12_snowsAndSteals 86 = .ok (.iconst (-1), 1) := by decide +kernel
theorem dX12_snowsAndSteals_87 : decode cX12_snowsAndSteals 87 = .ok (.if_icmp .eq 11, 3) := by decide +kernel
theorem dX12_snowsAndSteals_90 : decode cX12_snowsAndSteals 90 = .ok (.aload_n 0, 1) := by decide +kernel
theorem dX12_snowsAndSteals_91 : decode cX12_snowsAndSteals 91 = .ok (.iload_n 3, 1) := by decide +kernel
theorem dX12_snowsAndSteals_92 : decode cX12_snowsAndSteals 92 = .ok (.iload_n 2, 1) := by decide +kernel
theorem dX12_snowsAndSteals_93 : decode cX12_snowsAndSteals 93 = .ok (.iconst (-1), 1) := by decide +kernel
theorem dX12_snowsAndSteals_94 : decode cX12_snowsAndSteals 94 = .ok (.iconst 1, 1) := by decide +kernel
theorem dX12_snowsAndSteals_95 : decode cX12_snowsAndSteals 95 = .ok (.invokevirtual 339, 3) := by decide +kernel
theorem dX12_snowsAndSteals_98 : decode cX12_snowsAndSteals 98 = .ok (.return_, 1) := by decide +kernel
theorem dX12_ages_0 : decode cX12_ages 0 = .ok (.aload_n 0, 1) := by decide +kernel
theorem dX12_ages_1 : decode cX12_ages 1 = .ok (.iload_n 1, 1) := by decide +kernel
theorem dX12_ages_2 : decode cX12_ages 2 = .ok (.invokevirtual 278, 3) := by decide +kernel
theorem dX12_ages_5 : decode cX12_ages 5 = .ok (.ifCond .eq 4, 3) := by decide +kernel
theorem dX12_ages_8 : decode cX12_ages 8 = .ok (.return_, 1) := by decide +kernel
theorem dX12_ages_9 : decode cX12_ages 9 = .ok (.aload_n 0, 1) := by decide +kernel
theorem dX12_ages_10 : decode cX12_ages 10 = .ok (.getfield 13, 3) := by decide +kernel
theorem dX12_ages_13 : decode cX12_ages 13 = .ok (.iload_n 1, 1) := by decide +kernel
theorem dX12_ages_14 : decode cX12_ages 14 = .ok (.iconst 1, 1) := by decide +kernel
theorem dX12_ages_15 : decode cX12_ages 15 = .ok (.invokestatic 59, 3) := by decide +kernel
theorem dX12_ages_18 : decode cX12_ages 18 = .ok (.bipush 99, 2) := by decide +kernel
theorem dX12_ages_20 : decode cX12_ages 20 = .ok (.aload_n 0, 1) := by decide +kernel
theorem dX12_ages_21 : decode cX12_ages 21 = .ok (.iload_n 1, 1) := by decide +kernel
theorem dX12_ages_22 : decode cX12_ages 22 = .ok (.iconst 1, 1) := by decide +kernel
theorem dX12_ages_23 : decode cX12_ages 23 = .ok (.invokevirtual 63, 3) := by decide +kernel
theorem dX12_ages_26 : decode cX12_ages 26 = .ok (.aload_n 0, 1) := by decide +kernel
theorem dX12_ages_27 : decode cX12_ages 27 = .ok (.iload_n 1, 1) := by decide +kernel
theorem dX12_ages_28 : decode cX12_ages 28 = .ok (.invokevirtual 312, 3) := by decide +kernel
theorem dX12_ages_31 : decode cX12_ages 31 = .ok (.iadd, 1) := by decide +kernel
theorem dX12_ages_32 : decode cX12_ages 32 = .ok (.invokestatic 258, 3) := by decide +kernel
theorem dX12_ages_35 : decode cX12_ages 35 = .ok (.iastore, 1) := by decide +kernel
theorem dX12_ages_36 : decode cX12_ages 36 = .ok (.aload_n 0, 1) := by decide +kernel
theorem dX12_ages_37 : decode cX12_ages 37 = .ok (.iconst 2, 1) := by decide +kernel
theorem dX12_ages_38 : decode cX12_ages 38 = .ok (.iload_n 1, 1) := by decide +kernel
theorem dX12_ages_39 : decode cX12_ages 39 = .ok (.imul, 1) := by decide +kernel
theorem dX12_ages_40 : decode cX12_ages 40 = .ok (.invokevirtual 269, 3) := by decide +kernel
theorem dX12_ages_43 : decode cX12_ages 43 = .ok (.aload_n 0, 1) := by decide +kernel
theorem dX12_ages_44 : decode cX12_ages 44 = .ok (.iconst 2, 1) := by decide +kernel
theorem dX12_ages_45 : decode cX12_ages 45 = .ok (.iload_n 1, 1) := by decide +kernel
theorem dX12_ages_46 : decode cX12_ages 46 = .ok (.imul, 1) := by decide +kernel
theorem dX12_ages_47 : decode cX12_ages 47 = .ok (.iconst 1, 1) := by decide +kernel
theorem dX12_ages_48 : decode cX12_ages 48 = .ok (.iadd, 1) := by decide +kernel
theorem dX12_ages_49 : decode cX12_ages 49 = .ok (.invokevirtual 269, 3) := by decide +kernel
theorem dX12_ages_52 : decode cX12_ages 52 = .ok (.iadd, 1) := by decide +kernel
theorem dX12_ages_53 : decode cX12_ages 53 = .ok (.aload_n 0, 1) := by decide +kernel
theorem dX12_ages_54 : decode cX12_ages 54 = .ok (.iload_n 1, 1) := by decide +kernel
theorem dX12_ages_55 : decode cX12_ages 55 = .ok (.iconst 0, 1) := by decide +kernel
theorem dX12_ages_56 : decode cX12_ages 56 = .ok (.invokevirtual 63, 3) := by decide +kernel
theorem dX12_ages_59 : decode cX12_ages 59 = .ok (.aload_n 0, 1) := by decide +kernel
theorem dX12_ages_60 : decode cX12_ages 60 = .ok (.iload_n 1, 1) := by decide +kernel
theorem dX12_ages_61 : decode cX12_ages 61 = .ok (.iconst 1, 1) := by decide +kernel
theorem dX12_ages_62 : decode cX12_ages 62 = .ok (.invokevirtual 63, 3) := by decide +kernel
theorem dX12_ages_65 : decode cX12_ages 65 = .ok (.isub, 1) := by decide +kernel
theorem dX12_ages_66 : decode cX12_ages 66 = .ok (.if_icmp .le 14, 3) := by decide +kernel
theorem dX12_ages_69 : decode cX12_ages 69 = .ok (.aload_n 0, 1) := by decide +kernel
theorem dX12_ages_70 : decode cX12_ages 70 = .ok (.getfield 13, 3) := by decide +kernel
theorem dX12_ages_73 : decode cX12_ages 73 = .ok (.iload_n 1, 1) := by decide +kernel
theorem dX12_ages_74 : decode cX12_ages 74 = .ok (.iconst 3, 1) := by decide +kernel
theorem dX12_ages_75 : decode cX12_ages 75 = .ok (.invokestatic 59, 3) := by decide +kernel
theorem dX12_ages_78 : decode cX12_ages 78 = .ok (.iconst 1, 1) := by decide +kernel
theorem dX12_ages_79 : decode cX12_ages 79 = .ok (.iastore, 1) := by decide +kernel
theorem dX12_ages_80 : decode cX12_ages 80 = .ok (.return_, 1) := by decide +kernel
theorem dX12_oneWeek_0 : decode cX12_oneWeek 0 = .ok (.iload_n 1, 1) := by decide +kernel
theorem dX12_oneWeek_1 : decode cX12_oneWeek 1 = .ok (.ifCond .ne 8, 3) := by decide +kernel
theorem dX12_oneWeek_4 : decode cX12_oneWeek 4 = .ok (.aload_n 0, 1) := by decide +kernel
theorem dX12_oneWeek_5 : decode cX12_oneWeek 5 = .ok (.iconst 1, 1) := by decide +kernel
theorem dX12_oneWeek_6 : decode cX12_oneWeek 6 = .ok (.invokevirtual 369, 3) := by decide +kernel
theorem dX12_oneWeek_9 : decode cX12_oneWeek 9 = .ok (.iconst 0, 1) := by decide +kernel
theorem dX12_oneWeek_10 : decode cX12_oneWeek 10 = .ok (.istore_n 2, 1) := by decide +kernel
theorem dX12_oneWeek_11 : decode cX12_oneWeek 11 = .ok (.iload_n 2, 1) := by decide +kernel
theorem dX12_oneWeek_12 : decode cX12_oneWeek 12 = .ok (.aload_n 0, 1) := by decide +kernel
theorem dX12_oneWeek_13 : decode cX12_oneWeek 13 = .ok (.invokevirtual 79, 3) := by decide +kernel
theorem dX12_oneWeek_16 : decode cX12_oneWeek 16 = .ok (.if_icmp .ge 46, 3) := by decide +kernel
theorem dX12_oneWeek_19 : decode cX12_oneWeek 19 = .ok (.aload_n 0, 1) := by decide +kernel
theorem dX12_oneWeek_20 : decode cX12_oneWeek 20 = .ok (.iload_n 2, 1) := by decide +kernel
theorem dX12_oneWeek_21 : decode cX12_oneWeek 21 = .ok (.invokestatic 275, 3) := by decide +kernel
theorem dX12_oneWeek_24 : decode cX12_oneWeek 24 = .ok (.invokevirtual 278, 3) := by decide +kernel
theorem dX12_oneWeek_27 : decode cX12_oneWeek 27 = .ok (.ifCond .ne 29, 3) := by decide +kernel
theorem dX12_oneWeek_30 : decode cX12_oneWeek 30 = .ok (.aload_n 0, 1) := by decide +kernel
theorem dX12_oneWeek_31 : decode cX12_oneWeek 31 = .ok (.getfield 13, 3) := by decide +kernel
theorem dX12_oneWeek_34 : decode cX12_oneWeek 34 = .ok (.iload_n 2, 1) := by decide +kernel
theorem dX12_oneWeek_35 : decode cX12_oneWeek 35 = .ok (.iconst 0, 1) := by decide +kernel
theorem dX12_oneWeek_36 : decode cX12_oneWeek 36 = .ok (.invokestatic 66, 3) := by decide +kernel
theorem dX12_oneWeek_39 : decode cX12_oneWeek 39 = .ok (.iconst 0, 1) := by decide +kernel
theorem dX12_oneWeek_40 : decode cX12_oneWeek 40 = .ok (.aload_n 0, 1) := by decide +kernel
theorem dX12_oneWeek_41 : decode cX12_oneWeek 41 = .ok (.iload_n 2, 1) := by decide +kernel
theorem dX12_oneWeek_42 : decode cX12_oneWeek 42 = .ok (.iconst 0, 1) := by decide +kernel
theorem dX12_oneWeek_43 : decode cX12_oneWeek 43 = .ok (.invokevirtual 255, 3) := by decide +kernel
theorem dX12_oneWeek_46 : decode cX12_oneWeek 46 = .ok (.aload_n 0, 1) := by decide +kernel
theorem dX12_oneWeek_47 : decode cX12_oneWeek 47 = .ok (.iload_n 2, 1) := by decide +kernel
theorem dX12_oneWeek_48 : decode cX12_oneWeek 48 = .ok (.invokevirtual 318, 3) := by decide +kernel
theorem dX12_oneWeek_51 : decode cX12_oneWeek 51 = .ok (.isub, 1) := by decide +kernel
theorem dX12_oneWeek_52 : decode cX12_oneWeek 52 = .ok (.invokestatic 263, 3) := by decide +kernel
theorem dX12_oneWeek_55 : decode cX12_oneWeek 55 = .ok (.iastore, 1) := by decide +kernel
theorem dX12_oneWeek_56 : decode cX12_oneWeek 56 = .ok (.iinc 2 1, 3) := by decide +kernel
theorem dX12_oneWeek_59 : decode cX12_oneWeek 59 = .ok (.goto (-48), 3) := by decide +kernel
theorem dX12_oneWeek_62 : decode cX12_oneWeek 62 = .ok (.iload_n 1, 1) := by decide +kernel
theorem dX12_oneWeek_63 : decode cX12_oneWeek 63 = .ok (.ifCond .ne 8, 3) := by decide +kernel
theorem dX12_oneWeek_66 : decode cX12_oneWeek 66 = .ok (.aload_n 0, 1) := by decide +kernel
theorem dX12_oneWeek_67 : decode cX12_oneWeek 67 = .ok (.iconst 0, 1) := by decide +kernel
theorem dX12_oneWeek_68 : decode cX12_oneWeek 68 = .ok (.invokevirtual 369, 3) := by decide +kernel
theorem dX12_oneWeek_71 : decode cX12_oneWeek 71 = .ok (.iconst 0, 1) := by decide +kernel
theorem dX12_oneWeek_72 : decode cX12_oneWeek 72 = .ok (.istore_n 2, 1) := by decide +kernel
theorem dX12_oneWeek_73 : decode cX12_oneWeek 73 = .ok (.iload_n 2, 1) := by decide +kernel
theorem dX12_oneWeek_74 : decode cX12_oneWeek 74 = .ok (.aload_n 0, 1) := by decide +kernel
theorem dX12_oneWeek_75 : decode cX12_oneWeek 75 = .ok (.invokevirtual 55, 3) := by decide +kernel
theorem dX12_oneWeek_78 : decode cX12_oneWeek 78 = .ok (.if_icmp .ge 14, 3) := by decide +kernel
theorem dX12_oneWeek_81 : decode cX12_oneWeek 81 = .ok (.aload_n 0, 1) := by decide +kernel
theorem dX12_oneWeek_82 : decode cX12_oneWeek 82 = .ok (.iload_n 2, 1) := by decide +kernel
theorem dX12_oneWeek_83 : decode cX12_oneWeek 83 = .ok (.invokevirtual 373, 3) := by decide +kernel
theorem dX12_oneWeek_86 : decode cX12_oneWeek 86 = .ok (.iinc 2 1, 3) := by decide +kernel
theorem dX12_oneWeek_89 : decode cX12_oneWeek 89 = .ok (.goto (-16), 3) := by decide +kernel
theorem dX12_oneWeek_92 : decode cX12_oneWeek 92 = .ok (.aload_n 0, 1) := by decide +kernel
theorem dX12_oneWeek_93 : decode cX12_oneWeek 93 = .ok (.getfield 13, 3) := by decide +kernel
theorem dX12_oneWeek_96 : decode cX12_oneWeek 96 = .ok (.iconst 4, 1) := by decide +kernel
theorem dX12_oneWeek_97 : decode cX12_oneWeek 97 = .ok (.sipush 9999, 3) := by decide +kernel
theorem dX12_oneWeek_100 : decode cX12_oneWeek 100 = .ok (.aload_n 0, 1) := by decide +kernel
theorem dX12_oneWeek_101 : decode cX12_oneWeek 101 = .ok (.getfield 13, 3) := by decide +kernel
theorem dX12_oneWeek_104 : decode cX12_oneWeek 104 = .ok (.iconst 4, 1) := by decide +kernel
theorem dX12_oneWeek_105 : decode cX12_oneWeek 105 = .ok (.iaload, 1) := by decide +kernel
theorem dX12_oneWeek_106 : decode cX12_oneWeek 106 = .ok (.iconst 1, 1) := by decide +kernel
theorem dX12_oneWeek_107 : decode cX12_oneWeek 107 = .ok (.iadd, 1) := by decide +kernel
theorem dX12_oneWeek_108 : decode cX12_oneWeek 108 = .ok (.invokestatic 258, 3) := by decide +kernel
theorem dX12_oneWeek_111 : decode cX12_oneWeek 111 = .ok (.iastore, 1) := by decide +kernel
theorem dX12_oneWeek_112 : decode cX12_oneWeek 112 = .ok (.return_, 1) := by decide +kernel
theorem dX12_goneOnes_0 : decode cX12_goneOnes 0 = .ok (.iconst 0, 1) := by decide +kernel
theorem dX12_goneOnes_1 : decode cX12_goneOnes 1 = .ok (.istore_n 1, 1) := by decide +kernel
theorem dX12_goneOnes_2 : decode cX12_goneOnes 2 = .ok (.iconst 0, 1) := by decide +kernel
theorem dX12_goneOnes_3 : decode cX12_goneOnes 3 = .ok (.istore_n 2, 1) := by decide +kernel
theorem dX12_goneOnes_4 : decode cX12_goneOnes 4 = .ok (.iload_n 2, 1) := by decide +kernel
theorem dX12_goneOnes_5 : decode cX12_goneOnes 5 = .ok (.aload_n 0, 1) := by decide +kernel
theorem dX12_goneOnes_6 : decode cX12_goneOnes 6 = .ok (.invokevirtual 82, 3) := by decide +kernel
theorem dX12_goneOnes_9 : decode cX12_goneOnes 9 = .ok (.if_icmp .ge 27, 3) := by decide +kernel
theorem dX12_goneOnes_12 : decode cX12_goneOnes 12 = .ok (.iload_n 1, 1) := by decide +kernel
theorem dX12_goneOnes_13 : decode cX12_goneOnes 13 = .ok (.aload_n 0, 1) := by decide +kernel
theorem dX12_goneOnes_14 : decode cX12_goneOnes 14 = .ok (.iload_n 2, 1) := by decide +kernel
theorem dX12_goneOnes_15 : decode cX12_goneOnes 15 = .ok (.invokevirtual 333, 3) := by decide +kernel
theorem dX12_goneOnes_18 : decode cX12_goneOnes 18 = .ok (.ifCond .eq 9, 3) := by decide +kernel
theorem dX12_goneOnes_21 : decode cX12_goneOnes 21 = .ok (.iconst 1, 1) := by decide +kernel
theorem dX12_goneOnes_22 : decode cX12_goneOnes 22 = .ok (.iload_n 2, 1) := by decide +kernel
theorem dX12_goneOnes_23 : decode cX12_goneOnes 23 = .ok (.ishl, 1) := by decide +kernel
theorem dX12_goneOnes_24 : decode cX12_goneOnes 24 = .ok (.goto 4, 3) := by decide +kernel
theorem dX12_goneOnes_27 : decode cX12_goneOnes 27 = .ok (.iconst 0, 1) := by decide +kernel
theorem dX12_goneOnes_28 : decode cX12_goneOnes 28 = .ok (.ior, 1) := by decide +kernel
theorem dX12_goneOnes_29 : decode cX12_goneOnes 29 = .ok (.istore_n 1, 1) := by decide +kernel
theorem dX12_goneOnes_30 : decode cX12_goneOnes 30 = .ok (.iinc 2 1, 3) := by decide +kernel
theorem dX12_goneOnes_33 : decode cX12_goneOnes 33 = .ok (.goto (-29), 3) := by decide +kernel
theorem dX12_goneOnes_36 : decode cX12_goneOnes 36 = .ok (.iload_n 1, 1) := by decide +kernel
theorem dX12_goneOnes_37 : decode cX12_goneOnes 37 = .ok (.ireturn, 1) := by decide +kernel
theorem dX12_brokenOnes_0 : decode cX12_brokenOnes 0 = .ok (.iconst 0, 1) := by decide +kernel
theorem dX12_brokenOnes_1 : decode cX12_brokenOnes 1 = .ok (.istore_n 1, 1) := by decide +kernel
theorem dX12_brokenOnes_2 : decode cX12_brokenOnes 2 = .ok (.iconst 0, 1) := by decide +kernel
theorem dX12_brokenOnes_3 : decode cX12_brokenOnes 3 = .ok (.istore_n 2, 1) := by decide +kernel
theorem dX12_brokenOnes_4 : decode cX12_brokenOnes 4 = .ok (.iload_n 2, 1) := by decide +kernel
theorem dX12_brokenOnes_5 : decode cX12_brokenOnes 5 = .ok (.aload_n 0, 1) := by decide +kernel
theorem dX12_brokenOnes_6 : decode cX12_brokenOnes 6 = .ok (.invokevirtual 55, 3) := by decide +kernel
theorem dX12_brokenOnes_9 : decode cX12_brokenOnes 9 = .ok (.if_icmp .ge 27, 3) := by decide +kernel
theorem dX12_brokenOnes_12 : decode cX12_brokenOnes 12 = .ok (.iload_n 1, 1) := by decide +kernel
theorem dX12_brokenOnes_13 : decode cX12_brokenOnes 13 = .ok (.aload_n 0, 1) := by decide +kernel
theorem dX12_brokenOnes_14 : decode cX12_brokenOnes 14 = .ok (.iload_n 2, 1) := by decide +kernel
theorem dX12_brokenOnes_15 : decode cX12_brokenOnes 15 = .ok (.invokevirtual 278, 3) := by decide +kernel
theorem dX12_brokenOnes_18 : decode cX12_brokenOnes 18 = .ok (.ifCond .eq 9, 3) := by decide +kernel
theorem dX12_brokenOnes_21 : decode cX12_brokenOnes 21 = .ok (.iconst 1, 1) := by decide +kernel
theorem dX12_brokenOnes_22 : decode cX12_brokenOnes 22 = .ok (.iload_n 2, 1) := by decide +kernel
theorem dX12_brokenOnes_23 : decode cX12_brokenOnes 23 = .ok (.ishl, 1) := by decide +kernel
theorem dX12_brokenOnes_24 : decode cX12_brokenOnes 24 = .ok (.goto 4, 3) := by decide +kernel
theorem dX12_brokenOnes_27 : decode cX12_brokenOnes 27 = .ok (.iconst 0, 1) := by decide +kernel
theorem dX12_brokenOnes_28 : decode cX12_brokenOnes 28 = .ok (.ior, 1) := by decide +kernel
theorem dX12_brokenOnes_29 : decode cX12_brokenOnes 29 = .ok (.istore_n 1, 1) := by decide +kernel
theorem dX12_brokenOnes_30 : decode cX12_brokenOnes 30 = .ok (.iinc 2 1, 3) := by decide +kernel
theorem dX12_brokenOnes_33 : decode cX12_brokenOnes 33 = .ok (.goto (-29), 3) := by decide +kernel
theorem dX12_brokenOnes_36 : decode cX12_brokenOnes 36 = .ok (.iload_n 1, 1) := by decide +kernel
theorem dX12_brokenOnes_37 : decode cX12_brokenOnes 37 = .ok (.ireturn, 1) := by decide +kernel
theorem dX12_weeks_0 : decode cX12_weeks 0 = .ok (.aload_n 0, 1) := by decide +kernel
theorem dX12_weeks_1 : decode cX12_weeks 1 = .ok (.iconst 0, 1) := by decide +kernel
theorem dX12_weeks_2 : decode cX12_weeks 2 = .ok (.putfield 3, 3) := by decide +kernel
theorem dX12_weeks_5 : decode cX12_weeks 5 = .ok (.aload_n 0, 1) := by decide +kernel
theorem dX12_weeks_6 : decode cX12_weeks 6 = .ok (.iload_n 1, 1) := by decide +kernel
theorem dX12_weeks_7 : decode cX12_weeks 7 = .ok (.iconst 1, 1) := by decide +kernel
theorem dX12_weeks_8 : decode cX12_weeks 8 = .ok (.bipush 60, 2) := by decide +kernel
theorem dX12_weeks_10 : decode cX12_weeks 10 = .ok (.invokestatic 75, 3) := by decide +kernel
theorem dX12_weeks_13 : decode cX12_weeks 13 = .ok (.ifCond .ne 7, 3) := by decide +kernel
theorem dX12_weeks_16 : decode cX12_weeks 16 = .ok (.iconst 1, 1) := by decide +kernel
theorem dX12_weeks_17 : decode cX12_weeks 17 = .ok (.goto 4, 3) := by decide +kernel
theorem dX12_weeks_20 : decode cX12_weeks 20 = .ok (.iconst 0, 1) := by decide +kernel
theorem dX12_weeks_21 : decode cX12_weeks 21 = .ok (.iconst 1, 1) := by decide +kernel
theorem dX12_weeks_22 : decode cX12_weeks 22 = .ok (.invokevirtual 242, 3) := by decide +kernel
theorem dX12_weeks_25 : decode cX12_weeks 25 = .ok (.ifCond .eq 5, 3) := by decide +kernel
theorem dX12_weeks_28 : decode cX12_weeks 28 = .ok (.iconst 0, 1) := by decide +kernel
theorem dX12_weeks_29 : decode cX12_weeks 29 = .ok (.ireturn, 1) := by decide +kernel
theorem dX12_weeks_30 : decode cX12_weeks 30 = .ok (.aload_n 0, 1) := by decide +kernel
theorem dX12_weeks_31 : decode cX12_weeks 31 = .ok (.invokevirtual 336, 3) := by decide +kernel
theorem dX12_weeks_34 : decode cX12_weeks 34 = .ok (.aload_n 0, 1) := by decide +kernel
theorem dX12_weeks_35 : decode cX12_weeks 35 = .ok (.invokevirtual 377, 3) := by decide +kernel
theorem dX12_weeks_38 : decode cX12_weeks 38 = .ok (.invokestatic 358, 3) := by decide +kernel
theorem dX12_weeks_41 : decode cX12_weeks 41 = .ok (.istore_n 2, 1) := by decide +kernel
theorem dX12_weeks_42 : decode cX12_weeks 42 = .ok (.iconst 0, 1) := by decide +kernel
theorem dX12_weeks_43 : decode cX12_weeks 43 = .ok (.istore_n 3, 1) := by decide +kernel
theorem dX12_weeks_44 : decode cX12_weeks 44 = .ok (.iload_n 3, 1) := by decide +kernel
theorem dX12_weeks_45 : decode cX12_weeks 45 = .ok (.iload_n 1, 1) := by decide +kernel
theorem dX12_weeks_46 : decode cX12_weeks 46 = .ok (.if_icmp .ge 14, 3) := by decide +kernel
theorem dX12_weeks_49 : decode cX12_weeks 49 = .ok (.aload_n 0, 1) := by decide +kernel
theorem dX12_weeks_50 : decode cX12_weeks 50 = .ok (.iconst 0, 1) := by decide +kernel
theorem dX12_weeks_51 : decode cX12_weeks 51 = .ok (.invokevirtual 380, 3) := by decide +kernel
theorem dX12_weeks_54 : decode cX12_weeks 54 = .ok (.iinc 3 1, 3) := by decide +kernel
theorem dX12_weeks_57 : decode cX12_weeks 57 = .ok (.goto (-13), 3) := by decide +kernel
theorem dX12_weeks_60 : decode cX12_weeks 60 = .ok (.aload_n 0, 1) := by decide +kernel
theorem dX12_weeks_61 : decode cX12_weeks 61 = .ok (.invokevirtual 377, 3) := by decide +kernel
theorem dX12_weeks_64 : decode cX12_weeks 64 = .ok (.invokestatic 358, 3) := by decide +kernel
theorem dX12_weeks_67 : decode cX12_weeks 67 = .ok (.iload_n 2, 1) := by decide +kernel
theorem dX12_weeks_68 : decode cX12_weeks 68 = .ok (.isub, 1) := by decide +kernel
theorem dX12_weeks_69 : decode cX12_weeks 69 = .ok (.ireturn, 1) := by decide +kernel
theorem dX12_goesAhead_0 : decode cX12_goesAhead 0 = .ok (.aload_n 0, 1) := by decide +kernel
theorem dX12_goesAhead_1 : decode cX12_goesAhead 1 = .ok (.invokevirtual 349, 3) := by decide +kernel
theorem dX12_goesAhead_4 : decode cX12_goesAhead 4 = .ok (.iconst 0, 1) := by decide +kernel
theorem dX12_goesAhead_5 : decode cX12_goesAhead 5 = .ok (.istore_n 2, 1) := by decide +kernel
theorem dX12_goesAhead_6 : decode cX12_goesAhead 6 = .ok (.iload_n 2, 1) := by decide +kernel
theorem dX12_goesAhead_7 : decode cX12_goesAhead 7 = .ok (.iload_n 1, 1) := by decide +kernel
theorem dX12_goesAhead_8 : decode cX12_goesAhead 8 = .ok (.if_icmp .ge 14, 3) := by decide +kernel
theorem dX12_goesAhead_11 : decode cX12_goesAhead 11 = .ok (.aload_n 0, 1) := by decide +kernel
theorem dX12_goesAhead_12 : decode cX12_goesAhead 12 = .ok (.iconst 1, 1) := by decide +kernel
theorem dX12_goesAhead_13 : decode cX12_goesAhead 13 = .ok (.invokevirtual 380, 3) := by decide +kernel
theorem dX12_goesAhead_16 : decode cX12_goesAhead 16 = .ok (.iinc 2 1, 3) := by decide +kernel
theorem dX12_goesAhead_19 : decode cX12_goesAhead 19 = .ok (.goto (-13), 3) := by decide +kernel
theorem dX12_goesAhead_22 : decode cX12_goesAhead 22 = .ok (.return_, 1) := by decide +kernel
theorem dX12_ahead_0 : decode cX12_ahead 0 = .ok (.aload_n 0, 1) := by decide +kernel
theorem dX12_ahead_1 : decode cX12_ahead 1 = .ok (.iconst 0, 1) := by decide +kernel
theorem dX12_ahead_2 : decode cX12_ahead 2 = .ok (.putfield 3, 3) := by decide +kernel
theorem dX12_ahead_5 : decode cX12_ahead 5 = .ok (.aload_n 0, 1) := by decide +kernel
theorem dX12_ahead_6 : decode cX12_ahead 6 = .ok (.aload_n 0, 1) := by decide +kernel
theorem dX12_ahead_7 : decode cX12_ahead 7 = .ok (.iload_n 1, 1) := by decide +kernel
theorem dX12_ahead_8 : decode cX12_ahead 8 = .ok (.invokevirtual 315, 3) := by decide +kernel
theorem dX12_ahead_11 : decode cX12_ahead 11 = .ok (.iconst 1, 1) := by decide +kernel
theorem dX12_ahead_12 : decode cX12_ahead 12 = .ok (.invokevirtual 242, 3) := by decide +kernel
theorem dX12_ahead_15 : decode cX12_ahead 15 = .ok (.ifCond .ne 26, 3) := by decide +kernel
theorem dX12_ahead_18 : decode cX12_ahead 18 = .ok (.aload_n 0, 1) := by decide +kernel
theorem dX12_ahead_19 : decode cX12_ahead 19 = .ok (.iload_n 2, 1) := by decide +kernel
theorem dX12_ahead_20 : decode cX12_ahead 20 = .ok (.iconst 0, 1) := by decide +kernel
theorem dX12_ahead_21 : decode cX12_ahead 21 = .ok (.bipush 100, 2) := by decide +kernel
theorem dX12_ahead_23 : decode cX12_ahead 23 = .ok (.invokestatic 75, 3) := by decide +kernel
theorem dX12_ahead_26 : decode cX12_ahead 26 = .ok (.ifCond .ne 7, 3) := by decide +kernel
theorem dX12_ahead_29 : decode cX12_ahead 29 = .ok (.iconst 1, 1) := by decide +kernel
theorem dX12_ahead_30 : decode cX12_ahead 30 = .ok (.goto 4, 3) := by decide +kernel
theorem dX12_ahead_33 : decode cX12_ahead 33 = .ok (.iconst 0, 1) := by decide +kernel
theorem dX12_ahead_34 : decode cX12_ahead 34 = .ok (.iconst 2, 1) := by decide +kernel
theorem dX12_ahead_35 : decode cX12_ahead 35 = .ok (.invokevirtual 242, 3) := by decide +kernel
theorem dX12_ahead_38 : decode cX12_ahead 38 = .ok (.ifCond .eq 5, 3) := by decide +kernel
theorem dX12_ahead_41 : decode cX12_ahead 41 = .ok (.iconst 0, 1) := by decide +kernel
theorem dX12_ahead_42 : decode cX12_ahead 42 = .ok (.ireturn, 1) := by decide +kernel
theorem dX12_ahead_43 : decode cX12_ahead 43 = .ok (.aload_n 0, 1) := by decide +kernel
theorem dX12_ahead_44 : decode cX12_ahead 44 = .ok (.iload_n 2, 1) := by decide +kernel
theorem dX12_ahead_45 : decode cX12_ahead 45 = .ok (.invokevirtual 383, 3) := by decide +kernel
theorem dX12_ahead_48 : decode cX12_ahead 48 = .ok (.iload_n 3, 1) := by decide +kernel
theorem dX12_ahead_49 : decode cX12_ahead 49 = .ok (.ifCond .eq 12, 3) := by decide +kernel
theorem dX12_ahead_52 : decode cX12_ahead 52 = .ok (.aload_n 0, 1) := by decide +kernel
theorem dX12_ahead_53 : decode cX12_ahead 53 = .ok (.iload_n 1, 1) := by decide +kernel
theorem dX12_ahead_54 : decode cX12_ahead 54 = .ok (.iconst 0, 1) := by decide +kernel
theorem dX12_ahead_55 : decode cX12_ahead 55 = .ok (.invokevirtual 255, 3) := by decide +kernel
theorem dX12_ahead_58 : decode cX12_ahead 58 = .ok (.goto 8, 3) := by decide +kernel
theorem dX12_ahead_61 : decode cX12_ahead 61 = .ok (.aload_n 0, 1) := by decide +kernel
theorem dX12_ahead_62 : decode cX12_ahead 62 = .ok (.iload_n 1, 1) := by decide +kernel
theorem dX12_ahead_63 : decode cX12_ahead 63 = .ok (.invokevirtual 287, 3) := by decide +kernel
theorem dX12_ahead_66 : decode cX12_ahead 66 = .ok (.istore 4, 2) := by decide +kernel
theorem dX12_ahead_68 : decode cX12_ahead 68 = .ok (.aload_n 0, 1) := by decide +kernel
theorem dX12_ahead_69 : decode cX12_ahead 69 = .ok (.invokevirtual 355, 3) := by decide +kernel
theorem dX12_ahead_72 : decode cX12_ahead 72 = .ok (.iload 4, 2) := by decide +kernel
theorem dX12_ahead_74 : decode cX12_ahead 74 = .ok (.ireturn, 1) := by decide +kernel
theorem dX12_rent_0 : decode cX12_rent 0 = .ok (.aload_n 0, 1) := by decide +kernel
theorem dX12_rent_1 : decode cX12_rent 1 = .ok (.iconst 0, 1) := by decide +kernel
theorem dX12_rent_2 : decode cX12_rent 2 = .ok (.putfield 3, 3) := by decide +kernel
theorem dX12_rent_5 : decode cX12_rent 5 = .ok (.aload_n 0, 1) := by decide +kernel
theorem dX12_rent_6 : decode cX12_rent 6 = .ok (.aload_n 0, 1) := by decide +kernel
theorem dX12_rent_7 : decode cX12_rent 7 = .ok (.iload_n 1, 1) := by decide +kernel
theorem dX12_rent_8 : decode cX12_rent 8 = .ok (.invokevirtual 315, 3) := by decide +kernel
theorem dX12_rent_11 : decode cX12_rent 11 = .ok (.iconst 1, 1) := by decide +kernel
theorem dX12_rent_12 : decode cX12_rent 12 = .ok (.invokevirtual 242, 3) := by decide +kernel
theorem dX12_rent_15 : decode cX12_rent 15 = .ok (.ifCond .ne 26, 3) := by decide +kernel
theorem dX12_rent_18 : decode cX12_rent 18 = .ok (.aload_n 0, 1) := by decide +kernel
theorem dX12_rent_19 : decode cX12_rent 19 = .ok (.iload_n 2, 1) := by decide +kernel
theorem dX12_rent_20 : decode cX12_rent 20 = .ok (.iconst 0, 1) := by decide +kernel
theorem dX12_rent_21 : decode cX12_rent 21 = .ok (.bipush 100, 2) := by decide +kernel
theorem dX12_rent_23 : decode cX12_rent 23 = .ok (.invokestatic 75, 3) := by decide +kernel
theorem dX12_rent_26 : decode cX12_rent 26 = .ok (.ifCond .ne 7, 3) := by decide +kernel
theorem dX12_rent_29 : decode cX12_rent 29 = .ok (.iconst 1, 1) := by decide +kernel
theorem dX12_rent_30 : decode cX12_rent 30 = .ok (.goto 4, 3) := by decide +kernel
theorem dX12_rent_33 : decode cX12_rent 33 = .ok (.iconst 0, 1) := by decide +kernel
theorem dX12_rent_34 : decode cX12_rent 34 = .ok (.iconst 2, 1) := by decide +kernel
theorem dX12_rent_35 : decode cX12_rent 35 = .ok (.invokevirtual 242, 3) := by decide +kernel
theorem dX12_rent_38 : decode cX12_rent 38 = .ok (.ifCond .eq 5, 3) := by decide +kernel
theorem dX12_rent_41 : decode cX12_rent 41 = .ok (.iconst 0, 1) := by decide +kernel
theorem dX12_rent_42 : decode cX12_rent 42 = .ok (.ireturn, 1) := by decide +kernel
theorem dX12_rent_43 : decode cX12_rent 43 = .ok (.aload_n 0, 1) := by decide +kernel
theorem dX12_rent_44 : decode cX12_rent 44 = .ok (.iload_n 1, 1) := by decide +kernel
theorem dX12_rent_45 : decode cX12_rent 45 = .ok (.iconst 0, 1) := by decide +kernel
theorem dX12_rent_46 : decode cX12_rent 46 = .ok (.invokevirtual 255, 3) := by decide +kernel
theorem dX12_rent_49 : decode cX12_rent 49 = .ok (.istore_n 3, 1) := by decide +kernel
theorem dX12_rent_50 : decode cX12_rent 50 = .ok (.aload_n 0, 1) := by decide +kernel
theorem dX12_rent_51 : decode cX12_rent 51 = .ok (.iload_n 2, 1) := by decide +kernel
theorem dX12_rent_52 : decode cX12_rent 52 = .ok (.invokevirtual 383, 3) := by decide +kernel
theorem dX12_rent_55 : decode cX12_rent 55 = .ok (.iload_n 3, 1) := by decide +kernel
theorem dX12_rent_56 : decode cX12_rent 56 = .ok (.aload_n 0, 1) := by decide +kernel
theorem dX12_rent_57 : decode cX12_rent 57 = .ok (.iload_n 1, 1) := by decide +kernel
theorem dX12_rent_58 : decode cX12_rent 58 = .ok (.iconst 0, 1) := by decide +kernel
theorem dX12_rent_59 : decode cX12_rent 59 = .ok (.invokevirtual 255, 3) := by decide +kernel
theorem dX12_rent_62 : decode cX12_rent 62 = .ok (.isub, 1) := by decide +kernel
theorem dX12_rent_63 : decode cX12_rent 63 = .ok (.istore 4, 2) := by decide +kernel
theorem dX12_rent_65 : decode cX12_rent 65 = .ok (.aload_n 0, 1) := by decide +kernel
theorem dX12_rent_66 : decode cX12_rent 66 = .ok (.invokevirtual 355, 3) := by decide +kernel
theorem dX12_rent_69 : decode cX12_rent 69 = .ok (.iload 4, 2) := by decide +kernel
theorem dX12_rent_71 : decode cX12_rent 71 = .ok (.ireturn, 1) := by decide +kernel
theorem dX12_isPoor_0 : decode cX12_isPoor 0 = .ok (.iconst 0, 1) := by decide +kernel
theorem dX12_isPoor_1 : decode cX12_isPoor 1 = .ok (.istore_n 1, 1) := by decide +kernel
theorem dX12_isPoor_2 : decode cX12_isPoor 2 = .ok (.iconst 0, 1) := by decide +kernel
theorem dX12_isPoor_3 : decode cX12_isPoor 3 = .ok (.istore_n 2, 1) := by decide +kernel
theorem dX12_isPoor_4 : decode cX12_isPoor 4 = .ok (.iload_n 2, 1) := by decide +kernel
theorem dX12_isPoor_5 : decode cX12_isPoor 5 = .ok (.aload_n 0, 1) := by decide +kernel
theorem dX12_isPoor_6 : decode cX12_isPoor 6 = .ok (.invokevirtual 79, 3) := by decide +kernel
theorem dX12_isPoor_9 : decode cX12_isPoor 9 = .ok (.if_icmp .ge 28, 3) := by decide +kernel
theorem dX12_isPoor_12 : decode cX12_isPoor 12 = .ok (.iload_n 1, 1) := by decide +kernel
theorem dX12_isPoor_13 : decode cX12_isPoor 13 = .ok (.ifCond .ne 12, 3) := by decide +kernel
theorem dX12_isPoor_16 : decode cX12_isPoor 16 = .ok (.aload_n 0, 1) := by decide +kernel
theorem dX12_isPoor_17 : decode cX12_isPoor 17 = .ok (.iload_n 2, 1) := by decide +kernel
theorem dX12_isPoor_18 : decode cX12_isPoor 18 = .ok (.iconst 0, 1) := by decide +kernel
theorem dX12_isPoor_19 : decode cX12_isPoor 19 = .ok (.invokevirtual 255, 3) := by decide +kernel
theorem dX12_isPoor_22 : decode cX12_isPoor 22 = .ok (.ifCond .ne 7, 3) := by decide +kernel
theorem dX12_isPoor_25 : decode cX12_isPoor 25 = .ok (.iconst 1, 1) := by decide +kernel
theorem dX12_isPoor_26 : decode cX12_isPoor 26 = .ok (.goto 4, 3) := by decide +kernel
theorem dX12_isPoor_29 : decode cX12_isPoor 29 = .ok (.iconst 0, 1) := by decide +kernel
theorem dX12_isPoor_30 : decode cX12_isPoor 30 = .ok (.istore_n 1, 1) := by decide +kernel
theorem dX12_isPoor_31 : decode cX12_isPoor 31 = .ok (.iinc 2 1, 3) := by decide +kernel
theorem dX12_isPoor_34 : decode cX12_isPoor 34 = .ok (.goto (-30), 3) := by decide +kernel
theorem dX12_isPoor_37 : decode cX12_isPoor 37 = .ok (.iload_n 1, 1) := by decide +kernel
theorem dX12_isPoor_38 : decode cX12_isPoor 38 = .ok (.ireturn, 1) := by decide +kernel
theorem dX12_poor_0 : decode cX12_poor 0 = .ok (.aload_n 0, 1) := by decide +kernel
theorem dX12_poor_1 : decode cX12_poor 1 = .ok (.iconst 0, 1) := by decide +kernel
theorem dX12_poor_2 : decode cX12_poor 2 = .ok (.putfield 3, 3) := by decide +kernel
theorem dX12_poor_5 : decode cX12_poor 5 = .ok (.iconst (-1), 1) := by decide +kernel
theorem dX12_poor_6 : decode cX12_poor 6 = .ok (.istore_n 1, 1) := by decide +kernel
theorem dX12_poor_7 : decode cX12_poor 7 = .ok (.aload_n 0, 1) := by decide +kernel
theorem dX12_poor_8 : decode cX12_poor 8 = .ok (.invokevirtual 349, 3) := by decide +kernel
theorem dX12_poor_11 : decode cX12_poor 11 = .ok (.iconst 0, 1) := by decide +kernel
theorem dX12_poor_12 : decode cX12_poor 12 = .ok (.istore_n 2, 1) := by decide +kernel
theorem dX12_poor_13 : decode cX12_poor 13 = .ok (.iload_n 2, 1) := by decide +kernel
theorem dX12_poor_14 : decode cX12_poor 14 = .ok (.bipush 100, 2) := by decide +kernel
theorem dX12_poor_16 : decode cX12_poor 16 = .ok (.if_icmp .gt 32, 3) := by decide +kernel
theorem dX12_poor_19 : decode cX12_poor 19 = .ok (.iload_n 1, 1) := by decide +kernel
theorem dX12_poor_20 : decode cX12_poor 20 = .ok (.iconst (-1), 1) := by decide +kernel
theorem dX12_poor_21 : decode cX12_poor 21 = .ok (.if_icmp .ne 27, 3) := by decide +kernel
theorem dX12_poor_24 : decode cX12_poor 24 = .ok (.aload_n 0, 1) := by decide +kernel
theorem dX12_poor_25 : decode cX12_poor 25 = .ok (.invokevirtual 386, 3) := by decide +kernel
theorem dX12_poor_28 : decode cX12_poor 28 = .ok (.ifCond .eq 7, 3) := by decide +kernel
theorem dX12_poor_31 : decode cX12_poor 31 = .ok (.iload_n 2, 1) := by decide +kernel
theorem dX12_poor_32 : decode cX12_poor 32 = .ok (.goto 4, 3) := by decide +kernel
theorem dX12_poor_35 : decode cX12_poor 35 = .ok (.iconst (-1), 1) := by decide +kernel
theorem dX12_poor_36 : decode cX12_poor 36 = .ok (.istore_n 1, 1) := by decide +kernel
theorem dX12_poor_37 : decode cX12_poor 37 = .ok (.aload_n 0, 1) := by decide +kernel
theorem dX12_poor_38 : decode cX12_poor 38 = .ok (.iconst 1, 1) := by decide +kernel
theorem dX12_poor_39 : decode cX12_poor 39 = .ok (.invokevirtual 380, 3) := by decide +kernel
theorem dX12_poor_42 : decode cX12_poor 42 = .ok (.iinc 2 1, 3) := by decide +kernel
theorem dX12_poor_45 : decode cX12_poor 45 = .ok (.goto (-32), 3) := by decide +kernel
theorem dX12_poor_48 : decode cX12_poor 48 = .ok (.aload_n 0, 1) := by decide +kernel
theorem dX12_poor_49 : decode cX12_poor 49 = .ok (.invokevirtual 355, 3) := by decide +kernel
theorem dX12_poor_52 : decode cX12_poor 52 = .ok (.iload_n 1, 1) := by decide +kernel
theorem dX12_poor_53 : decode cX12_poor 53 = .ok (.ireturn, 1) := by decide +kernel
theorem dX12_breaksIn_0 : decode cX12_breaksIn 0 = .ok (.bipush 101, 2) := by decide +kernel
theorem dX12_breaksIn_2 : decode cX12_breaksIn 2 = .ok (.istore_n 2, 1) := by decide +kernel
theorem dX12_breaksIn_3 : decode cX12_breaksIn 3 = .ok (.aload_n 0, 1) := by decide +kernel
theorem dX12_breaksIn_4 : decode cX12_breaksIn 4 = .ok (.invokevirtual 349, 3) := by decide +kernel
theorem dX12_breaksIn_7 : decode cX12_breaksIn 7 = .ok (.iconst 1, 1) := by decide +kernel
theorem dX12_breaksIn_8 : decode cX12_breaksIn 8 = .ok (.istore_n 3, 1) := by decide +kernel
theorem dX12_breaksIn_9 : decode cX12_breaksIn 9 = .ok (.iload_n 3, 1) := by decide +kernel
theorem dX12_breaksIn_10 : decode cX12_breaksIn 10 = .ok (.bipush 100, 2) := by decide +kernel
theorem dX12_breaksIn_12 : decode cX12_breaksIn 12 = .ok (.if_icmp .gt 35, 3) := by decide +kernel
theorem dX12_breaksIn_15 : decode cX12_breaksIn 15 = .ok (.iload_n 2, 1) := by decide +kernel
theorem dX12_breaksIn_16 : decode cX12_breaksIn 16 = .ok (.bipush 101, 2) := by decide +kernel
theorem dX12_breaksIn_18 : decode cX12_breaksIn 18 = .ok (.if_icmp .ne 29, 3) := by decide +kernel
theorem dX12_breaksIn_21 : decode cX12_breaksIn 21 = .ok (.aload_n 0, 1) := by decide +kernel
theorem dX12_breaksIn_22 : decode cX12_breaksIn 22 = .ok (.iconst 1, 1) := by decide +kernel
theorem dX12_breaksIn_23 : decode cX12_breaksIn 23 = .ok (.invokevirtual 380, 3) := by decide +kernel
theorem dX12_breaksIn_26 : decode cX12_breaksIn 26 = .ok (.aload_n 0, 1) := by decide +kernel
theorem dX12_breaksIn_27 : decode cX12_breaksIn 27 = .ok (.iload_n 1, 1) := by decide +kernel
theorem dX12_breaksIn_28 : decode cX12_breaksIn 28 = .ok (.invokevirtual 278, 3) := by decide +kernel
theorem dX12_breaksIn_31 : decode cX12_breaksIn 31 = .ok (.ifCond .eq 7, 3) := by decide +kernel
theorem dX12_breaksIn_34 : decode cX12_breaksIn 34 = .ok (.iload_n 3, 1) := by decide +kernel
theorem dX12_breaksIn_35 : decode cX12_breaksIn 35 = .ok (.goto 5, 3) := by decide +kernel
theorem dX12_breaksIn_38 : decode cX12_breaksIn 38 = .ok (.bipush 101, 2) := by decide +kernel
theorem dX12_breaksIn_40 : decode cX12_breaksIn 40 = .ok (.istore_n 2, 1) := by decide +kernel
theorem dX12_breaksIn_41 : decode cX12_breaksIn 41 = .ok (.iinc 3 1, 3) := by decide +kernel
theorem dX12_breaksIn_44 : decode cX12_breaksIn 44 = .ok (.goto (-35), 3) := by decide +kernel
theorem dX12_breaksIn_47 : decode cX12_breaksIn 47 = .ok (.aload_n 0, 1) := by decide +kernel
theorem dX12_breaksIn_48 : decode cX12_breaksIn 48 = .ok (.invokevirtual 355, 3) := by decide +kernel
theorem dX12_breaksIn_51 : decode cX12_breaksIn 51 = .ok (.iload_n 2, 1) := by decide +kernel
theorem dX12_breaksIn_52 : decode cX12_breaksIn 52 = .ok (.ireturn, 1) := by decide +kernel
theorem dX12_breaks_0 : decode cX12_breaks 0 = .ok (.aload_n 0, 1) := by decide +kernel
theorem dX12_breaks_1 : decode cX12_breaks 1 = .ok (.iconst 0, 1) := by decide +kernel
theorem dX12_breaks_2 : decode cX12_breaks 2 = .ok (.putfield 3, 3) := by decide +kernel
theorem dX12_breaks_5 : decode cX12_breaks 5 = .ok (.aload_n 0, 1) := by decide +kernel
theorem dX12_breaks_6 : decode cX12_breaks 6 = .ok (.aload_n 0, 1) := by decide +kernel
theorem dX12_breaks_7 : decode cX12_breaks 7 = .ok (.iload_n 1, 1) := by decide +kernel
theorem dX12_breaks_8 : decode cX12_breaks 8 = .ok (.invokevirtual 309, 3) := by decide +kernel
theorem dX12_breaks_11 : decode cX12_breaks 11 = .ok (.iconst 1, 1) := by decide +kernel
theorem dX12_breaks_12 : decode cX12_breaks 12 = .ok (.invokevirtual 242, 3) := by decide +kernel
theorem dX12_breaks_15 : decode cX12_breaks 15 = .ok (.ifCond .eq 5, 3) := by decide +kernel
theorem dX12_breaks_18 : decode cX12_breaks 18 = .ok (.iconst 0, 1) := by decide +kernel
theorem dX12_breaks_19 : decode cX12_breaks 19 = .ok (.ireturn, 1) := by decide +kernel
theorem dX12_breaks_20 : decode cX12_breaks 20 = .ok (.aload_n 0, 1) := by decide +kernel
theorem dX12_breaks_21 : decode cX12_breaks 21 = .ok (.iload_n 1, 1) := by decide +kernel
theorem dX12_breaks_22 : decode cX12_breaks 22 = .ok (.invokevirtual 278, 3) := by decide +kernel
theorem dX12_breaks_25 : decode cX12_breaks 25 = .ok (.ifCond .eq 8, 3) := by decide +kernel
theorem dX12_breaks_28 : decode cX12_breaks 28 = .ok (.bipush 101, 2) := by decide +kernel
theorem dX12_breaks_30 : decode cX12_breaks 30 = .ok (.goto 8, 3) := by decide +kernel
theorem dX12_breaks_33 : decode cX12_breaks 33 = .ok (.aload_n 0, 1) := by decide +kernel
theorem dX12_breaks_34 : decode cX12_breaks 34 = .ok (.iload_n 1, 1) := by decide +kernel
theorem dX12_breaks_35 : decode cX12_breaks 35 = .ok (.invokevirtual 389, 3) := by decide +kernel
theorem dX12_breaks_38 : decode cX12_breaks 38 = .ok (.istore_n 2, 1) := by decide +kernel
theorem dX12_breaks_39 : decode cX12_breaks 39 = .ok (.iload_n 2, 1) := by decide +kernel
theorem dX12_breaks_40 : decode cX12_breaks 40 = .ok (.bipush 101, 2) := by decide +kernel
theorem dX12_breaks_42 : decode cX12_breaks 42 = .ok (.if_icmp .ne 7, 3) := by decide +kernel
theorem dX12_breaks_45 : decode cX12_breaks 45 = .ok (.iconst (-1), 1) := by decide +kernel
theorem dX12_breaks_46 : decode cX12_breaks 46 = .ok (.goto 4, 3) := by decide +kernel
theorem dX12_breaks_49 : decode cX12_breaks 49 = .ok (.iload_n 2, 1) := by decide +kernel
theorem dX12_breaks_50 : decode cX12_breaks 50 = .ok (.ireturn, 1) := by decide +kernel
theorem dX12_more_0 : decode cX12_more 0 = .ok (.aload_n 0, 1) := by decide +kernel
theorem dX12_more_1 : decode cX12_more 1 = .ok (.iconst 0, 1) := by decide +kernel
theorem dX12_more_2 : decode cX12_more 2 = .ok (.putfield 3, 3) := by decide +kernel
theorem dX12_more_5 : decode cX12_more 5 = .ok (.aload_n 0, 1) := by decide +kernel
theorem dX12_more_6 : decode cX12_more 6 = .ok (.aload_n 0, 1) := by decide +kernel
theorem dX12_more_7 : decode cX12_more 7 = .ok (.iload_n 1, 1) := by decide +kernel
theorem dX12_more_8 : decode cX12_more 8 = .ok (.invokevirtual 309, 3) := by decide +kernel
theorem dX12_more_11 : decode cX12_more 11 = .ok (.iconst 1, 1) := by decide +kernel
theorem dX12_more_12 : decode cX12_more 12 = .ok (.invokevirtual 242, 3) := by decide +kernel
theorem dX12_more_15 : decode cX12_more 15 = .ok (.ifCond .eq 5, 3) := by decide +kernel
theorem dX12_more_18 : decode cX12_more 18 = .ok (.iconst 0, 1) := by decide +kernel
theorem dX12_more_19 : decode cX12_more 19 = .ok (.ireturn, 1) := by decide +kernel
theorem dX12_more_20 : decode cX12_more 20 = .ok (.aload_n 0, 1) := by decide +kernel
theorem dX12_more_21 : decode cX12_more 21 = .ok (.iload_n 1, 1) := by decide +kernel
theorem dX12_more_22 : decode cX12_more 22 = .ok (.invokevirtual 278, 3) := by decide +kernel
theorem dX12_more_25 : decode cX12_more 25 = .ok (.ifCond .eq 9, 3) := by decide +kernel
theorem dX12_more_28 : decode cX12_more 28 = .ok (.sipush (-10000), 3) := by decide +kernel
theorem dX12_more_31 : decode cX12_more 31 = .ok (.goto 34, 3) := by decide +kernel
theorem dX12_more_34 : decode cX12_more 34 = .ok (.aload_n 0, 1) := by decide +kernel
theorem dX12_more_35 : decode cX12_more 35 = .ok (.iload_n 1, 1) := by decide +kernel
theorem dX12_more_36 : decode cX12_more 36 = .ok (.iconst 0, 1) := by decide +kernel
theorem dX12_more_37 : decode cX12_more 37 = .ok (.invokevirtual 63, 3) := by decide +kernel
theorem dX12_more_40 : decode cX12_more 40 = .ok (.aload_n 0, 1) := by decide +kernel
theorem dX12_more_41 : decode cX12_more 41 = .ok (.iload_n 1, 1) := by decide +kernel
theorem dX12_more_42 : decode cX12_more 42 = .ok (.iconst 1, 1) := by decide +kernel
theorem dX12_more_43 : decode cX12_more 43 = .ok (.invokevirtual 63, 3) := by decide +kernel
theorem dX12_more_46 : decode cX12_more 46 = .ok (.isub, 1) := by decide +kernel
theorem dX12_more_47 : decode cX12_more 47 = .ok (.aload_n 0, 1) := by decide +kernel
theorem dX12_more_48 : decode cX12_more 48 = .ok (.iconst 2, 1) := by decide +kernel
theorem dX12_more_49 : decode cX12_more 49 = .ok (.iload_n 1, 1) := by decide +kernel
theorem dX12_more_50 : decode cX12_more 50 = .ok (.imul, 1) := by decide +kernel
theorem dX12_more_51 : decode cX12_more 51 = .ok (.invokevirtual 269, 3) := by decide +kernel
theorem dX12_more_54 : decode cX12_more 54 = .ok (.isub, 1) := by decide +kernel
theorem dX12_more_55 : decode cX12_more 55 = .ok (.aload_n 0, 1) := by decide +kernel
theorem dX12_more_56 : decode cX12_more 56 = .ok (.iconst 2, 1) := by decide +kernel
theorem dX12_more_57 : decode cX12_more 57 = .ok (.iload_n 1, 1) := by decide +kernel
theorem dX12_more_58 : decode cX12_more 58 = .ok (.imul, 1) := by decide +kernel
theorem dX12_more_59 : decode cX12_more 59 = .ok (.iconst 1, 1) := by decide +kernel
theorem dX12_more_60 : decode cX12_more 60 = .ok (.iadd, 1) := by decide +kernel
theorem dX12_more_61 : decode cX12_more 61 = .ok (.invokevirtual 269, 3) := by decide +kernel
theorem dX12_more_64 : decode cX12_more 64 = .ok (.isub, 1) := by decide +kernel
theorem dX12_more_65 : decode cX12_more 65 = .ok (.ireturn, 1) := by decide +kernel
theorem dX12_last_0 : decode cX12_last 0 = .ok (.aload_n 0, 1) := by decide +kernel
theorem dX12_last_1 : decode cX12_last 1 = .ok (.iconst 0, 1) := by decide +kernel
theorem dX12_last_2 : decode cX12_last 2 = .ok (.putfield 3, 3) := by decide +kernel
theorem dX12_last_5 : decode cX12_last 5 = .ok (.iconst (-1), 1) := by decide +kernel
theorem dX12_last_6 : decode cX12_last 6 = .ok (.istore_n 1, 1) := by decide +kernel
theorem dX12_last_7 : decode cX12_last 7 = .ok (.iconst 0, 1) := by decide +kernel
theorem dX12_last_8 : decode cX12_last 8 = .ok (.istore_n 2, 1) := by decide +kernel
theorem dX12_last_9 : decode cX12_last 9 = .ok (.iconst 0, 1) := by decide +kernel
theorem dX12_last_10 : decode cX12_last 10 = .ok (.istore_n 3, 1) := by decide +kernel
theorem dX12_last_11 : decode cX12_last 11 = .ok (.iload_n 3, 1) := by decide +kernel
theorem dX12_last_12 : decode cX12_last 12 = .ok (.aload_n 0, 1) := by decide +kernel
theorem dX12_last_13 : decode cX12_last 13 = .ok (.invokevirtual 55, 3) := by decide +kernel
theorem dX12_last_16 : decode cX12_last 16 = .ok (.if_icmp .ge 47, 3) := by decide +kernel
theorem dX12_last_19 : decode cX12_last 19 = .ok (.aload_n 0, 1) := by decide +kernel
theorem dX12_last_20 : decode cX12_last 20 = .ok (.iload_n 3, 1) := by decide +kernel
theorem dX12_last_21 : decode cX12_last 21 = .ok (.invokevirtual 278, 3) := by decide +kernel
theorem dX12_last_24 : decode cX12_last 24 = .ok (.ifCond .eq 7, 3) := by decide +kernel
theorem dX12_last_27 : decode cX12_last 27 = .ok (.iconst 0, 1) := by decide +kernel
theorem dX12_last_28 : decode cX12_last 28 = .ok (.goto 8, 3) := by decide +kernel
theorem dX12_last_31 : decode cX12_last 31 = .ok (.aload_n 0, 1) := by decide +kernel
theorem dX12_last_32 : decode cX12_last 32 = .ok (.iload_n 3, 1) := by decide +kernel
theorem dX12_last_33 : decode cX12_last 33 = .ok (.invokevirtual 389, 3) := by decide +kernel
theorem dX12_last_36 : decode cX12_last 36 = .ok (.istore 4, 2) := by decide +kernel
theorem dX12_last_38 : decode cX12_last 38 = .ok (.iload 4, 2) := by decide +kernel
theorem dX12_last_40 : decode cX12_last 40 = .ok (.iload_n 2, 1) := by decide +kernel
theorem dX12_last_41 : decode cX12_last 41 = .ok (.if_icmp .le 7, 3) := by decide +kernel
theorem dX12_last_44 : decode cX12_last 44 = .ok (.iload_n 3, 1) := by decide +kernel
theorem dX12_last_45 : decode cX12_last 45 = .ok (.goto 4, 3) := by decide +kernel
theorem dX12_last_48 : decode cX12_last 48 = .ok (.iload_n 1, 1) := by decide +kernel
theorem dX12_last_49 : decode cX12_last 49 = .ok (.istore_n 1, 1) := by decide +kernel
theorem dX12_last_50 : decode cX12_last 50 = .ok (.iload_n 2, 1) := by decide +kernel
theorem dX12_last_51 : decode cX12_last 51 = .ok (.iload 4, 2) := by decide +kernel
theorem dX12_last_53 : decode cX12_last 53 = .ok (.invokestatic 263, 3) := by decide +kernel
theorem dX12_last_56 : decode cX12_last 56 = .ok (.istore_n 2, 1) := by decide +kernel
theorem dX12_last_57 : decode cX12_last 57 = .ok (.iinc 3 1, 3) := by decide +kernel
theorem dX12_last_60 : decode cX12_last 60 = .ok (.goto (-49), 3) := by decide +kernel
theorem dX12_last_63 : decode cX12_last 63 = .ok (.iload_n 1, 1) := by decide +kernel
theorem dX12_last_64 : decode cX12_last 64 = .ok (.ireturn, 1) := by decide +kernel
theorem dX12_view_0 : decode cX12_view 0 = .ok (.aload_n 0, 1) := by decide +kernel
theorem dX12_view_1 : decode cX12_view 1 = .ok (.iconst 0, 1) := by decide +kernel
theorem dX12_view_2 : decode cX12_view 2 = .ok (.putfield 3, 3) := by decide +kernel
theorem dX12_view_5 : decode cX12_view 5 = .ok (.iconst 0, 1) := by decide +kernel
theorem dX12_view_6 : decode cX12_view 6 = .ok (.istore_n 1, 1) := by decide +kernel
theorem dX12_view_7 : decode cX12_view 7 = .ok (.iconst 0, 1) := by decide +kernel
theorem dX12_view_8 : decode cX12_view 8 = .ok (.istore_n 2, 1) := by decide +kernel
theorem dX12_view_9 : decode cX12_view 9 = .ok (.iload_n 2, 1) := by decide +kernel
theorem dX12_view_10 : decode cX12_view 10 = .ok (.aload_n 0, 1) := by decide +kernel
theorem dX12_view_11 : decode cX12_view 11 = .ok (.invokevirtual 79, 3) := by decide +kernel
theorem dX12_view_14 : decode cX12_view 14 = .ok (.if_icmp .ge 28, 3) := by decide +kernel
theorem dX12_view_17 : decode cX12_view 17 = .ok (.iload_n 1, 1) := by decide +kernel
theorem dX12_view_18 : decode cX12_view 18 = .ok (.aload_n 0, 1) := by decide +kernel
theorem dX12_view_19 : decode cX12_view 19 = .ok (.iload_n 2, 1) := by decide +kernel
theorem dX12_view_20 : decode cX12_view 20 = .ok (.invokevirtual 287, 3) := by decide +kernel
theorem dX12_view_23 : decode cX12_view 23 = .ok (.iconst 5, 1) := by decide +kernel
theorem dX12_view_24 : decode cX12_view 24 = .ok (.if_icmp .le 9, 3) := by decide +kernel
theorem dX12_view_27 : decode cX12_view 27 = .ok (.iconst 1, 1) := by decide +kernel
theorem dX12_view_28 : decode cX12_view 28 = .ok (.iload_n 2, 1) := by decide +kernel
theorem dX12_view_29 : decode cX12_view 29 = .ok (.ishl, 1) := by decide +kernel
theorem dX12_view_30 : decode cX12_view 30 = .ok (.goto 4, 3) := by decide +kernel
theorem dX12_view_33 : decode cX12_view 33 = .ok (.iconst 0, 1) := by decide +kernel
theorem dX12_view_34 : decode cX12_view 34 = .ok (.ior, 1) := by decide +kernel
theorem dX12_view_35 : decode cX12_view 35 = .ok (.istore_n 1, 1) := by decide +kernel
theorem dX12_view_36 : decode cX12_view 36 = .ok (.iinc 2 1, 3) := by decide +kernel
theorem dX12_view_39 : decode cX12_view 39 = .ok (.goto (-30), 3) := by decide +kernel
theorem dX12_view_42 : decode cX12_view 42 = .ok (.iload_n 1, 1) := by decide +kernel
theorem dX12_view_43 : decode cX12_view 43 = .ok (.ireturn, 1) := by decide +kernel
theorem dX12_well_0 : decode cX12_well 0 = .ok (.aload_n 0, 1) := by decide +kernel
theorem dX12_well_1 : decode cX12_well 1 = .ok (.iconst 0, 1) := by decide +kernel
theorem dX12_well_2 : decode cX12_well 2 = .ok (.putfield 3, 3) := by decide +kernel
theorem dX12_well_5 : decode cX12_well 5 = .ok (.iconst 0, 1) := by decide +kernel
theorem dX12_well_6 : decode cX12_well 6 = .ok (.istore_n 1, 1) := by decide +kernel
theorem dX12_well_7 : decode cX12_well 7 = .ok (.iconst 0, 1) := by decide +kernel
theorem dX12_well_8 : decode cX12_well 8 = .ok (.istore_n 2, 1) := by decide +kernel
theorem dX12_well_9 : decode cX12_well 9 = .ok (.iload_n 2, 1) := by decide +kernel
theorem dX12_well_10 : decode cX12_well 10 = .ok (.aload_n 0, 1) := by decide +kernel
theorem dX12_well_11 : decode cX12_well 11 = .ok (.invokevirtual 79, 3) := by decide +kernel
theorem dX12_well_14 : decode cX12_well 14 = .ok (.if_icmp .ge 28, 3) := by decide +kernel
theorem dX12_well_17 : decode cX12_well 17 = .ok (.iload_n 1, 1) := by decide +kernel
theorem dX12_well_18 : decode cX12_well 18 = .ok (.aload_n 0, 1) := by decide +kernel
theorem dX12_well_19 : decode cX12_well 19 = .ok (.iload_n 2, 1) := by decide +kernel
theorem dX12_well_20 : decode cX12_well 20 = .ok (.invokevirtual 287, 3) := by decide +kernel
theorem dX12_well_23 : decode cX12_well 23 = .ok (.iconst 5, 1) := by decide +kernel
theorem dX12_well_24 : decode cX12_well 24 = .ok (.if_icmp .ge 9, 3) := by decide +kernel
theorem dX12_well_27 : decode cX12_well 27 = .ok (.iconst 1, 1) := by decide +kernel
theorem dX12_well_28 : decode cX12_well 28 = .ok (.iload_n 2, 1) := by decide +kernel
theorem dX12_well_29 : decode cX12_well 29 = .ok (.ishl, 1) := by decide +kernel
theorem dX12_well_30 : decode cX12_well 30 = .ok (.goto 4, 3) := by decide +kernel
theorem dX12_well_33 : decode cX12_well 33 = .ok (.iconst 0, 1) := by decide +kernel
theorem dX12_well_34 : decode cX12_well 34 = .ok (.ior, 1) := by decide +kernel
theorem dX12_well_35 : decode cX12_well 35 = .ok (.istore_n 1, 1) := by decide +kernel
theorem dX12_well_36 : decode cX12_well 36 = .ok (.iinc 2 1, 3) := by decide +kernel
theorem dX12_well_39 : decode cX12_well 39 = .ok (.goto (-30), 3) := by decide +kernel
theorem dX12_well_42 : decode cX12_well 42 = .ok (.iload_n 1, 1) := by decide +kernel
theorem dX12_well_43 : decode cX12_well 43 = .ok (.ireturn, 1) := by decide +kernel
theorem dX12_twins_0 : decode cX12_twins 0 = .ok (.aload_n 0, 1) := by decide +kernel
theorem dX12_twins_1 : decode cX12_twins 1 = .ok (.iconst 0, 1) := by decide +kernel
theorem dX12_twins_2 : decode cX12_twins 2 = .ok (.putfield 3, 3) := by decide +kernel
theorem dX12_twins_5 : decode cX12_twins 5 = .ok (.iconst 0, 1) := by decide +kernel
theorem dX12_twins_6 : decode cX12_twins 6 = .ok (.istore_n 1, 1) := by decide +kernel
theorem dX12_twins_7 : decode cX12_twins 7 = .ok (.iconst 0, 1) := by decide +kernel
theorem dX12_twins_8 : decode cX12_twins 8 = .ok (.istore_n 2, 1) := by decide +kernel
theorem dX12_twins_9 : decode cX12_twins 9 = .ok (.iload_n 2, 1) := by decide +kernel
theorem dX12_twins_10 : decode cX12_twins 10 = .ok (.aload_n 0, 1) := by decide +kernel
theorem dX12_twins_11 : decode cX12_twins 11 = .ok (.invokevirtual 55, 3) := by decide +kernel
theorem dX12_twins_14 : decode cX12_twins 14 = .ok (.if_icmp .ge 59, 3) := by decide +kernel
theorem dX12_twins_17 : decode cX12_twins 17 = .ok (.iconst 0, 1) := by decide +kernel
theorem dX12_twins_18 : decode cX12_twins 18 = .ok (.istore_n 3, 1) := by decide +kernel
theorem dX12_twins_19 : decode cX12_twins 19 = .ok (.iload_n 3, 1) := by decide +kernel
theorem dX12_twins_20 : decode cX12_twins 20 = .ok (.iload_n 2, 1) := by decide +kernel
theorem dX12_twins_21 : decode cX12_twins 21 = .ok (.if_icmp .ge 46, 3) := by decide +kernel
theorem dX12_twins_24 : decode cX12_twins 24 = .ok (.iload_n 1, 1) := by decide +kernel
theorem dX12_twins_25 : decode cX12_twins 25 = .ok (.aload_n 0, 1) := by decide +kernel
theorem dX12_twins_26 : decode cX12_twins 26 = .ok (.iload_n 2, 1) := by decide +kernel
theorem dX12_twins_27 : decode cX12_twins 27 = .ok (.invokevirtual 278, 3) := by decide +kernel
theorem dX12_twins_30 : decode cX12_twins 30 = .ok (.ifCond .ne 28, 3) := by decide +kernel
theorem dX12_twins_33 : decode cX12_twins 33 = .ok (.aload_n 0, 1) := by decide +kernel
theorem dX12_twins_34 : decode cX12_twins 34 = .ok (.iload_n 3, 1) := by decide +kernel
theorem dX12_twins_35 : decode cX12_twins 35 = .ok (.invokevirtual 278, 3) := by decide +kernel
theorem dX12_twins_38 : decode cX12_twins 38 = .ok (.ifCond .ne 20, 3) := by decide +kernel
theorem dX12_twins_41 : decode cX12_twins 41 = .ok (.aload_n 0, 1) := by decide +kernel
theorem dX12_twins_42 : decode cX12_twins 42 = .ok (.iload_n 2, 1) := by decide +kernel
theorem dX12_twins_43 : decode cX12_twins 43 = .ok (.invokevirtual 281, 3) := by decide +kernel
theorem dX12_twins_46 : decode cX12_twins 46 = .ok (.aload_n 0, 1) := by decide +kernel
theorem dX12_twins_47 : decode cX12_twins 47 = .ok (.iload_n 3, 1) := by decide +kernel
theorem dX12_twins_48 : decode cX12_twins 48 = .ok (.invokevirtual 281, 3) := by decide +kernel
theorem dX12_twins_51 : decode cX12_twins 51 = .ok (.if_icmp .ne 7, 3) := by decide +kernel
theorem dX12_twins_54 : decode cX12_twins 54 = .ok (.iconst 1, 1) := by decide +kernel
theorem dX12_twins_55 : decode cX12_twins 55 = .ok (.goto 4, 3) := by decide +kernel
theorem dX12_twins_58 : decode cX12_twins 58 = .ok (.iconst 0, 1) := by decide +kernel
theorem dX12_twins_59 : decode cX12_twins 59 = .ok (.iadd, 1) := by decide +kernel
theorem dX12_twins_60 : decode cX12_twins 60 = .ok (.istore_n 1, 1) := by decide +kernel
theorem dX12_twins_61 : decode cX12_twins 61 = .ok (.iinc 3 1, 3) := by decide +kernel
theorem dX12_twins_64 : decode cX12_twins 64 = .ok (.goto (-45), 3) := by decide +kernel
theorem dX12_twins_67 : decode cX12_twins 67 = .ok (.iinc 2 1, 3) := by decide +kernel
theorem dX12_twins_70 : decode cX12_twins 70 = .ok (.goto (-61), 3) := by decide +kernel
theorem dX12_twins_73 : decode cX12_twins 73 = .ok (.iload_n 1, 1) := by decide +kernel
theorem dX12_twins_74 : decode cX12_twins 74 = .ok (.ireturn, 1) := by decide +kernel
theorem dX12_moreBehind_0 : decode cX12_moreBehind 0 = .ok (.aload_n 0, 1) := by decide +kernel
theorem dX12_moreBehind_1 : decode cX12_moreBehind 1 = .ok (.iconst 2, 1) := by decide +kernel
theorem dX12_moreBehind_2 : decode cX12_moreBehind 2 = .ok (.iload_n 1, 1) := by decide +kernel
theorem dX12_moreBehind_3 : decode cX12_moreBehind 3 = .ok (.imul, 1) := by decide +kernel
theorem dX12_moreBehind_4 : decode cX12_moreBehind 4 = .ok (.iconst 1, 1) := by decide +kernel
theorem dX12_moreBehind_5 : decode cX12_moreBehind 5 = .ok (.iadd, 1) := by decide +kernel
theorem dX12_moreBehind_6 : decode cX12_moreBehind 6 = .ok (.invokevirtual 269, 3) := by decide +kernel
theorem dX12_moreBehind_9 : decode cX12_moreBehind 9 = .ok (.aload_n 0, 1) := by decide +kernel
theorem dX12_moreBehind_10 : decode cX12_moreBehind 10 = .ok (.iconst 2, 1) := by decide +kernel
theorem dX12_moreBehind_11 : decode cX12_moreBehind 11 = .ok (.iload_n 1, 1) := by decide +kernel
theorem dX12_moreBehind_12 : decode cX12_moreBehind 12 = .ok (.imul, 1) := by decide +kernel
theorem dX12_moreBehind_13 : decode cX12_moreBehind 13 = .ok (.invokevirtual 269, 3) := by decide +kernel
theorem dX12_moreBehind_16 : decode cX12_moreBehind 16 = .ok (.isub, 1) := by decide +kernel
theorem dX12_moreBehind_17 : decode cX12_moreBehind 17 = .ok (.iconst 2, 1) := by decide +kernel
theorem dX12_moreBehind_18 : decode cX12_moreBehind 18 = .ok (.aload_n 0, 1) := by decide +kernel
theorem dX12_moreBehind_19 : decode cX12_moreBehind 19 = .ok (.iload_n 2, 1) := by decide +kernel
theorem dX12_moreBehind_20 : decode cX12_moreBehind 20 = .ok (.aload_n 0, 1) := by decide +kernel
theorem dX12_moreBehind_21 : decode cX12_moreBehind 21 = .ok (.iconst 2, 1) := by decide +kernel
theorem dX12_moreBehind_22 : decode cX12_moreBehind 22 = .ok (.iload_n 1, 1) := by decide +kernel
theorem dX12_moreBehind_23 : decode cX12_moreBehind 23 = .ok (.imul, 1) := by decide +kernel
theorem dX12_moreBehind_24 : decode cX12_moreBehind 24 = .ok (.invokevirtual 248, 3) := by decide +kernel
theorem dX12_moreBehind_27 : decode cX12_moreBehind 27 = .ok (.iand, 1) := by decide +kernel
theorem dX12_moreBehind_28 : decode cX12_moreBehind 28 = .ok (.invokevirtual 252, 3) := by decide +kernel
theorem dX12_moreBehind_31 : decode cX12_moreBehind 31 = .ok (.imul, 1) := by decide +kernel
theorem dX12_moreBehind_32 : decode cX12_moreBehind 32 = .ok (.iadd, 1) := by decide +kernel
theorem dX12_moreBehind_33 : decode cX12_moreBehind 33 = .ok (.iconst 2, 1) := by decide +kernel
theorem dX12_moreBehind_34 : decode cX12_moreBehind 34 = .ok (.aload_n 0, 1) := by decide +kernel
theorem dX12_moreBehind_35 : decode cX12_moreBehind 35 = .ok (.iload_n 2, 1) := by decide +kernel
theorem dX12_moreBehind_36 : decode cX12_moreBehind 36 = .ok (.aload_n 0, 1) := by decide +kernel
theorem dX12_moreBehind_37 : decode cX12_moreBehind 37 = .ok (.iconst 2, 1) := by decide +kernel
theorem dX12_moreBehind_38 : decode cX12_moreBehind 38 = .ok (.iload_n 1, 1) := by decide +kernel
theorem dX12_moreBehind_39 : decode cX12_moreBehind 39 = .ok (.imul, 1) := by decide +kernel
theorem dX12_moreBehind_40 : decode cX12_moreBehind 40 = .ok (.iconst 1, 1) := by decide +kernel
theorem dX12_moreBehind_41 : decode cX12_moreBehind 41 = .ok (.iadd, 1) := by decide +kernel
theorem dX12_moreBehind_42 : decode cX12_moreBehind 42 = .ok (.invokevirtual 248, 3) := by decide +kernel
theorem dX12_moreBehind_45 : decode cX12_moreBehind 45 = .ok (.iand, 1) := by decide +kernel
theorem dX12_moreBehind_46 : decode cX12_moreBehind 46 = .ok (.invokevirtual 252, 3) := by decide +kernel
theorem dX12_moreBehind_49 : decode cX12_moreBehind 49 = .ok (.imul, 1) := by decide +kernel
theorem dX12_moreBehind_50 : decode cX12_moreBehind 50 = .ok (.isub, 1) := by decide +kernel
theorem dX12_moreBehind_51 : decode cX12_moreBehind 51 = .ok (.ireturn, 1) := by decide +kernel
theorem dX12_thingsOf_0 : decode cX12_thingsOf 0 = .ok (.aload_n 0, 1) := by decide +kernel
theorem dX12_thingsOf_1 : decode cX12_thingsOf 1 = .ok (.iconst 2, 1) := by decide +kernel
theorem dX12_thingsOf_2 : decode cX12_thingsOf 2 = .ok (.iload_n 1, 1) := by decide +kernel
theorem dX12_thingsOf_3 : decode cX12_thingsOf 3 = .ok (.imul, 1) := by decide +kernel
theorem dX12_thingsOf_4 : decode cX12_thingsOf 4 = .ok (.invokevirtual 248, 3) := by decide +kernel
theorem dX12_thingsOf_7 : decode cX12_thingsOf 7 = .ok (.aload_n 0, 1) := by decide +kernel
theorem dX12_thingsOf_8 : decode cX12_thingsOf 8 = .ok (.iconst 2, 1) := by decide +kernel
theorem dX12_thingsOf_9 : decode cX12_thingsOf 9 = .ok (.iload_n 1, 1) := by decide +kernel
theorem dX12_thingsOf_10 : decode cX12_thingsOf 10 = .ok (.imul, 1) := by decide +kernel
theorem dX12_thingsOf_11 : decode cX12_thingsOf 11 = .ok (.iconst 1, 1) := by decide +kernel
theorem dX12_thingsOf_12 : decode cX12_thingsOf 12 = .ok (.iadd, 1) := by decide +kernel
theorem dX12_thingsOf_13 : decode cX12_thingsOf 13 = .ok (.invokevirtual 248, 3) := by decide +kernel
theorem dX12_thingsOf_16 : decode cX12_thingsOf 16 = .ok (.ior, 1) := by decide +kernel
theorem dX12_thingsOf_17 : decode cX12_thingsOf 17 = .ok (.ireturn, 1) := by decide +kernel
theorem dX12_best_0 : decode cX12_best 0 = .ok (.aload_n 0, 1) := by decide +kernel
theorem dX12_best_1 : decode cX12_best 1 = .ok (.iconst 0, 1) := by decide +kernel
theorem dX12_best_2 : decode cX12_best 2 = .ok (.putfield 3, 3) := by decide +kernel
theorem dX12_best_5 : decode cX12_best 5 = .ok (.aload_n 0, 1) := by decide +kernel
theorem dX12_best_6 : decode cX12_best 6 = .ok (.aload_n 0, 1) := by decide +kernel
theorem dX12_best_7 : decode cX12_best 7 = .ok (.iload_n 1, 1) := by decide +kernel
theorem dX12_best_8 : decode cX12_best 8 = .ok (.invokevirtual 309, 3) := by decide +kernel
theorem dX12_best_11 : decode cX12_best 11 = .ok (.iconst 1, 1) := by decide +kernel
theorem dX12_best_12 : decode cX12_best 12 = .ok (.invokevirtual 242, 3) := by decide +kernel
theorem dX12_best_15 : decode cX12_best 15 = .ok (.ifCond .eq 5, 3) := by decide +kernel
theorem dX12_best_18 : decode cX12_best 18 = .ok (.iconst 0, 1) := by decide +kernel
theorem dX12_best_19 : decode cX12_best 19 = .ok (.ireturn, 1) := by decide +kernel
theorem dX12_best_20 : decode cX12_best 20 = .ok (.iconst (-1), 1) := by decide +kernel
theorem dX12_best_21 : decode cX12_best 21 = .ok (.istore_n 2, 1) := by decide +kernel
theorem dX12_best_22 : decode cX12_best 22 = .ok (.aload_n 0, 1) := by decide +kernel
theorem dX12_best_23 : decode cX12_best 23 = .ok (.iload_n 1, 1) := by decide +kernel
theorem dX12_best_24 : decode cX12_best 24 = .ok (.iconst 0, 1) := by decide +kernel
theorem dX12_best_25 : decode cX12_best 25 = .ok (.invokevirtual 392, 3) := by decide +kernel
theorem dX12_best_28 : decode cX12_best 28 = .ok (.invokestatic 395, 3) := by decide +kernel
theorem dX12_best_31 : decode cX12_best 31 = .ok (.istore_n 3, 1) := by decide +kernel
theorem dX12_best_32 : decode cX12_best 32 = .ok (.iconst 0, 1) := by decide +kernel
theorem dX12_best_33 : decode cX12_best 33 = .ok (.istore 4, 2) := by decide +kernel
theorem dX12_best_35 : decode cX12_best 35 = .ok (.iload 4, 2) := by decide +kernel
theorem dX12_best_37 : decode cX12_best 37 = .ok (.aload_n 0, 1) := by decide +kernel
theorem dX12_best_38 : decode cX12_best 38 = .ok (.invokevirtual 82, 3) := by decide +kernel
theorem dX12_best_41 : decode cX12_best 41 = .ok (.if_icmp .ge 59, 3) := by decide +kernel
theorem dX12_best_44 : decode cX12_best 44 = .ok (.aload_n 0, 1) := by decide +kernel
theorem dX12_best_45 : decode cX12_best 45 = .ok (.iload_n 1, 1) := by decide +kernel
theorem dX12_best_46 : decode cX12_best 46 = .ok (.invokevirtual 398, 3) := by decide +kernel
theorem dX12_best_49 : decode cX12_best 49 = .ok (.iload 4, 2) := by decide +kernel
theorem dX12_best_51 : decode cX12_best 51 = .ok (.invokestatic 245, 3) := by decide +kernel
theorem dX12_best_54 : decode cX12_best 54 = .ok (.ifCond .ne 6, 3) := by decide +kernel
theorem dX12_best_57 : decode cX12_best 57 = .ok (.goto 37, 3) := by decide +kernel
theorem dX12_best_60 : decode cX12_best 60 = .ok (.aload_n 0, 1) := by decide +kernel
theorem dX12_best_61 : decode cX12_best 61 = .ok (.iload_n 1, 1) := by decide +kernel
theorem dX12_best_62 : decode cX12_best 62 = .ok (.iconst 1, 1) := by decide +kernel
theorem dX12_best_63 : decode cX12_best 63 = .ok (.iload 4, 2) := by decide +kernel
theorem dX12_best_65 : decode cX12_best 65 = .ok (.ishl, 1) := by decide +kernel
theorem dX12_best_66 : decode cX12_best 66 = .ok (.invokevirtual 392, 3) := by decide +kernel
theorem dX12_best_69 : decode cX12_best 69 = .ok (.invokestatic 395, 3) := by decide +kernel
theorem dX12_best_72 : decode cX12_best 72 = .ok (.istore 5, 2) := by decide +kernel
theorem dX12_best_74 : decode cX12_best 74 = .ok (.iload 5, 2) := by decide +kernel
theorem dX12_best_76 : decode cX12_best 76 = .ok (.iload_n 3, 1) := by decide +kernel
theorem dX12_best_77 : decode cX12_best 77 = .ok (.if_icmp .ge 8, 3) := by decide +kernel
theorem dX12_best_80 : decode cX12_best 80 = .ok (.iload 4, 2) := by decide +kernel
theorem dX12_best_82 : decode cX12_best 82 = .ok (.goto 4, 3) := by decide +kernel
theorem dX12_best_85 : decode cX12_best 85 = .ok (.iload_n 2, 1) := by decide +kernel
theorem dX12_best_86 : decode cX12_best 86 = .ok (.istore_n 2, 1) := by decide +kernel
theorem dX12_best_87 : decode cX12_best 87 = .ok (.iload_n 3, 1) := by decide +kernel
theorem dX12_best_88 : decode cX12_best 88 = .ok (.iload 5, 2) := by decide +kernel
theorem dX12_best_90 : decode cX12_best 90 = .ok (.invokestatic 258, 3) := by decide +kernel
theorem dX12_best_93 : decode cX12_best 93 = .ok (.istore_n 3, 1) := by decide +kernel
theorem dX12_best_94 : decode cX12_best 94 = .ok (.iinc 4 1, 3) := by decide +kernel
theorem dX12_best_97 : decode cX12_best 97 = .ok (.goto (-62), 3) := by decide +kernel
theorem dX12_best_100 : decode cX12_best 100 = .ok (.iload_n 2, 1) := by decide +kernel
theorem dX12_best_101 : decode cX12_best 101 = .ok (.ireturn, 1) := by decide +kernel
theorem dX12_carriedTo_0 : decode cX12_carriedTo 0 = .ok (.aload_n 0, 1) := by decide +kernel
theorem dX12_carriedTo_1 : decode cX12_carriedTo 1 = .ok (.iload_n 1, 1) := by decide +kernel
theorem dX12_carriedTo_2 : decode cX12_carriedTo 2 = .ok (.invokevirtual 398, 3) := by decide +kernel
theorem dX12_carriedTo_5 : decode cX12_carriedTo 5 = .ok (.istore 4, 2) := by decide +kernel
theorem dX12_carriedTo_7 : decode cX12_carriedTo 7 = .ok (.iconst (-1), 1) := by decide +kernel
theorem dX12_carriedTo_8 : decode cX12_carriedTo 8 = .ok (.istore 5, 2) := by decide +kernel
theorem dX12_carriedTo_10 : decode cX12_carriedTo 10 = .ok (.ldc_w 401, 3) := by decide +kernel
theorem dX12_carriedTo_13 : decode cX12_carriedTo 13 = .ok (.istore 6, 2) := by decide +kernel
theorem dX12_carriedTo_15 : decode cX12_carriedTo 15 = .ok (.iconst 0, 1) := by decide +kernel
theorem dX12_carriedTo_16 : decode cX12_carriedTo 16 = .ok (.istore 7, 2) := by decide +kernel
theorem dX12_carriedTo_18 : decode cX12_carriedTo 18 = .ok (.iload 7, 2) := by decide +kernel
theorem dX12_carriedTo_20 : decode cX12_carriedTo 20 = .ok (.iload 4, 2) := by decide +kernel
theorem dX12_carriedTo_22 : decode cX12_carriedTo 22 = .ok (.if_icmp .gt 82, 3) := by decide +kernel
theorem dX12_carriedTo_25 : decode cX12_carriedTo 25 = .ok (.iload 7, 2) := by decide +kernel
theorem dX12_carriedTo_27 : decode cX12_carriedTo 27 = .ok (.iload 4, 2) := by decide +kernel
theorem dX12_carriedTo_29 : decode cX12_carriedTo 29 = .ok (.iconst (-1), 1) := by decide +kernel
theorem dX12_carriedTo_30 : decode cX12_carriedTo 30 = .ok (.ixor, 1) := by decide +kernel
theorem dX12_carriedTo_31 : decode cX12_carriedTo 31 = .ok (.iand, 1) := by decide +kernel
theorem dX12_carriedTo_32 : decode cX12_carriedTo 32 = .ok (.ifCond .ne 66, 3) := by decide +kernel
theorem dX12_carriedTo_35 : decode cX12_carriedTo 35 = .ok (.aload_n 0, 1) := by decide +kernel
theorem dX12_carriedTo_36 : decode cX12_carriedTo 36 = .ok (.aload_n 0, 1) := by decide +kernel
theorem dX12_carriedTo_37 : decode cX12_carriedTo 37 = .ok (.iload_n 1, 1) := by decide +kernel
theorem dX12_carriedTo_38 : decode cX12_carriedTo 38 = .ok (.iload 7, 2) := by decide +kernel
theorem dX12_carriedTo_40 : decode cX12_carriedTo 40 = .ok (.invokevirtual 392, 3) := by decide +kernel
theorem dX12_carriedTo_43 : decode cX12_carriedTo 43 = .ok (.invokevirtual 272, 3) := by decide +kernel
theorem dX12_carriedTo_46 : decode cX12_carriedTo 46 = .ok (.iload_n 2, 1) := by decide +kernel
theorem dX12_carriedTo_47 : decode cX12_carriedTo 47 = .ok (.if_icmp .eq 6, 3) := by decide +kernel
theorem dX12_carriedTo_50 : decode cX12_carriedTo 50 = .ok (.goto 48, 3) := by decide +kernel
theorem dX12_carriedTo_53 : decode cX12_carriedTo 53 = .ok (.iload_n 3, 1) := by decide +kernel
theorem dX12_carriedTo_54 : decode cX12_carriedTo 54 = .ok (.ifCond .eq 12, 3) := by decide +kernel
theorem dX12_carriedTo_57 : decode cX12_carriedTo 57 = .ok (.aload_n 0, 1) := by decide +kernel
theorem dX12_carriedTo_58 : decode cX12_carriedTo 58 = .ok (.iload 7, 2) := by decide +kernel
theorem dX12_carriedTo_60 : decode cX12_carriedTo 60 = .ok (.invokevirtual 252, 3) := by decide +kernel
theorem dX12_carriedTo_63 : decode cX12_carriedTo 63 = .ok (.goto 8, 3) := by decide +kernel
theorem dX12_carriedTo_66 : decode cX12_carriedTo 66 = .ok (.iload 7, 2) := by decide +kernel
theorem dX12_carriedTo_68 : decode cX12_carriedTo 68 = .ok (.invokestatic 358, 3) := by decide +kernel
theorem dX12_carriedTo_71 : decode cX12_carriedTo 71 = .ok (.istore 8, 2) := by decide +kernel
theorem dX12_carriedTo_73 : decode cX12_carriedTo 73 = .ok (.iload 8, 2) := by decide +kernel
theorem dX12_carriedTo_75 : decode cX12_carriedTo 75 = .ok (.iload 6, 2) := by decide +kernel
theorem dX12_carriedTo_77 : decode cX12_carriedTo 77 = .ok (.if_icmp .ge 8, 3) := by decide +kernel
theorem dX12_carriedTo_80 : decode cX12_carriedTo 80 = .ok (.iload 7, 2) := by decide +kernel
theorem dX12_carriedTo_82 : decode cX12_carriedTo 82 = .ok (.goto 5, 3) := by decide +kernel
theorem dX12_carriedTo_85 : decode cX12_carriedTo 85 = .ok (.iload 5, 2) := by decide +kernel
theorem dX12_carriedTo_87 : decode cX12_carriedTo 87 = .ok (.istore 5, 2) := by decide +kernel
theorem dX12_carriedTo_89 : decode cX12_carriedTo 89 = .ok (.iload 6, 2) := by decide +kernel
theorem dX12_carriedTo_91 : decode cX12_carriedTo 91 = .ok (.iload 8, 2) := by decide +kernel
theorem dX12_carriedTo_93 : decode cX12_carriedTo 93 = .ok (.invokestatic 258, 3) := by decide +kernel
theorem dX12_carriedTo_96 : decode cX12_carriedTo 96 = .ok (.istore 6, 2) := by decide +kernel
theorem dX12_carriedTo_98 : decode cX12_carriedTo 98 = .ok (.iinc 7 1, 3) := by decide +kernel
theorem dX12_carriedTo_101 : decode cX12_carriedTo 101 = .ok (.goto (-83), 3) := by decide +kernel
theorem dX12_carriedTo_104 : decode cX12_carriedTo 104 = .ok (.iload 5, 2) := by decide +kernel
theorem dX12_carriedTo_106 : decode cX12_carriedTo 106 = .ok (.ireturn, 1) := by decide +kernel
theorem dX12_noTilt_0 : decode cX12_noTilt 0 = .ok (.iload_n 0, 1) := by decide +kernel
theorem dX12_noTilt_1 : decode cX12_noTilt 1 = .ok (.bipush (-5), 2) := by decide +kernel
theorem dX12_noTilt_3 : decode cX12_noTilt 3 = .ok (.iconst 5, 1) := by decide +kernel
theorem dX12_noTilt_4 : decode cX12_noTilt 4 = .ok (.invokestatic 75, 3) := by decide +kernel
theorem dX12_noTilt_7 : decode cX12_noTilt 7 = .ok (.ifCond .ne 7, 3) := by decide +kernel
theorem dX12_noTilt_10 : decode cX12_noTilt 10 = .ok (.iconst 1, 1) := by decide +kernel
theorem dX12_noTilt_11 : decode cX12_noTilt 11 = .ok (.goto 4, 3) := by decide +kernel
theorem dX12_noTilt_14 : decode cX12_noTilt 14 = .ok (.iconst 0, 1) := by decide +kernel
theorem dX12_noTilt_15 : decode cX12_noTilt 15 = .ok (.ireturn, 1) := by decide +kernel
theorem dX12_stand_0 : decode cX12_stand 0 = .ok (.aload_n 0, 1) := by decide +kernel
theorem dX12_stand_1 : decode cX12_stand 1 = .ok (.iconst 0, 1) := by decide +kernel
theorem dX12_stand_2 : decode cX12_stand 2 = .ok (.putfield 3, 3) := by decide +kernel
theorem dX12_stand_5 : decode cX12_stand 5 = .ok (.aload_n 0, 1) := by decide +kernel
theorem dX12_stand_6 : decode cX12_stand 6 = .ok (.aload_n 0, 1) := by decide +kernel
theorem dX12_stand_7 : decode cX12_stand 7 = .ok (.iload_n 1, 1) := by decide +kernel
theorem dX12_stand_8 : decode cX12_stand 8 = .ok (.invokevirtual 309, 3) := by decide +kernel
theorem dX12_stand_11 : decode cX12_stand 11 = .ok (.iconst 1, 1) := by decide +kernel
theorem dX12_stand_12 : decode cX12_stand 12 = .ok (.invokevirtual 242, 3) := by decide +kernel
theorem dX12_stand_15 : decode cX12_stand 15 = .ok (.ifCond .ne 15, 3) := by decide +kernel
theorem dX12_stand_18 : decode cX12_stand 18 = .ok (.aload_n 0, 1) := by decide +kernel
theorem dX12_stand_19 : decode cX12_stand 19 = .ok (.iload_n 2, 1) := by decide +kernel
theorem dX12_stand_20 : decode cX12_stand 20 = .ok (.invokestatic 402, 3) := by decide +kernel
theorem dX12_stand_23 : decode cX12_stand 23 = .ok (.iconst 2, 1) := by decide +kernel
theorem dX12_stand_24 : decode cX12_stand 24 = .ok (.invokevirtual 242, 3) := by decide +kernel
theorem dX12_stand_27 : decode cX12_stand 27 = .ok (.ifCond .eq 7, 3) := by decide +kernel
theorem dX12_stand_30 : decode cX12_stand 30 = .ok (.iconst 0, 1) := by decide +kernel
theorem dX12_stand_31 : decode cX12_stand 31 = .ok (.goto 10, 3) := by decide +kernel
theorem dX12_stand_34 : decode cX12_stand 34 = .ok (.aload_n 0, 1) := by decide +kernel
theorem dX12_stand_35 : decode cX12_stand 35 = .ok (.iload_n 1, 1) := by decide +kernel
theorem dX12_stand_36 : decode cX12_stand 36 = .ok (.iload_n 2, 1) := by decide +kernel
theorem dX12_stand_37 : decode cX12_stand 37 = .ok (.iconst 0, 1) := by decide +kernel
theorem dX12_stand_38 : decode cX12_stand 38 = .ok (.invokevirtual 405, 3) := by decide +kernel
theorem dX12_stand_41 : decode cX12_stand 41 = .ok (.ireturn, 1) := by decide +kernel
theorem dX12_heave_0 : decode cX12_heave 0 = .ok (.aload_n 0, 1) := by decide +kernel
theorem dX12_heave_1 : decode cX12_heave 1 = .ok (.iconst 0, 1) := by decide +kernel
theorem dX12_heave_2 : decode cX12_heave 2 = .ok (.putfield 3, 3) := by decide +kernel
theorem dX12_heave_5 : decode cX12_heave 5 = .ok (.aload_n 0, 1) := by decide +kernel
theorem dX12_heave_6 : decode cX12_heave 6 = .ok (.aload_n 0, 1) := by decide +kernel
theorem dX12_heave_7 : decode cX12_heave 7 = .ok (.iload_n 1, 1) := by decide +kernel
theorem dX12_heave_8 : decode cX12_heave 8 = .ok (.invokevirtual 309, 3) := by decide +kernel
theorem dX12_heave_11 : decode cX12_heave 11 = .ok (.iconst 1, 1) := by decide +kernel
theorem dX12_heave_12 : decode cX12_heave 12 = .ok (.invokevirtual 242, 3) := by decide +kernel
theorem dX12_heave_15 : decode cX12_heave 15 = .ok (.ifCond .ne 15, 3) := by decide +kernel
theorem dX12_heave_18 : decode cX12_heave 18 = .ok (.aload_n 0, 1) := by decide +kernel
theorem dX12_heave_19 : decode cX12_heave 19 = .ok (.iload_n 2, 1) := by decide +kernel
theorem dX12_heave_20 : decode cX12_heave 20 = .ok (.invokestatic 402, 3) := by decide +kernel
theorem dX12_heave_23 : decode cX12_heave 23 = .ok (.iconst 2, 1) := by decide +kernel
theorem dX12_heave_24 : decode cX12_heave 24 = .ok (.invokevirtual 242, 3) := by decide +kernel
theorem dX12_heave_27 : decode cX12_heave 27 = .ok (.ifCond .eq 5, 3) := by decide +kernel
theorem dX12_heave_30 : decode cX12_heave 30 = .ok (.iconst 0, 1) := by decide +kernel
theorem dX12_heave_31 : decode cX12_heave 31 = .ok (.ireturn, 1) := by decide +kernel
theorem dX12_heave_32 : decode cX12_heave 32 = .ok (.aload_n 0, 1) := by decide +kernel
theorem dX12_heave_33 : decode cX12_heave 33 = .ok (.iload_n 1, 1) := by decide +kernel
theorem dX12_heave_34 : decode cX12_heave 34 = .ok (.iload_n 2, 1) := by decide +kernel
theorem dX12_heave_35 : decode cX12_heave 35 = .ok (.iconst 1, 1) := by decide +kernel
theorem dX12_heave_36 : decode cX12_heave 36 = .ok (.invokevirtual 405, 3) := by decide +kernel
theorem dX12_heave_39 : decode cX12_heave 39 = .ok (.istore 4, 2) := by decide +kernel
theorem dX12_heave_41 : decode cX12_heave 41 = .ok (.iload 4, 2) := by decide +kernel
theorem dX12_heave_43 : decode cX12_heave 43 = .ok (.iconst (-1), 1) := by decide +kernel
theorem dX12_heave_44 : decode cX12_heave 44 = .ok (.if_icmp .eq 7, 3) := by decide +kernel
theorem dX12_heave_47 : decode cX12_heave 47 = .ok (.iload_n 3, 1) := by decide +kernel
theorem dX12_heave_48 : decode cX12_heave 48 = .ok (.ifCond .ne 8, 3) := by decide +kernel
theorem dX12_heave_51 : decode cX12_heave 51 = .ok (.iload 4, 2) := by decide +kernel
theorem dX12_heave_53 : decode cX12_heave 53 = .ok (.goto 9, 3) := by decide +kernel
theorem dX12_heave_56 : decode cX12_heave 56 = .ok (.aload_n 0, 1) := by decide +kernel
theorem dX12_heave_57 : decode cX12_heave 57 = .ok (.iload 4, 2) := by decide +kernel
theorem dX12_heave_59 : decode cX12_heave 59 = .ok (.invokevirtual 252, 3) := by decide +kernel
theorem dX12_heave_62 : decode cX12_heave 62 = .ok (.ireturn, 1) := by decide +kernel
theorem dX12_differBy_0 : decode cX12_differBy 0 = .ok (.aload_n 0, 1) := by decide +kernel
theorem dX12_differBy_1 : decode cX12_differBy 1 = .ok (.iload_n 2, 1) := by decide +kernel
theorem dX12_differBy_2 : decode cX12_differBy 2 = .ok (.invokevirtual 269, 3) := by decide +kernel
theorem dX12_differBy_5 : decode cX12_differBy 5 = .ok (.aload_n 0, 1) := by decide +kernel
theorem dX12_differBy_6 : decode cX12_differBy 6 = .ok (.iload_n 3, 1) := by decide +kernel
theorem dX12_differBy_7 : decode cX12_differBy 7 = .ok (.invokevirtual 269, 3) := by decide +kernel
theorem dX12_differBy_10 : decode cX12_differBy 10 = .ok (.isub, 1) := by decide +kernel
theorem dX12_differBy_11 : decode cX12_differBy 11 = .ok (.invokestatic 395, 3) := by decide +kernel
theorem dX12_differBy_14 : decode cX12_differBy 14 = .ok (.aload_n 0, 1) := by decide +kernel
theorem dX12_differBy_15 : decode cX12_differBy 15 = .ok (.getfield 42, 3) := by decide +kernel
theorem dX12_differBy_18 : decode cX12_differBy 18 = .ok (.iload_n 1, 1) := by decide +kernel
theorem dX12_differBy_19 : decode cX12_differBy 19 = .ok (.iconst 1, 1) := by decide +kernel
theorem dX12_differBy_20 : decode cX12_differBy 20 = .ok (.iload_n 2, 1) := by decide +kernel
theorem dX12_differBy_21 : decode cX12_differBy 21 = .ok (.ishl, 1) := by decide +kernel
theorem dX12_differBy_22 : decode cX12_differBy 22 = .ok (.iconst (-1), 1) := by decide +kernel
theorem dX12_differBy_23 : decode cX12_differBy 23 = .ok (.ixor, 1) := by decide +kernel
theorem dX12_differBy_24 : decode cX12_differBy 24 = .ok (.iand, 1) := by decide +kernel
theorem dX12_differBy_25 : decode cX12_differBy 25 = .ok (.iconst 1, 1) := by decide +kernel
theorem dX12_differBy_26 : decode cX12_differBy 26 = .ok (.iload_n 3, 1) := by decide +kernel
theorem dX12_differBy_27 : decode cX12_differBy 27 = .ok (.ishl, 1) := by decide +kernel
theorem dX12_differBy_28 : decode cX12_differBy 28 = .ok (.iconst (-1), 1) := by decide +kernel
theorem dX12_differBy_29 : decode cX12_differBy 29 = .ok (.ixor, 1) := by decide +kernel
theorem dX12_differBy_30 : decode cX12_differBy 30 = .ok (.iand, 1) := by decide +kernel
theorem dX12_differBy_31 : decode cX12_differBy 31 = .ok (.iaload, 1) := by decide +kernel
theorem dX12_differBy_32 : decode cX12_differBy 32 = .ok (.iadd, 1) := by decide +kernel
theorem dX12_differBy_33 : decode cX12_differBy 33 = .ok (.ireturn, 1) := by decide +kernel
theorem dX12_leastOf_0 : decode cX12_leastOf 0 = .ok (.iload_n 0, 1) := by decide +kernel
theorem dX12_leastOf_1 : decode cX12_leastOf 1 = .ok (.invokestatic 409, 3) := by decide +kernel
theorem dX12_leastOf_4 : decode cX12_leastOf 4 = .ok (.ireturn, 1) := by decide +kernel
theorem dX12_laysDiffer_0 : decode cX12_laysDiffer 0 = .ok (.aload_n 0, 1) := by decide +kernel
theorem dX12_laysDiffer_1 : decode cX12_laysDiffer 1 = .ok (.getfield 42, 3) := by decide +kernel
theorem dX12_laysDiffer_4 : decode cX12_laysDiffer 4 = .ok (.iconst 0, 1) := by decide +kernel
theorem dX12_laysDiffer_5 : decode cX12_laysDiffer 5 = .ok (.iconst 0, 1) := by decide +kernel
theorem dX12_laysDiffer_6 : decode cX12_laysDiffer 6 = .ok (.iastore, 1) := by decide +kernel
theorem dX12_laysDiffer_7 : decode cX12_laysDiffer 7 = .ok (.iconst 1, 1) := by decide +kernel
theorem dX12_laysDiffer_8 : decode cX12_laysDiffer 8 = .ok (.istore_n 2, 1) := by decide +kernel
theorem dX12_laysDiffer_9 : decode cX12_laysDiffer 9 = .ok (.iload_n 2, 1) := by decide +kernel
theorem dX12_laysDiffer_10 : decode cX12_laysDiffer 10 = .ok (.iload_n 1, 1) := by decide +kernel
theorem dX12_laysDiffer_11 : decode cX12_laysDiffer 11 = .ok (.if_icmp .gt 90, 3) := by decide +kernel
theorem dX12_laysDiffer_14 : decode cX12_laysDiffer 14 = .ok (.iload_n 2, 1) := by decide +kernel
theorem dX12_laysDiffer_15 : decode cX12_laysDiffer 15 = .ok (.iload_n 1, 1) := by decide +kernel
theorem dX12_laysDiffer_16 : decode cX12_laysDiffer 16 = .ok (.iconst (-1), 1) := by decide +kernel
theorem dX12_laysDiffer_17 : decode cX12_laysDiffer 17 = .ok (.ixor, 1) := by decide +kernel
theorem dX12_laysDiffer_18 : decode cX12_laysDiffer 18 = .ok (.iand, 1) := by decide +kernel
theorem dX12_laysDiffer_19 : decode cX12_laysDiffer 19 = .ok (.ifCond .ne 76, 3) := by decide +kernel
theorem dX12_laysDiffer_22 : decode cX12_laysDiffer 22 = .ok (.iload_n 2, 1) := by decide +kernel
theorem dX12_laysDiffer_23 : decode cX12_laysDiffer 23 = .ok (.invokestatic 358, 3) := by decide +kernel
theorem dX12_laysDiffer_26 : decode cX12_laysDiffer 26 = .ok (.iconst 2, 1) := by decide +kernel
theorem dX12_laysDiffer_27 : decode cX12_laysDiffer 27 = .ok (.irem, 1) := by decide +kernel
theorem dX12_laysDiffer_28 : decode cX12_laysDiffer 28 = .ok (.iconst 1, 1) := by decide +kernel
theorem dX12_laysDiffer_29 : decode cX12_laysDiffer 29 = .ok (.if_icmp .ne 6, 3) := by decide +kernel
theorem dX12_laysDiffer_32 : decode cX12_laysDiffer 32 = .ok (.goto 63, 3) := by decide +kernel
theorem dX12_laysDiffer_35 : decode cX12_laysDiffer 35 = .ok (.iload_n 2, 1) := by decide +kernel
theorem dX12_laysDiffer_36 : decode cX12_laysDiffer 36 = .ok (.invokestatic 412, 3) := by decide +kernel
theorem dX12_laysDiffer_39 : decode cX12_laysDiffer 39 = .ok (.istore_n 3, 1) := by decide +kernel
theorem dX12_laysDiffer_40 : decode cX12_laysDiffer 40 = .ok (.ldc_w 401, 3) := by decide +kernel
theorem dX12_laysDiffer_43 : decode cX12_laysDiffer 43 = .ok (.istore 4, 2) := by decide +kernel
theorem dX12_laysDiffer_45 : decode cX12_laysDiffer 45 = .ok (.iload_n 3, 1) := by decide +kernel
theorem dX12_laysDiffer_46 : decode cX12_laysDiffer 46 = .ok (.iconst 1, 1) := by decide +kernel
theorem dX12_laysDiffer_47 : decode cX12_laysDiffer 47 = .ok (.iadd, 1) := by decide +kernel
theorem dX12_laysDiffer_48 : decode cX12_laysDiffer 48 = .ok (.istore 5, 2) := by decide +kernel
theorem dX12_laysDiffer_50 : decode cX12_laysDiffer 50 = .ok (.iload 5, 2) := by decide +kernel
theorem dX12_laysDiffer_52 : decode cX12_laysDiffer 52 = .ok (.bipush 10, 2) := by decide +kernel
theorem dX12_laysDiffer_54 : decode cX12_laysDiffer 54 = .ok (.if_icmp .ge 33, 3) := by decide +kernel
theorem dX12_laysDiffer_57 : decode cX12_laysDiffer 57 = .ok (.iload_n 2, 1) := by decide +kernel
theorem dX12_laysDiffer_58 : decode cX12_laysDiffer 58 = .ok (.iload 5, 2) := by decide +kernel
theorem dX12_laysDiffer_60 : decode cX12_laysDiffer 60 = .ok (.invokestatic 245, 3) := by decide +kernel
theorem dX12_laysDiffer_63 : decode cX12_laysDiffer 63 = .ok (.ifCond .eq 18, 3) := by decide +kernel
theorem dX12_laysDiffer_66 : decode cX12_laysDiffer 66 = .ok (.iload 4, 2) := by decide +kernel
theorem dX12_laysDiffer_68 : decode cX12_laysDiffer 68 = .ok (.aload_n 0, 1) := by decide +kernel
theorem dX12_laysDiffer_69 : decode cX12_laysDiffer 69 = .ok (.iload_n 2, 1) := by decide +kernel
theorem dX12_laysDiffer_70 : decode cX12_laysDiffer 70 = .ok (.iload_n 3, 1) := by decide +kernel
theorem dX12_laysDiffer_71 : decode cX12_laysDiffer 71 = .ok (.iload 5, 2) := by decide +kernel
theorem dX12_laysDiffer_73 : decode cX12_laysDiffer 73 = .ok (.invokevirtual 415, 3) := by decide +kernel
theorem dX12_laysDiffer_76 : decode cX12_laysDiffer 76 = .ok (.invokestatic 258, 3) := by decide +kernel
theorem dX12_laysDiffer_79 : decode cX12_laysDiffer 79 = .ok (.istore 4, 2) := by decide +kernel
theorem dX12_laysDiffer_81 : decode cX12_laysDiffer 81 = .ok (.iinc 5 1, 3) := by decide +kernel
theorem dX12_laysDiffer_84 : decode cX12_laysDiffer 84 = .ok (.goto (-34), 3) := by decide +kernel
theorem dX12_laysDiffer_87 : decode cX12_laysDiffer 87 = .ok (.aload_n 0, 1) := by decide +kernel
theorem dX12_laysDiffer_88 : decode cX12_laysDiffer 88 = .ok (.getfield 42, 3) := by decide +kernel
theorem dX12_laysDiffer_91 : decode cX12_laysDiffer 91 = .ok (.iload_n 2, 1) := by decide +kernel
theorem dX12_laysDiffer_92 : decode cX12_laysDiffer 92 = .ok (.iload 4, 2) := by decide +kernel
theorem dX12_laysDiffer_94 : decode cX12_laysDiffer 94 = .ok (.iastore, 1) := by decide +kernel
theorem dX12_laysDiffer_95 : decode cX12_laysDiffer 95 = .ok (.iinc 2 1, 3) := by decide +kernel
theorem dX12_laysDiffer_98 : decode cX12_laysDiffer 98 = .ok (.goto (-89), 3) := by decide +kernel
theorem dX12_laysDiffer_101 : decode cX12_laysDiffer 101 = .ok (.return_, 1) := by decide +kernel
theorem dX12_partnerIn_0 : decode cX12_partnerIn 0 = .ok (.iload_n 1, 1) := by decide +kernel
theorem dX12_partnerIn_1 : decode cX12_partnerIn 1 = .ok (.invokestatic 412, 3) := by decide +kernel
theorem dX12_partnerIn_4 : decode cX12_partnerIn 4 = .ok (.istore_n 2, 1) := by decide +kernel
theorem dX12_partnerIn_5 : decode cX12_partnerIn 5 = .ok (.iload_n 2, 1) := by decide +kernel
theorem dX12_partnerIn_6 : decode cX12_partnerIn 6 = .ok (.iconst 1, 1) := by decide +kernel
theorem dX12_partnerIn_7 : decode cX12_partnerIn 7 = .ok (.iadd, 1) := by decide +kernel
theorem dX12_partnerIn_8 : decode cX12_partnerIn 8 = .ok (.istore_n 3, 1) := by decide +kernel
theorem dX12_partnerIn_9 : decode cX12_partnerIn 9 = .ok (.iload_n 1, 1) := by decide +kernel
theorem dX12_partnerIn_10 : decode cX12_partnerIn 10 = .ok (.iload_n 3, 1) := by decide +kernel
theorem dX12_partnerIn_11 : decode cX12_partnerIn 11 = .ok (.invokestatic 245, 3) := by decide +kernel
theorem dX12_partnerIn_14 : decode cX12_partnerIn 14 = .ok (.ifCond .eq 19, 3) := by decide +kernel
theorem dX12_partnerIn_17 : decode cX12_partnerIn 17 = .ok (.aload_n 0, 1) := by decide +kernel
theorem dX12_partnerIn_18 : decode cX12_partnerIn 18 = .ok (.iload_n 1, 1) := by decide +kernel
theorem dX12_partnerIn_19 : decode cX12_partnerIn 19 = .ok (.iload_n 2, 1) := by decide +kernel
theorem dX12_partnerIn_20 : decode cX12_partnerIn 20 = .ok (.iload_n 3, 1) := by decide +kernel
theorem dX12_partnerIn_21 : decode cX12_partnerIn 21 = .ok (.invokevirtual 415, 3) := by decide +kernel
theorem dX12_partnerIn_24 : decode cX12_partnerIn 24 = .ok (.aload_n 0, 1) := by decide +kernel
theorem dX12_partnerIn_25 : decode cX12_partnerIn 25 = .ok (.getfield 42, 3) := by decide +kernel
theorem dX12_partnerIn_28 : decode cX12_partnerIn 28 = .ok (.iload_n 1, 1) := by decide +kernel
theorem dX12_partnerIn_29 : decode cX12_partnerIn 29 = .ok (.iaload, 1) := by decide +kernel
theorem dX12_partnerIn_30 : decode cX12_partnerIn 30 = .ok (.if_icmp .eq 9, 3) := by decide +kernel
theorem dX12_partnerIn_33 : decode cX12_partnerIn 33 = .ok (.iinc 3 1, 3) := by decide +kernel
theorem dX12_partnerIn_36 : decode cX12_partnerIn 36 = .ok (.goto (-27), 3) := by decide +kernel
theorem dX12_partnerIn_39 : decode cX12_partnerIn 39 = .ok (.iload_n 3, 1) := by decide +kernel
theorem dX12_partnerIn_40 : decode cX12_partnerIn 40 = .ok (.ireturn, 1) := by decide +kernel
theorem dX12_match_0 : decode cX12_match 0 = .ok (.aload_n 0, 1) := by decide +kernel
theorem dX12_match_1 : decode cX12_match 1 = .ok (.iconst 0, 1) := by decide +kernel
theorem dX12_match_2 : decode cX12_match 2 = .ok (.putfield 3, 3) := by decide +kernel
theorem dX12_match_5 : decode cX12_match 5 = .ok (.iload_n 2, 1) := by decide +kernel
theorem dX12_match_6 : decode cX12_match 6 = .ok (.iconst (-1), 1) := by decide +kernel
theorem dX12_match_7 : decode cX12_match 7 = .ok (.if_icmp .eq 18, 3) := by decide +kernel
theorem dX12_match_10 : decode cX12_match 10 = .ok (.aload_n 0, 1) := by decide +kernel
theorem dX12_match_11 : decode cX12_match 11 = .ok (.aload_n 0, 1) := by decide +kernel
theorem dX12_match_12 : decode cX12_match 12 = .ok (.iload_n 2, 1) := by decide +kernel
theorem dX12_match_13 : decode cX12_match 13 = .ok (.invokevirtual 315, 3) := by decide +kernel
theorem dX12_match_16 : decode cX12_match 16 = .ok (.iconst 1, 1) := by decide +kernel
theorem dX12_match_17 : decode cX12_match 17 = .ok (.invokevirtual 242, 3) := by decide +kernel
theorem dX12_match_20 : decode cX12_match 20 = .ok (.ifCond .eq 5, 3) := by decide +kernel
theorem dX12_match_23 : decode cX12_match 23 = .ok (.iconst 0, 1) := by decide +kernel
theorem dX12_match_24 : decode cX12_match 24 = .ok (.ireturn, 1) := by decide +kernel
theorem dX12_match_25 : decode cX12_match 25 = .ok (.iload_n 1, 1) := by decide +kernel
theorem dX12_match_26 : decode cX12_match 26 = .ok (.iconst 1, 1) := by decide +kernel
theorem dX12_match_27 : decode cX12_match 27 = .ok (.aload_n 0, 1) := by decide +kernel
theorem dX12_match_28 : decode cX12_match 28 = .ok (.invokevirtual 79, 3) := by decide +kernel
theorem dX12_match_31 : decode cX12_match 31 = .ok (.ishl, 1) := by decide +kernel
theorem dX12_match_32 : decode cX12_match 32 = .ok (.iconst 1, 1) := by decide +kernel
theorem dX12_match_33 : decode cX12_match 33 = .ok (.isub, 1) := by decide +kernel
theorem dX12_match_34 : decode cX12_match 34 = .ok (.iand, 1) := by decide +kernel
theorem dX12_match_35 : decode cX12_match 35 = .ok (.istore_n 3, 1) := by decide +kernel
theorem dX12_match_36 : decode cX12_match 36 = .ok (.iload_n 3, 1) := by decide +kernel
theorem dX12_match_37 : decode cX12_match 37 = .ok (.invokestatic 358, 3) := by decide +kernel
theorem dX12_match_40 : decode cX12_match 40 = .ok (.iconst 2, 1) := by decide +kernel
theorem dX12_match_41 : decode cX12_match 41 = .ok (.irem, 1) := by decide +kernel
theorem dX12_match_42 : decode cX12_match 42 = .ok (.iconst 1, 1) := by decide +kernel
theorem dX12_match_43 : decode cX12_match 43 = .ok (.if_icmp .eq 12, 3) := by decide +kernel
theorem dX12_match_46 : decode cX12_match 46 = .ok (.iload_n 3, 1) := by decide +kernel
theorem dX12_match_47 : decode cX12_match 47 = .ok (.invokestatic 358, 3) := by decide +kernel
theorem dX12_match_50 : decode cX12_match 50 = .ok (.bipush 8, 2) := by decide +kernel
theorem dX12_match_52 : decode cX12_match 52 = .ok (.if_icmp .le 5, 3) := by decide +kernel
theorem dX12_match_55 : decode cX12_match 55 = .ok (.iconst (-1), 1) := by decide +kernel
theorem dX12_match_56 : decode cX12_match 56 = .ok (.ireturn, 1) := by decide +kernel
theorem dX12_match_57 : decode cX12_match 57 = .ok (.aload_n 0, 1) := by decide +kernel
theorem dX12_match_58 : decode cX12_match 58 = .ok (.iload_n 3, 1) := by decide +kernel
theorem dX12_match_59 : decode cX12_match 59 = .ok (.invokevirtual 418, 3) := by decide +kernel
theorem dX12_match_62 : decode cX12_match 62 = .ok (.iload_n 2, 1) := by decide +kernel
theorem dX12_match_63 : decode cX12_match 63 = .ok (.iconst (-1), 1) := by decide +kernel
theorem dX12_match_64 : decode cX12_match 64 = .ok (.if_icmp .ne 10, 3) := by decide +kernel
theorem dX12_match_67 : decode cX12_match 67 = .ok (.aload_n 0, 1) := by decide +kernel
theorem dX12_match_68 : decode cX12_match 68 = .ok (.getfield 42, 3) := by decide +kernel
theorem dX12_match_71 : decode cX12_match 71 = .ok (.iload_n 3, 1) := by decide +kernel
theorem dX12_match_72 : decode cX12_match 72 = .ok (.iaload, 1) := by decide +kernel
theorem dX12_match_73 : decode cX12_match 73 = .ok (.ireturn, 1) := by decide +kernel
theorem dX12_match_74 : decode cX12_match 74 = .ok (.iload_n 3, 1) := by decide +kernel
theorem dX12_match_75 : decode cX12_match 75 = .ok (.ifCond .eq 53, 3) := by decide +kernel
theorem dX12_match_78 : decode cX12_match 78 = .ok (.iload_n 3, 1) := by decide +kernel
theorem dX12_match_79 : decode cX12_match 79 = .ok (.invokestatic 412, 3) := by decide +kernel
theorem dX12_match_82 : decode cX12_match 82 = .ok (.istore 4, 2) := by decide +kernel
theorem dX12_match_84 : decode cX12_match 84 = .ok (.aload_n 0, 1) := by decide +kernel
theorem dX12_match_85 : decode cX12_match 85 = .ok (.iload_n 3, 1) := by decide +kernel
theorem dX12_match_86 : decode cX12_match 86 = .ok (.invokevirtual 421, 3) := by decide +kernel
theorem dX12_match_89 : decode cX12_match 89 = .ok (.istore 5, 2) := by decide +kernel
