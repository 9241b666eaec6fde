set_option maxRecDepth 20000 in
theorem ggX12_heave_X12_carriedTo : GoodIn wsX12_heave wsX12_carriedTo := goodIn_r _ [25, 26, 27, 28, 29, 30, 31, 32, 33, 5, 34, 35, 36, 37, 38, 39, 40, 41, 42, 11, 43, 44, 45, 46, 47, 48, 49, 50, 51, 52, 53, 54, 55, 56, 57, 58, 59, 60, 61, 62, 63, 64, 65, 66, 67, 68, 69, 70, 71, 72, 73, 74, 75, 76, 77, 78, 79, 80, 81, 82, 83, 84, 85, 86, 87, 88, 89, 90, 91, 92, 93, 94, 95, 96, 97, 98, 99, 100, 101, 102, 103, 104, 105] (by decide +kernel) (by decide +kernel)
set_option maxRecDepth 20000 in
theorem gX12_heave_X12_carriedTo : GoodIn wsX12_heave (wsV RX12 405 RX12 yX12_carriedTo wsX12_carriedTo) := goodIn_app (goodIn_of _ (by decide +kernel)) ggX12_heave_X12_carriedTo
set_option maxRecDepth 20000 in
theorem ggX12_heave_X12_weightOf : GoodIn wsX12_heave wsX12_weightOf := goodIn_r _ [61, 39, 40, 41, 5, 42, 11, 62, 63, 64, 43, 44, 45, 46, 47, 48, 49, 86, 87, 88, 89, 90, 91, 92, 93, 94, 95, 96, 97, 98, 99, 100, 101, 102, 103, 104, 105] (by decide +kernel) (by decide +kernel)
set_option maxRecDepth 20000 in
theorem gX12_heave_X12_weightOf : GoodIn wsX12_heave (wsV RX12 252 RX12 yX12_weightOf wsX12_weightOf) := goodIn_app (goodIn_of _ (by decide +kernel)) ggX12_heave_X12_weightOf
theorem dX12_heave_0 : decode cX12_heave 0 = .ok (.aload_n 0, 1) := by decide +kernel
theorem dX12_heave_1 : decode cX12_heave 1 = .ok (.iconst 0, 1) := by decide +kernel
theorem dX12_heave_2 : decode cX12_heave 2 = .ok (.putfield 3, 3) := by decide +kernel
theorem dX12_heave_5 : decode cX12_heave 5 = .ok (.aload_n 0, 1) := by decide +kernel
theorem dX12_heave_6 : decode cX12_heave 6 = .ok (.aload_n 0, 1) := by decide +kernel
theorem dX12_heave_7 : decode cX12_heave 7 = .ok (.iload_n 1, 1) := by decide +kernel
theorem dX12_heave_8 : decode cX12_heave 8 = .ok (.invokevirtual 309, 3) := by decide +kernel
theorem dX12_heave_11 : decode cX12_heave 11 = .ok (.iconst 1, 1) := by decide +kernel
theorem dX12_heave_12 : decode cX12_heave 12 = .ok (.invokevirtual 242, 3) := by decide +kernel
theorem dX12_heave_15 : decode cX12_heave 15 = .ok (.ifCond .ne 15, 3) := by decide +kernel
theorem dX12_heave_18 : decode cX12_heave 18 = .ok (.aload_n 0, 1) := by decide +kernel
theorem dX12_heave_19 : decode cX12_heave 19 = .ok (.iload_n 2, 1) := by decide +kernel
theorem dX12_heave_20 : decode cX12_heave 20 = .ok (.invokestatic 402, 3) := by decide +kernel
theorem dX12_heave_23 : decode cX12_heave 23 = .ok (.iconst 2, 1) := by decide +kernel
theorem dX12_heave_24 : decode cX12_heave 24 = .ok (.invokevirtual 242, 3) := by decide +kernel
theorem dX12_heave_27 : decode cX12_heave 27 = .ok (.ifCond .eq 5, 3) := by decide +kernel
theorem dX12_heave_30 : decode cX12_heave 30 = .ok (.iconst 0, 1) := by decide +kernel
theorem dX12_heave_31 : decode cX12_heave 31 = .ok (.ireturn, 1) := by decide +kernel
theorem dX12_heave_32 : decode cX12_heave 32 = .ok (.aload_n 0, 1) := by decide +kernel
theorem dX12_heave_33 : decode cX12_heave 33 = .ok (.iload_n 1, 1) := by decide +kernel
theorem dX12_heave_34 : decode cX12_heave 34 = .ok (.iload_n 2, 1) := by decide +kernel
theorem dX12_heave_35 : decode cX12_heave 35 = .ok (.iconst 1, 1) := by decide +kernel
theorem dX12_heave_36 : decode cX12_heave 36 = .ok (.invokevirtual 405, 3) := by decide +kernel
theorem dX12_heave_39 : decode cX12_heave 39 = .ok (.istore 4, 2) := by decide +kernel
theorem dX12_heave_41 : decode cX12_heave 41 = .ok (.iload 4, 2) := by decide +kernel
theorem dX12_heave_43 : decode cX12_heave 43 = .ok (.iconst (-1), 1) := by decide +kernel
theorem dX12_heave_44 : decode cX12_heave 44 = .ok (.if_icmp .eq 7, 3) := by decide +kernel
theorem dX12_heave_47 : decode cX12_heave 47 = .ok (.iload_n 3, 1) := by decide +kernel
theorem dX12_heave_48 : decode cX12_heave 48 = .ok (.ifCond .ne 8, 3) := by decide +kernel
theorem dX12_heave_51 : decode cX12_heave 51 = .ok (.iload 4, 2) := by decide +kernel
theorem dX12_heave_53 : decode cX12_heave 53 = .ok (.goto 9, 3) := by decide +kernel
theorem dX12_heave_56 : decode cX12_heave 56 = .ok (.aload_n 0, 1) := by decide +kernel
theorem dX12_heave_57 : decode cX12_heave 57 = .ok (.iload 4, 2) := by decide +kernel
theorem dX12_heave_59 : decode cX12_heave 59 = .ok (.invokevirtual 252, 3) := by decide +kernel
theorem dX12_heave_62 : decode cX12_heave 62 = .ok (.ireturn, 1) := by decide +kernel
set_option maxRecDepth 20000 in
theorem ggX12_differBy_X12_loadOf : GoodIn wsX12_differBy wsX12_loadOf := goodIn_r _ [10, 11, 12, 13, 14, 9, 15, 16, 17, 18, 19, 20, 21, 22, 23, 24, 25, 26, 27, 28, 29, 30, 31, 32, 33, 34, 35, 36, 37, 38, 39, 40, 41, 42, 43, 44, 45, 46, 47, 48, 49, 50, 51, 52, 53, 54, 55, 56, 57, 58, 59, 60] (by decide +kernel) (by decide +kernel)
set_option maxRecDepth 20000 in
theorem gX12_differBy_X12_loadOf : GoodIn wsX12_differBy (wsV RX12 269 RX12 yX12_loadOf wsX12_loadOf) := goodIn_app (goodIn_of _ (by decide +kernel)) ggX12_differBy_X12_loadOf
theorem dX12_differBy_0 : decode cX12_differBy 0 = .ok (.aload_n 0, 1) := by decide +kernel
theorem dX12_differBy_1 : decode cX12_differBy 1 = .ok (.iload_n 2, 1) := by decide +kernel
theorem dX12_differBy_2 : decode cX12_differBy 2 = .ok (.invokevirtual 269, 3) := by decide +kernel
theorem dX12_differBy_5 : decode cX12_differBy 5 = .ok (.aload_n 0, 1) := by decide +kernel
theorem dX12_differBy_6 : decode cX12_differBy 6 = .ok (.iload_n 3, 1) := by decide +kernel
theorem dX12_differBy_7 : decode cX12_differBy 7 = .ok (.invokevirtual 269, 3) := by decide +kernel
theorem dX12_differBy_10 : decode cX12_differBy 10 = .ok (.isub, 1) := by decide +kernel
theorem dX12_differBy_11 : decode cX12_differBy 11 = .ok (.invokestatic 395, 3) := by decide +kernel
theorem dX12_differBy_14 : decode cX12_differBy 14 = .ok (.aload_n 0, 1) := by decide +kernel
theorem dX12_differBy_15 : decode cX12_differBy 15 = .ok (.getfield 42, 3) := by decide +kernel
theorem dX12_differBy_18 : decode cX12_differBy 18 = .ok (.iload_n 1, 1) := by decide +kernel
theorem dX12_differBy_19 : decode cX12_differBy 19 = .ok (.iconst 1, 1) := by decide +kernel
theorem dX12_differBy_20 : decode cX12_differBy 20 = .ok (.iload_n 2, 1) := by decide +kernel
theorem dX12_differBy_21 : decode cX12_differBy 21 = .ok (.ishl, 1) := by decide +kernel
theorem dX12_differBy_22 : decode cX12_differBy 22 = .ok (.iconst (-1), 1) := by decide +kernel
theorem dX12_differBy_23 : decode cX12_differBy 23 = .ok (.ixor, 1) := by decide +kernel
theorem dX12_differBy_24 : decode cX12_differBy 24 = .ok (.iand, 1) := by decide +kernel
theorem dX12_differBy_25 : decode cX12_differBy 25 = .ok (.iconst 1, 1) := by decide +kernel
theorem dX12_differBy_26 : decode cX12_differBy 26 = .ok (.iload_n 3, 1) := by decide +kernel
theorem dX12_differBy_27 : decode cX12_differBy 27 = .ok (.ishl, 1) := by decide +kernel
theorem dX12_differBy_28 : decode cX12_differBy 28 = .ok (.iconst (-1), 1) := by decide +kernel
theorem dX12_differBy_29 : decode cX12_differBy 29 = .ok (.ixor, 1) := by decide +kernel
theorem dX12_differBy_30 : decode cX12_differBy 30 = .ok (.iand, 1) := by decide +kernel
theorem dX12_differBy_31 : decode cX12_differBy 31 = .ok (.iaload, 1) := by decide +kernel
theorem dX12_differBy_32 : decode cX12_differBy 32 = .ok (.iadd, 1) := by decide +kernel
theorem dX12_differBy_33 : decode cX12_differBy 33 = .ok (.ireturn, 1) := by decide +kernel
set_option maxRecDepth 20000 in
theorem ggX12_leastOf_J6_numberOfTrailingZeros_0f7a4 : GoodIn wsX12_leastOf wsJ6_numberOfTrailingZeros_0f7a4 := goodIn_r _ [4, 5] (by decide +kernel) (by decide +kernel)
set_option maxRecDepth 20000 in
theorem gX12_leastOf_J6_numberOfTrailingZeros_0f7a4 : GoodIn wsX12_leastOf (va_wsS RX12 409 yJ6_numberOfTrailingZeros_0f7a4 wsJ6_numberOfTrailingZeros_0f7a4) := goodIn_app (goodIn_of _ (by decide +kernel)) ggX12_leastOf_J6_numberOfTrailingZeros_0f7a4
theorem dX12_leastOf_0 : decode cX12_leastOf 0 = .ok (.iload_n 0, 1) := by decide +kernel
theorem dX12_leastOf_1 : decode cX12_leastOf 1 = .ok (.invokestatic 409, 3) := by decide +kernel
theorem dX12_leastOf_4 : decode cX12_leastOf 4 = .ok (.ireturn, 1) := by decide +kernel
set_option maxRecDepth 20000 in
theorem ggX12_laysDiffer_J6_bitCount_0f7a4 : GoodIn wsX12_laysDiffer wsJ6_bitCount_0f7a4 := goodIn_r _ [10, 11, 12, 13] (by decide +kernel) (by decide +kernel)
set_option maxRecDepth 20000 in
theorem gX12_laysDiffer_J6_bitCount_0f7a4 : GoodIn wsX12_laysDiffer (va_wsS RX12 358 yJ6_bitCount_0f7a4 wsJ6_bitCount_0f7a4) := goodIn_app (goodIn_of _ (by decide +kernel)) ggX12_laysDiffer_J6_bitCount_0f7a4
set_option maxRecDepth 20000 in
theorem ggX12_laysDiffer_X12_leastOf : GoodIn wsX12_laysDiffer wsX12_leastOf := goodIn_r _ [17, 18, 19, 9, 20, 21] (by decide +kernel) (by decide +kernel)
set_option maxRecDepth 20000 in
theorem gX12_laysDiffer_X12_leastOf : GoodIn wsX12_laysDiffer (va_wsS RX12 412 yX12_leastOf wsX12_leastOf) := goodIn_app (goodIn_of _ (by decide +kernel)) ggX12_laysDiffer_X12_leastOf
set_option maxRecDepth 20000 in
theorem ggX12_laysDiffer_X12_holds : GoodIn wsX12_laysDiffer wsX12_holds := goodIn_r _ [24] (by decide +kernel) (by decide +kernel)
set_option maxRecDepth 20000 in
theorem gX12_laysDiffer_X12_holds : GoodIn wsX12_laysDiffer (va_wsS RX12 245 yX12_holds wsX12_holds) := goodIn_app (goodIn_of _ (by decide +kernel)) ggX12_laysDiffer_X12_holds
set_option maxRecDepth 20000 in
theorem ggX12_laysDiffer_X12_differBy : GoodIn wsX12_laysDiffer wsX12_differBy := goodIn_r _ [28, 29, 30, 5, 31, 1, 32, 33, 34, 16, 35, 36, 37, 38, 39, 40, 41, 42, 43, 44, 45, 46, 47, 48, 49, 50, 51, 52, 53, 54, 55, 22, 23, 24, 56, 57, 58, 59, 60, 61, 62, 63, 64, 65, 66, 67, 68, 69, 70, 71, 72, 73, 74, 75, 76, 77, 78, 79, 80, 81, 82] (by decide +kernel) (by decide +kernel)
set_option maxRecDepth 20000 in
theorem gX12_laysDiffer_X12_differBy : GoodIn wsX12_laysDiffer (wsV RX12 415 RX12 yX12_differBy wsX12_differBy) := goodIn_app (goodIn_of _ (by decide +kernel)) ggX12_laysDiffer_X12_differBy
theorem dX12_laysDiffer_0 : decode cX12_laysDiffer 0 = .ok (.aload_n 0, 1) := by decide +kernel
theorem dX12_laysDiffer_1 : decode cX12_laysDiffer 1 = .ok (.getfield 42, 3) := by decide +kernel
theorem dX12_laysDiffer_4 : decode cX12_laysDiffer 4 = .ok (.iconst 0, 1) := by decide +kernel
theorem dX12_laysDiffer_5 : decode cX12_laysDiffer 5 = .ok (.iconst 0, 1) := by decide +kernel
theorem dX12_laysDiffer_6 : decode cX12_laysDiffer 6 = .ok (.iastore, 1) := by decide +kernel
theorem dX12_laysDiffer_7 : decode cX12_laysDiffer 7 = .ok (.iconst 1, 1) := by decide +kernel
theorem dX12_laysDiffer_8 : decode cX12_laysDiffer 8 = .ok (.istore_n 2, 1) := by decide +kernel
theorem dX12_laysDiffer_9 : decode cX12_laysDiffer 9 = .ok (.iload_n 2, 1) := by decide +kernel
theorem dX12_laysDiffer_10 : decode cX12_laysDiffer 10 = .ok (.iload_n 1, 1) := by decide +kernel
theorem dX12_laysDiffer_11 : decode cX12_laysDiffer 11 = .ok (.if_icmp .gt 90, 3) := by decide +kernel
theorem dX12_laysDiffer_14 : decode cX12_laysDiffer 14 = .ok (.iload_n 2, 1) := by decide +kernel
theorem dX12_laysDiffer_15 : decode cX12_laysDiffer 15 = .ok (.iload_n 1, 1) := by decide +kernel
theorem dX12_laysDiffer_16 : decode cX12_laysDiffer 16 = .ok (.iconst (-1), 1) := by decide +kernel
theorem dX12_laysDiffer_17 : decode cX12_laysDiffer 17 = .ok (.ixor, 1) := by decide +kernel
theorem dX12_laysDiffer_18 : decode cX12_laysDiffer 18 = .ok (.iand, 1) := by decide +kernel
theorem dX12_laysDiffer_19 : decode cX12_laysDiffer 19 = .ok (.ifCond .ne 76, 3) := by decide +kernel
theorem dX12_laysDiffer_22 : decode cX12_laysDiffer 22 = .ok (.iload_n 2, 1) := by decide +kernel
theorem dX12_laysDiffer_23 : decode cX12_laysDiffer 23 = .ok (.invokestatic 358, 3) := by decide +kernel
theorem dX12_laysDiffer_26 : decode cX12_laysDiffer 26 = .ok (.iconst 2, 1) := by decide +kernel
theorem dX12_laysDiffer_27 : decode cX12_laysDiffer 27 = .ok (.irem, 1) := by decide +kernel
theorem dX12_laysDiffer_28 : decode cX12_laysDiffer 28 = .ok (.iconst 1, 1) := by decide +kernel
theorem dX12_laysDiffer_29 : decode cX12_laysDiffer 29 = .ok (.if_icmp .ne 6, 3) := by decide +kernel
theorem dX12_laysDiffer_32 : decode cX12_laysDiffer 32 = .ok (.goto 63, 3) := by decide +kernel
theorem dX12_laysDiffer_35 : decode cX12_laysDiffer 35 = .ok (.iload_n 2, 1) := by decide +kernel
theorem dX12_laysDiffer_36 : decode cX12_laysDiffer 36 = .ok (.invokestatic 412, 3) := by decide +kernel
theorem dX12_laysDiffer_39 : decode cX12_laysDiffer 39 = .ok (.istore_n 3, 1) := by decide +kernel
theorem dX12_laysDiffer_40 : decode cX12_laysDiffer 40 = .ok (.ldc_w 401, 3) := by decide +kernel
theorem dX12_laysDiffer_43 : decode cX12_laysDiffer 43 = .ok (.istore 4, 2) := by decide +kernel
theorem dX12_laysDiffer_45 : decode cX12_laysDiffer 45 = .ok (.iload_n 3, 1) := by decide +kernel
theorem dX12_laysDiffer_46 : decode cX12_laysDiffer 46 = .ok (.iconst 1, 1) := by decide +kernel
theorem dX12_laysDiffer_47 : decode cX12_laysDiffer 47 = .ok (.iadd, 1) := by decide +kernel
theorem dX12_laysDiffer_48 : decode cX12_laysDiffer 48 = .ok (.istore 5, 2) := by decide +kernel
theorem dX12_laysDiffer_50 : decode cX12_laysDiffer 50 = .ok (.iload 5, 2) := by decide +kernel
theorem dX12_laysDiffer_52 : decode cX12_laysDiffer 52 = .ok (.bipush 10, 2) := by decide +kernel
theorem dX12_laysDiffer_54 : decode cX12_laysDiffer 54 = .ok (.if_icmp .ge 33, 3) := by decide +kernel
theorem dX12_laysDiffer_57 : decode cX12_laysDiffer 57 = .ok (.iload_n 2, 1) := by decide +kernel
theorem dX12_laysDiffer_58 : decode cX12_laysDiffer 58 = .ok (.iload 5, 2) := by decide +kernel
theorem dX12_laysDiffer_60 : decode cX12_laysDiffer 60 = .ok (.invokestatic 245, 3) := by decide +kernel
theorem dX12_laysDiffer_63 : decode cX12_laysDiffer 63 = .ok (.ifCond .eq 18, 3) := by decide +kernel
theorem dX12_laysDiffer_66 : decode cX12_laysDiffer 66 = .ok (.iload 4, 2) := by decide +kernel
theorem dX12_laysDiffer_68 : decode cX12_laysDiffer 68 = .ok (.aload_n 0, 1) := by decide +kernel
theorem dX12_laysDiffer_69 : decode cX12_laysDiffer 69 = .ok (.iload_n 2, 1) := by decide +kernel
theorem dX12_laysDiffer_70 : decode cX12_laysDiffer 70 = .ok (.iload_n 3, 1) := by decide +kernel
theorem dX12_laysDiffer_71 : decode cX12_laysDiffer 71 = .ok (.iload 5, 2) := by decide +kernel
theorem dX12_laysDiffer_73 : decode cX12_laysDiffer 73 = .ok (.invokevirtual 415, 3) := by decide +kernel
theorem dX12_laysDiffer_76 : decode cX12_laysDiffer 76 = .ok (.invokestatic 258, 3) := by decide +kernel
theorem dX12_laysDiffer_79 : decode cX12_laysDiffer 79 = .ok (.istore 4, 2) := by decide +kernel
theorem dX12_laysDiffer_81 : decode cX12_laysDiffer 81 = .ok (.iinc 5 1, 3) := by decide +kernel
theorem dX12_laysDiffer_84 : decode cX12_laysDiffer 84 = .ok (.goto (-34), 3) := by decide +kernel
theorem dX12_laysDiffer_87 : decode cX12_laysDiffer 87 = .ok (.aload_n 0, 1) := by decide +kernel
theorem dX12_laysDiffer_88 : decode cX12_laysDiffer 88 = .ok (.getfield 42, 3) := by decide +kernel
theorem dX12_laysDiffer_91 : decode cX12_laysDiffer 91 = .ok (.iload_n 2, 1) := by decide +kernel
theorem dX12_laysDiffer_92 : decode cX12_laysDiffer 92 = .ok (.iload 4, 2) := by decide +kernel
theorem dX12_laysDiffer_94 : decode cX12_laysDiffer 94 = .ok (.iastore, 1) := by decide +kernel
theorem dX12_laysDiffer_95 : decode cX12_laysDiffer 95 = .ok (.iinc 2 1, 3) := by decide +kernel
theorem dX12_laysDiffer_98 : decode cX12_laysDiffer 98 = .ok (.goto (-89), 3) := by decide +kernel
theorem dX12_laysDiffer_101 : decode cX12_laysDiffer 101 = .ok (.return_, 1) := by decide +kernel
set_option maxRecDepth 20000 in
theorem ggX12_partnerIn_X12_leastOf : GoodIn wsX12_partnerIn wsX12_leastOf := goodIn_r _ [5, 6, 7, 8, 9, 10] (by decide +kernel) (by decide +kernel)
set_option maxRecDepth 20000 in
theorem gX12_partnerIn_X12_leastOf : GoodIn wsX12_partnerIn (va_wsS RX12 412 yX12_leastOf wsX12_leastOf) := goodIn_app (goodIn_of _ (by decide +kernel)) ggX12_partnerIn_X12_leastOf
set_option maxRecDepth 20000 in
theorem ggX12_partnerIn_X12_holds : GoodIn wsX12_partnerIn wsX12_holds := goodIn_r _ [13] (by decide +kernel) (by decide +kernel)
set_option maxRecDepth 20000 in
theorem gX12_partnerIn_X12_holds : GoodIn wsX12_partnerIn (va_wsS RX12 245 yX12_holds wsX12_holds) := goodIn_app (goodIn_of _ (by decide +kernel)) ggX12_partnerIn_X12_holds
set_option maxRecDepth 20000 in
theorem ggX12_partnerIn_X12_differBy : GoodIn wsX12_partnerIn wsX12_differBy := goodIn_r _ [17, 18, 19, 20, 21, 1, 22, 23, 24, 4, 25, 26, 27, 28, 29, 30, 31, 32, 33, 34, 35, 36, 37, 38, 39, 40, 41, 42, 43, 44, 45, 11, 12, 13, 46, 47, 48, 49, 50, 51, 52, 53, 54, 55, 56, 57, 58, 59, 60, 61, 62, 63, 64, 65, 66, 67, 68, 69, 70, 71, 72] (by decide +kernel) (by decide +kernel)
set_option maxRecDepth 20000 in
theorem gX12_partnerIn_X12_differBy : GoodIn wsX12_partnerIn (wsV RX12 415 RX12 yX12_differBy wsX12_differBy) := goodIn_app (goodIn_of _ (by decide +kernel)) ggX12_partnerIn_X12_differBy
theorem dX12_partnerIn_0 : decode cX12_partnerIn 0 = .ok (.iload_n 1, 1) := by decide +kernel
theorem dX12_partnerIn_1 : decode cX12_partnerIn 1 = .ok (.invokestatic 412, 3) := by decide +kernel
theorem dX12_partnerIn_4 : decode cX12_partnerIn 4 = .ok (.istore_n 2, 1) := by decide +kernel
theorem dX12_partnerIn_5 : decode cX12_partnerIn 5 = .ok (.iload_n 2, 1) := by decide +kernel
theorem dX12_partnerIn_6 : decode cX12_partnerIn 6 = .ok (.iconst 1, 1) := by decide +kernel
theorem dX12_partnerIn_7 : decode cX12_partnerIn 7 = .ok (.iadd, 1) := by decide +kernel
theorem dX12_partnerIn_8 : decode cX12_partnerIn 8 = .ok (.istore_n 3, 1) := by decide +kernel
theorem dX12_partnerIn_9 : decode cX12_partnerIn 9 = .ok (.iload_n 1, 1) := by decide +kernel
theorem dX12_partnerIn_10 : decode cX12_partnerIn 10 = .ok (.iload_n 3, 1) := by decide +kernel
theorem dX12_partnerIn_11 : decode cX12_partnerIn 11 = .ok (.invokestatic 245, 3) := by decide +kernel
theorem dX12_partnerIn_14 : decode cX12_partnerIn 14 = .ok (.ifCond .eq 19, 3) := by decide +kernel
theorem dX12_partnerIn_17 : decode cX12_partnerIn 17 = .ok (.aload_n 0, 1) := by decide +kernel
theorem dX12_partnerIn_18 : decode cX12_partnerIn 18 = .ok (.iload_n 1, 1) := by decide +kernel
theorem dX12_partnerIn_19 : decode cX12_partnerIn 19 = .ok (.iload_n 2, 1) := by decide +kernel
theorem dX12_partnerIn_20 : decode cX12_partnerIn 20 = .ok (.iload_n 3, 1) := by decide +kernel
theorem dX12_partnerIn_21 : decode cX12_partnerIn 21 = .ok (.invokevirtual 415, 3) := by decide +kernel
theorem dX12_partnerIn_24 : decode cX12_partnerIn 24 = .ok (.aload_n 0, 1) := by decide +kernel
theorem dX12_partnerIn_25 : decode cX12_partnerIn 25 = .ok (.getfield 42, 3) := by decide +kernel
theorem dX12_partnerIn_28 : decode cX12_partnerIn 28 = .ok (.iload_n 1, 1) := by decide +kernel
theorem dX12_partnerIn_29 : decode cX12_partnerIn 29 = .ok (.iaload, 1) := by decide +kernel
theorem dX12_partnerIn_30 : decode cX12_partnerIn 30 = .ok (.if_icmp .eq 9, 3) := by decide +kernel
theorem dX12_partnerIn_33 : decode cX12_partnerIn 33 = .ok (.iinc 3 1, 3) := by decide +kernel
theorem dX12_partnerIn_36 : decode cX12_partnerIn 36 = .ok (.goto (-27), 3) := by decide +kernel
theorem dX12_partnerIn_39 : decode cX12_partnerIn 39 = .ok (.iload_n 3, 1) := by decide +kernel
theorem dX12_partnerIn_40 : decode cX12_partnerIn 40 = .ok (.ireturn, 1) := by decide +kernel
set_option maxRecDepth 20000 in
theorem ggX12_match_X12_noHouse : GoodIn wsX12_match wsX12_noHouse := goodIn_r _ [7, 8, 9, 10, 6, 11, 12, 13, 14, 15, 16, 17, 18, 19, 91, 92, 93, 94, 95, 96, 97, 98, 99, 100, 101, 102, 103, 104, 105, 106, 107, 108, 109, 110] (by decide +kernel) (by decide +kernel)
set_option maxRecDepth 20000 in
theorem gX12_match_X12_noHouse : GoodIn wsX12_match (wsV RX12 315 RX12 yX12_noHouse wsX12_noHouse) := goodIn_app (goodIn_of _ (by decide +kernel)) ggX12_match_X12_noHouse
set_option maxRecDepth 20000 in
theorem ggX12_match_X12_throwsIf : GoodIn wsX12_match wsX12_throwsIf := goodIn_r _ [23, 1, 91, 92, 93, 94, 95, 96, 97, 98, 99, 100, 101, 102, 103, 104, 105, 106, 107, 108, 109, 110] (by decide +kernel) (by decide +kernel)
set_option maxRecDepth 20000 in
theorem gX12_match_X12_throwsIf : GoodIn wsX12_match (wsV RX12 242 RX12 yX12_throwsIf wsX12_throwsIf) := goodIn_app (goodIn_of _ (by decide +kernel)) ggX12_match_X12_throwsIf
set_option maxRecDepth 20000 in
theorem ggX12_match_X12_houses : GoodIn wsX12_match wsX12_houses := goodIn_r _ [11, 12, 13, 14, 6, 15, 16, 91, 92, 93, 94, 95, 96, 97, 98, 99, 100, 101, 102, 103, 104, 105, 106, 107, 108, 109, 110] (by decide +kernel) (by decide +kernel)
set_option maxRecDepth 20000 in
theorem gX12_match_X12_houses : GoodIn wsX12_match (wsV RX12 79 RX12 yX12_houses wsX12_houses) := goodIn_app (goodIn_of _ (by decide +kernel)) ggX12_match_X12_houses
set_option maxRecDepth 20000 in
theorem ggX12_match_J6_bitCount_0f7a4 : GoodIn wsX12_match wsJ6_bitCount_0f7a4 := goodIn_r _ [27, 28, 29, 30] (by decide +kernel) (by decide +kernel)
set_option maxRecDepth 20000 in
theorem gX12_match_J6_bitCount_0f7a4 : GoodIn wsX12_match (va_wsS RX12 358 yJ6_bitCount_0f7a4 wsJ6_bitCount_0f7a4) := goodIn_app (goodIn_of _ (by decide +kernel)) ggX12_match_J6_bitCount_0f7a4
set_option maxRecDepth 20000 in
theorem ggX12_match_X12_laysDiffer : GoodIn wsX12_match wsX12_laysDiffer := goodIn_r _ [34, 2, 35, 36, 37, 38, 39, 24, 25, 26, 27, 28, 29, 30, 40, 41, 6, 42, 43, 44, 45, 46, 47, 48, 49, 50, 51, 52, 53, 54, 55, 56, 57, 58, 59, 60, 16, 61, 62, 63, 64, 65, 66, 67, 68, 69, 70, 71, 72, 73, 74, 75, 76, 77, 78, 79, 80, 81, 82, 83, 84, 85, 86, 91, 92, 93, 94, 95, 96, 97, 98, 99, 100, 101, 102, 103, 104, 105, 106, 107, 108, 109, 110] (by decide +kernel) (by decide +kernel)
set_option maxRecDepth 20000 in
theorem gX12_match_X12_laysDiffer : GoodIn wsX12_match (wsV RX12 418 RX12 yX12_laysDiffer wsX12_laysDiffer) := goodIn_app (goodIn_of _ (by decide +kernel)) ggX12_match_X12_laysDiffer
set_option maxRecDepth 20000 in
theorem ggX12_match_X12_leastOf : GoodIn wsX12_match wsX12_leastOf := goodIn_r _ [42, 43, 44, 26, 45, 46] (by decide +kernel) (by decide +kernel)
set_option maxRecDepth 20000 in
theorem gX12_match_X12_leastOf : GoodIn wsX12_match (va_wsS RX12 412 yX12_leastOf wsX12_leastOf) := goodIn_app (goodIn_of _ (by decide +kernel)) ggX12_match_X12_leastOf
set_option maxRecDepth 20000 in
theorem ggX12_match_X12_partnerIn : GoodIn wsX12_match wsX12_partnerIn := goodIn_r _ [90, 2, 40, 41, 6, 42, 43, 44, 26, 45, 46, 47, 48, 49, 50, 51, 52, 53, 54, 55, 38, 56, 57, 58, 59, 60, 16, 61, 62, 63, 64, 65, 66, 67, 68, 69, 70, 71, 72, 73, 74, 75, 76, 77, 78, 79, 80, 81, 82, 83, 84, 85, 86, 91, 92, 93, 94, 95, 96, 97, 98, 99, 100, 101, 102, 103, 104, 105, 106, 107, 108, 109, 110] (by decide +kernel) (by decide +kernel)
set_option maxRecDepth 20000 in
theorem gX12_match_X12_partnerIn : GoodIn wsX12_match (wsV RX12 421 RX12 yX12_partnerIn wsX12_partnerIn) := goodIn_app (goodIn_of _ (by decide +kernel)) ggX12_match_X12_partnerIn
theorem dX12_match_0 : decode cX12_match 0 = .ok (.aload_n 0, 1) := by decide +kernel
theorem dX12_match_1 : decode cX12_match 1 = .ok (.iconst 0, 1) := by decide +kernel
theorem dX12_match_2 : decode cX12_match 2 = .ok (.putfield 3, 3) := by decide +kernel
theorem dX12_match_5 : decode cX12_match 5 = .ok (.iload_n 2, 1) := by decide +kernel
theorem dX12_match_6 : decode cX12_match 6 = .ok (.iconst (-1), 1) := by decide +kernel
theorem dX12_match_7 : decode cX12_match 7 = .ok (.if_icmp .eq 18, 3) := by decide +kernel
theorem dX12_match_10 : decode cX12_match 10 = .ok (.aload_n 0, 1) := by decide +kernel
theorem dX12_match_11 : decode cX12_match 11 = .ok (.aload_n 0, 1) := by decide +kernel
theorem dX12_match_12 : decode cX12_match 12 = .ok (.iload_n 2, 1) := by decide +kernel
theorem dX12_match_13 : decode cX12_match 13 = .ok (.invokevirtual 315, 3) := by decide +kernel
theorem dX12_match_16 : decode cX12_match 16 = .ok (.iconst 1, 1) := by decide +kernel
theorem dX12_match_17 : decode cX12_match 17 = .ok (.invokevirtual 242, 3) := by decide +kernel
theorem dX12_match_20 : decode cX12_match 20 = .ok (.ifCond .eq 5, 3) := by decide +kernel
theorem dX12_match_23 : decode cX12_match 23 = .ok (.iconst 0, 1) := by decide +kernel
theorem dX12_match_24 : decode cX12_match 24 = .ok (.ireturn, 1) := by decide +kernel
theorem dX12_match_25 : decode cX12_match 25 = .ok (.iload_n 1, 1) := by decide +kernel
theorem dX12_match_26 : decode cX12_match 26 = .ok (.iconst 1, 1) := by decide +kernel
theorem dX12_match_27 : decode cX12_match 27 = .ok (.aload_n 0, 1) := by decide +kernel
theorem dX12_match_28 : decode cX12_match 28 = .ok (.invokevirtual 79, 3) := by decide +kernel
theorem dX12_match_31 : decode cX12_match 31 = .ok (.ishl, 1) := by decide +kernel
theorem dX12_match_32 : decode cX12_match 32 = .ok (.iconst 1, 1) := by decide +kernel
theorem dX12_match_33 : decode cX12_match 33 = .ok (.isub, 1) := by decide +kernel
theorem dX12_match_34 : decode cX12_match 34 = .ok (.iand, 1) := by decide +kernel
theorem dX12_match_35 : decode cX12_match 35 = .ok (.istore_n 3, 1) := by decide +kernel
theorem dX12_match_36 : decode cX12_match 36 = .ok (.iload_n 3, 1) := by decide +kernel
theorem dX12_match_37 : decode cX12_match 37 = .ok (.invokestatic 358, 3) := by decide +kernel
theorem dX12_match_40 : decode cX12_match 40 = .ok (.iconst 2, 1) := by decide +kernel
theorem dX12_match_41 : decode cX12_match 41 = .ok (.irem, 1) := by decide +kernel
theorem dX12_match_42 : decode cX12_match 42 = .ok (.iconst 1, 1) := by decide +kernel
theorem dX12_match_43 : decode cX12_match 43 = .ok (.if_icmp .eq 12, 3) := by decide +kernel
theorem dX12_match_46 : decode cX12_match 46 = .ok (.iload_n 3, 1) := by decide +kernel
theorem dX12_match_47 : decode cX12_match 47 = .ok (.invokestatic 358, 3) := by decide +kernel
theorem dX12_match_50 : decode cX12_match 50 = .ok (.bipush 8, 2) := by decide +kernel
theorem dX12_match_52 : decode cX12_match 52 = .ok (.if_icmp .le 5, 3) := by decide +kernel
theorem dX12_match_55 : decode cX12_match 55 = .ok (.iconst (-1), 1) := by decide +kernel
theorem dX12_match_56 : decode cX12_match 56 = .ok (.ireturn, 1) := by decide +kernel
theorem dX12_match_57 : decode cX12_match 57 = .ok (.aload_n 0, 1) := by decide +kernel
theorem dX12_match_58 : decode cX12_match 58 = .ok (.iload_n 3, 1) := by decide +kernel
theorem dX12_match_59 : decode cX12_match 59 = .ok (.invokevirtual 418, 3) := by decide +kernel
theorem dX12_match_62 : decode cX12_match 62 = .ok (.iload_n 2, 1) := by decide +kernel
theorem dX12_match_63 : decode cX12_match 63 = .ok (.iconst (-1), 1) := by decide +kernel
theorem dX12_match_64 : decode cX12_match 64 = .ok (.if_icmp .ne 10, 3) := by decide +kernel
theorem dX12_match_67 : decode cX12_match 67 = .ok (.aload_n 0, 1) := by decide +kernel
theorem dX12_match_68 : decode cX12_match 68 = .ok (.getfield 42, 3) := by decide +kernel
theorem dX12_match_71 : decode cX12_match 71 = .ok (.iload_n 3, 1) := by decide +kernel
theorem dX12_match_72 : decode cX12_match 72 = .ok (.iaload, 1) := by decide +kernel
theorem dX12_match_73 : decode cX12_match 73 = .ok (.ireturn, 1) := by decide +kernel
theorem dX12_match_74 : decode cX12_match 74 = .ok (.iload_n 3, 1) := by decide +kernel
theorem dX12_match_75 : decode cX12_match 75 = .ok (.ifCond .eq 53, 3) := by decide +kernel
theorem dX12_match_78 : decode cX12_match 78 = .ok (.iload_n 3, 1) := by decide +kernel
theorem dX12_match_79 : decode cX12_match 79 = .ok (.invokestatic 412, 3) := by decide +kernel
theorem dX12_match_82 : decode cX12_match 82 = .ok (.istore 4, 2) := by decide +kernel
theorem dX12_match_84 : decode cX12_match 84 = .ok (.aload_n 0, 1) := by decide +kernel
theorem dX12_match_85 : decode cX12_match 85 = .ok (.iload_n 3, 1) := by decide +kernel
theorem dX12_match_86 : decode cX12_match 86 = .ok (.invokevirtual 421, 3) := by decide +kernel
theorem dX12_match_89 : decode cX12_match 89 = .ok (.istore 5, 2) := by decide +kernel
theorem dX12_match_91 : decode cX12_match 91 = .ok (.iload_n 2, 1) := by decide +kernel
theorem dX12_match_92 : decode cX12_match 92 = .ok (.iload 4, 2) := by decide +kernel
theorem dX12_match_94 : decode cX12_match 94 = .ok (.if_icmp .ne 6, 3) := by decide +kernel
theorem dX12_match_97 : decode cX12_match 97 = .ok (.iload 5, 2) := by decide +kernel
theorem dX12_match_99 : decode cX12_match 99 = .ok (.ireturn, 1) := by decide +kernel
theorem dX12_match_100 : decode cX12_match 100 = .ok (.iload_n 2, 1) := by decide +kernel
theorem dX12_match_101 : decode cX12_match 101 = .ok (.iload 5, 2) := by decide +kernel
theorem dX12_match_103 : decode cX12_match 103 = .ok (.if_icmp .ne 6, 3) := by decide +kernel
theorem dX12_match_106 : decode cX12_match 106 = .ok (.iload 4, 2) := by decide +kernel
theorem dX12_match_108 : decode cX12_match 108 = .ok (.ireturn, 1) := by decide +kernel
theorem dX12_match_109 : decode cX12_match 109 = .ok (.iload_n 3, 1) := by decide +kernel
theorem dX12_match_110 : decode cX12_match 110 = .ok (.iconst 1, 1) := by decide +kernel
theorem dX12_match_111 : decode cX12_match 111 = .ok (.iload 4, 2) := by decide +kernel
theorem dX12_match_113 : decode cX12_match 113 = .ok (.ishl, 1) := by decide +kernel
theorem dX12_match_114 : decode cX12_match 114 = .ok (.iconst (-1), 1) := by decide +kernel
theorem dX12_match_115 : decode cX12_match 115 = .ok (.ixor, 1) := by decide +kernel
theorem dX12_match_116 : decode cX12_match 116 = .ok (.iconst 1, 1) := by decide +kernel
theorem dX12_match_117 : decode cX12_match 117 = .ok (.iload 5, 2) := by decide +kernel
theorem dX12_match_119 : decode cX12_match 119 = .ok (.ishl, 1) := by decide +kernel
theorem dX12_match_120 : decode cX12_match 120 = .ok (.iconst (-1), 1) := by decide +kernel
theorem dX12_match_121 : decode cX12_match 121 = .ok (.ixor, 1) := by decide +kernel
theorem dX12_match_122 : decode cX12_match 122 = .ok (.iand, 1) := by decide +kernel
theorem dX12_match_123 : decode cX12_match 123 = .ok (.iand, 1) := by decide +kernel
theorem dX12_match_124 : decode cX12_match 124 = .ok (.istore_n 3, 1) := by decide +kernel
theorem dX12_match_125 : decode cX12_match 125 = .ok (.goto (-51), 3) := by decide +kernel
theorem dX12_match_128 : decode cX12_match 128 = .ok (.iconst (-1), 1) := by decide +kernel
theorem dX12_match_129 : decode cX12_match 129 = .ok (.ireturn, 1) := by decide +kernel
set_option maxRecDepth 20000 in
theorem ggX12_isTold_X12_in : GoodIn wsX12_isTold wsX12_in := goodIn_r _ [6] (by decide +kernel) (by decide +kernel)
set_option maxRecDepth 20000 in
theorem gX12_isTold_X12_in : GoodIn wsX12_isTold (va_wsS RX12 75 yX12_in wsX12_in) := goodIn_app (goodIn_of _ (by decide +kernel)) ggX12_isTold_X12_in
theorem dX12_isTold_0 : decode cX12_isTold 0 = .ok (.aload_n 0, 1) := by decide +kernel
theorem dX12_isTold_1 : decode cX12_isTold 1 = .ok (.getfield 92, 3) := by decide +kernel
theorem dX12_isTold_4 : decode cX12_isTold 4 = .ok (.iconst 2, 1) := by decide +kernel
theorem dX12_isTold_5 : decode cX12_isTold 5 = .ok (.irem, 1) := by decide +kernel
theorem dX12_isTold_6 : decode cX12_isTold 6 = .ok (.ifCond .ne 16, 3) := by decide +kernel
theorem dX12_isTold_9 : decode cX12_isTold 9 = .ok (.aload_n 0, 1) := by decide +kernel
theorem dX12_isTold_10 : decode cX12_isTold 10 = .ok (.getfield 92, 3) := by decide +kernel
theorem dX12_isTold_13 : decode cX12_isTold 13 = .ok (.bipush 40, 2) := by decide +kernel
theorem dX12_isTold_15 : decode cX12_isTold 15 = .ok (.if_icmp .gt 7, 3) := by decide +kernel
theorem dX12_isTold_18 : decode cX12_isTold 18 = .ok (.iconst 1, 1) := by decide +kernel
theorem dX12_isTold_19 : decode cX12_isTold 19 = .ok (.goto 4, 3) := by decide +kernel
theorem dX12_isTold_22 : decode cX12_isTold 22 = .ok (.iconst 0, 1) := by decide +kernel
theorem dX12_isTold_23 : decode cX12_isTold 23 = .ok (.istore_n 1, 1) := by decide +kernel
theorem dX12_isTold_24 : decode cX12_isTold 24 = .ok (.iconst 0, 1) := by decide +kernel
theorem dX12_isTold_25 : decode cX12_isTold 25 = .ok (.istore_n 2, 1) := by decide +kernel
theorem dX12_isTold_26 : decode cX12_isTold 26 = .ok (.iload_n 2, 1) := by decide +kernel
theorem dX12_isTold_27 : decode cX12_isTold 27 = .ok (.aload_n 0, 1) := by decide +kernel
theorem dX12_isTold_28 : decode cX12_isTold 28 = .ok (.getfield 92, 3) := by decide +kernel
theorem dX12_isTold_31 : decode cX12_isTold 31 = .ok (.if_icmp .ge 51, 3) := by decide +kernel
theorem dX12_isTold_34 : decode cX12_isTold 34 = .ok (.iload_n 1, 1) := by decide +kernel
theorem dX12_isTold_35 : decode cX12_isTold 35 = .ok (.ifCond .eq 47, 3) := by decide +kernel
theorem dX12_isTold_38 : decode cX12_isTold 38 = .ok (.aload_n 0, 1) := by decide +kernel
theorem dX12_isTold_39 : decode cX12_isTold 39 = .ok (.getfield 29, 3) := by decide +kernel
theorem dX12_isTold_42 : decode cX12_isTold 42 = .ok (.iload_n 2, 1) := by decide +kernel
theorem dX12_isTold_43 : decode cX12_isTold 43 = .ok (.baload, 1) := by decide +kernel
theorem dX12_isTold_44 : decode cX12_isTold 44 = .ok (.iconst 0, 1) := by decide +kernel
theorem dX12_isTold_45 : decode cX12_isTold 45 = .ok (.bipush 20, 2) := by decide +kernel
theorem dX12_isTold_47 : decode cX12_isTold 47 = .ok (.invokestatic 75, 3) := by decide +kernel
theorem dX12_isTold_50 : decode cX12_isTold 50 = .ok (.ifCond .eq 24, 3) := by decide +kernel
theorem dX12_isTold_53 : decode cX12_isTold 53 = .ok (.aload_n 0, 1) := by decide +kernel
theorem dX12_isTold_54 : decode cX12_isTold 54 = .ok (.getfield 29, 3) := by decide +kernel
theorem dX12_isTold_57 : decode cX12_isTold 57 = .ok (.iload_n 2, 1) := by decide +kernel
theorem dX12_isTold_58 : decode cX12_isTold 58 = .ok (.iconst 1, 1) := by decide +kernel
theorem dX12_isTold_59 : decode cX12_isTold 59 = .ok (.iadd, 1) := by decide +kernel
theorem dX12_isTold_60 : decode cX12_isTold 60 = .ok (.baload, 1) := by decide +kernel
theorem dX12_isTold_61 : decode cX12_isTold 61 = .ok (.iconst 0, 1) := by decide +kernel
theorem dX12_isTold_62 : decode cX12_isTold 62 = .ok (.bipush 10, 2) := by decide +kernel
theorem dX12_isTold_64 : decode cX12_isTold 64 = .ok (.invokestatic 75, 3) := by decide +kernel
theorem dX12_isTold_67 : decode cX12_isTold 67 = .ok (.ifCond .eq 7, 3) := by decide +kernel
theorem dX12_isTold_70 : decode cX12_isTold 70 = .ok (.iconst 1, 1) := by decide +kernel
theorem dX12_isTold_71 : decode cX12_isTold 71 = .ok (.goto 4, 3) := by decide +kernel
theorem dX12_isTold_74 : decode cX12_isTold 74 = .ok (.iconst 0, 1) := by decide +kernel
theorem dX12_isTold_75 : decode cX12_isTold 75 = .ok (.istore_n 1, 1) := by decide +kernel
theorem dX12_isTold_76 : decode cX12_isTold 76 = .ok (.iinc 2 2, 3) := by decide +kernel
theorem dX12_isTold_79 : decode cX12_isTold 79 = .ok (.goto (-53), 3) := by decide +kernel
theorem dX12_isTold_82 : decode cX12_isTold 82 = .ok (.iload_n 1, 1) := by decide +kernel
theorem dX12_isTold_83 : decode cX12_isTold 83 = .ok (.ireturn, 1) := by decide +kernel
set_option maxRecDepth 20000 in
theorem ggX12_heightWith_X12_loadOf : GoodIn wsX12_heightWith wsX12_loadOf := goodIn_r _ [5, 6, 7, 8, 9, 4, 10, 11, 12, 13, 14, 15, 16, 17, 18, 19, 20, 21, 22, 23, 24, 25, 26, 27, 28, 29, 30, 31, 32, 33, 34, 35, 47, 48, 49, 50, 51, 52, 53, 54, 55, 56, 57, 58, 59, 60, 61, 62, 63, 64, 65, 66] (by decide +kernel) (by decide +kernel)
set_option maxRecDepth 20000 in
theorem gX12_heightWith_X12_loadOf : GoodIn wsX12_heightWith (wsV RX12 269 RX12 yX12_loadOf wsX12_loadOf) := goodIn_app (goodIn_of _ (by decide +kernel)) ggX12_heightWith_X12_loadOf
set_option maxRecDepth 20000 in
theorem ggX12_heightWith_X12_weightOf : GoodIn wsX12_heightWith wsX12_weightOf := goodIn_r _ [25, 11, 12, 13, 4, 14, 6, 26, 27, 28, 15, 16, 17, 18, 19, 20, 21, 47, 48, 49, 50, 51, 52, 53, 54, 55, 56, 57, 58, 59, 60, 61, 62, 63, 64, 65, 66] (by decide +kernel) (by decide +kernel)
set_option maxRecDepth 20000 in
theorem gX12_heightWith_X12_weightOf : GoodIn wsX12_heightWith (wsV RX12 252 RX12 yX12_weightOf wsX12_weightOf) := goodIn_app (goodIn_of _ (by decide +kernel)) ggX12_heightWith_X12_weightOf
set_option maxRecDepth 20000 in
theorem ggX12_heightWith_X12_tiltBy : GoodIn wsX12_heightWith wsX12_tiltBy := goodIn_r _ [39, 6, 40, 41, 42, 43, 44, 45, 46, 47, 48, 49, 50, 51, 52, 53, 54, 55, 56, 57, 58, 59, 60, 61, 62, 63, 64, 65, 66] (by decide +kernel) (by decide +kernel)
set_option maxRecDepth 20000 in
theorem gX12_heightWith_X12_tiltBy : GoodIn wsX12_heightWith (wsV RX12 272 RX12 yX12_tiltBy wsX12_tiltBy) := goodIn_app (goodIn_of _ (by decide +kernel)) ggX12_heightWith_X12_tiltBy
theorem dX12_heightWith_0 : decode cX12_heightWith 0 = .ok (.iconst 5, 1) := by decide +kernel
theorem dX12_heightWith_1 : decode cX12_heightWith 1 = .ok (.aload_n 0, 1) := by decide +kernel
theorem dX12_heightWith_2 : decode cX12_heightWith 2 = .ok (.aload_n 0, 1) := by decide +kernel
theorem dX12_heightWith_3 : decode cX12_heightWith 3 = .ok (.iconst 2, 1) := by decide +kernel
theorem dX12_heightWith_4 : decode cX12_heightWith 4 = .ok (.iload_n 1, 1) := by decide +kernel
theorem dX12_heightWith_5 : decode cX12_heightWith 5 = .ok (.imul, 1) := by decide +kernel
theorem dX12_heightWith_6 : decode cX12_heightWith 6 = .ok (.iconst 1, 1) := by decide +kernel
theorem dX12_heightWith_7 : decode cX12_heightWith 7 = .ok (.iadd, 1) := by decide +kernel
theorem dX12_heightWith_8 : decode cX12_heightWith 8 = .ok (.invokevirtual 269, 3) := by decide +kernel
theorem dX12_heightWith_11 : decode cX12_heightWith 11 = .ok (.aload_n 0, 1) := by decide +kernel
theorem dX12_heightWith_12 : decode cX12_heightWith 12 = .ok (.iconst 2, 1) := by decide +kernel
theorem dX12_heightWith_13 : decode cX12_heightWith 13 = .ok (.iload_n 1, 1) := by decide +kernel
theorem dX12_heightWith_14 : decode cX12_heightWith 14 = .ok (.imul, 1) := by decide +kernel
theorem dX12_heightWith_15 : decode cX12_heightWith 15 = .ok (.invokevirtual 269, 3) := by decide +kernel
theorem dX12_heightWith_18 : decode cX12_heightWith 18 = .ok (.isub, 1) := by decide +kernel
theorem dX12_heightWith_19 : decode cX12_heightWith 19 = .ok (.aload_n 0, 1) := by decide +kernel
theorem dX12_heightWith_20 : decode cX12_heightWith 20 = .ok (.iload_n 2, 1) := by decide +kernel
theorem dX12_heightWith_21 : decode cX12_heightWith 21 = .ok (.invokevirtual 252, 3) := by decide +kernel
theorem dX12_heightWith_24 : decode cX12_heightWith 24 = .ok (.isub, 1) := by decide +kernel
theorem dX12_heightWith_25 : decode cX12_heightWith 25 = .ok (.iconst 5, 1) := by decide +kernel
theorem dX12_heightWith_26 : decode cX12_heightWith 26 = .ok (.iload_n 3, 1) := by decide +kernel
theorem dX12_heightWith_27 : decode cX12_heightWith 27 = .ok (.imul, 1) := by decide +kernel
theorem dX12_heightWith_28 : decode cX12_heightWith 28 = .ok (.isub, 1) := by decide +kernel
theorem dX12_heightWith_29 : decode cX12_heightWith 29 = .ok (.invokevirtual 272, 3) := by decide +kernel
theorem dX12_heightWith_32 : decode cX12_heightWith 32 = .ok (.iadd, 1) := by decide +kernel
theorem dX12_heightWith_33 : decode cX12_heightWith 33 = .ok (.ireturn, 1) := by decide +kernel
set_option maxRecDepth 20000 in
theorem ggX12_fits_X12_goneOnes : GoodIn wsX12_fits wsX12_goneOnes := goodIn_r _ [7, 8, 9, 10, 6, 11, 12, 13, 14, 15, 16, 17, 18, 19, 20, 21, 22, 23, 61, 62, 63, 64, 65, 66, 67, 68, 69, 70, 71, 72, 73, 74, 75, 76, 77, 78, 79, 80] (by decide +kernel) (by decide +kernel)
set_option maxRecDepth 20000 in
theorem gX12_fits_X12_goneOnes : GoodIn wsX12_fits (wsV RX12 377 RX12 yX12_goneOnes wsX12_goneOnes) := goodIn_app (goodIn_of _ (by decide +kernel)) ggX12_fits_X12_goneOnes
set_option maxRecDepth 20000 in
theorem ggX12_fits_X12_heightWith : GoodIn wsX12_fits wsX12_heightWith := goodIn_r _ [27, 28, 29, 30, 6, 31, 12, 32, 33, 34, 35, 8, 9, 10, 11, 17, 18, 19, 20, 21, 22, 23, 36, 37, 38, 39, 40, 41, 42, 43, 44, 45, 46, 47, 48, 49, 50, 51, 52, 53, 54, 55, 56, 57, 58, 59, 60, 61, 62, 63, 64, 65, 66, 67, 68, 69, 70, 71, 72, 73, 74, 75, 76, 77, 78, 79, 80] (by decide +kernel) (by decide +kernel)
set_option maxRecDepth 20000 in
theorem gX12_fits_X12_heightWith : GoodIn wsX12_fits (wsV RX12 424 RX12 yX12_heightWith wsX12_heightWith) := goodIn_app (goodIn_of _ (by decide +kernel)) ggX12_fits_X12_heightWith
theorem dX12_fits_0 : decode cX12_fits 0 = .ok (.iload_n 2, 1) := by decide +kernel
theorem dX12_fits_1 : decode cX12_fits 1 = .ok (.aload_n 0, 1) := by decide +kernel
theorem dX12_fits_2 : decode cX12_fits 2 = .ok (.invokevirtual 377, 3) := by decide +kernel
theorem dX12_fits_5 : decode cX12_fits 5 = .ok (.iconst (-1), 1) := by decide +kernel
theorem dX12_fits_6 : decode cX12_fits 6 = .ok (.ixor, 1) := by decide +kernel
theorem dX12_fits_7 : decode cX12_fits 7 = .ok (.iand, 1) := by decide +kernel
theorem dX12_fits_8 : decode cX12_fits 8 = .ok (.ifCond .ne 7, 3) := by decide +kernel
theorem dX12_fits_11 : decode cX12_fits 11 = .ok (.iconst 1, 1) := by decide +kernel
theorem dX12_fits_12 : decode cX12_fits 12 = .ok (.goto 4, 3) := by decide +kernel
theorem dX12_fits_15 : decode cX12_fits 15 = .ok (.iconst 0, 1) := by decide +kernel
theorem dX12_fits_16 : decode cX12_fits 16 = .ok (.istore_n 3, 1) := by decide +kernel
theorem dX12_fits_17 : decode cX12_fits 17 = .ok (.iconst 0, 1) := by decide +kernel
theorem dX12_fits_18 : decode cX12_fits 18 = .ok (.istore 4, 2) := by decide +kernel
theorem dX12_fits_20 : decode cX12_fits 20 = .ok (.iload 4, 2) := by decide +kernel
theorem dX12_fits_22 : decode cX12_fits 22 = .ok (.aload_n 0, 1) := by decide +kernel
theorem dX12_fits_23 : decode cX12_fits 23 = .ok (.getfield 92, 3) := by decide +kernel
theorem dX12_fits_26 : decode cX12_fits 26 = .ok (.if_icmp .ge 44, 3) := by decide +kernel
theorem dX12_fits_29 : decode cX12_fits 29 = .ok (.iload_n 3, 1) := by decide +kernel
theorem dX12_fits_30 : decode cX12_fits 30 = .ok (.ifCond .eq 40, 3) := by decide +kernel
theorem dX12_fits_33 : decode cX12_fits 33 = .ok (.aload_n 0, 1) := by decide +kernel
theorem dX12_fits_34 : decode cX12_fits 34 = .ok (.iload_n 1, 1) := by decide +kernel
theorem dX12_fits_35 : decode cX12_fits 35 = .ok (.iload_n 2, 1) := by decide +kernel
theorem dX12_fits_36 : decode cX12_fits 36 = .ok (.aload_n 0, 1) := by decide +kernel
theorem dX12_fits_37 : decode cX12_fits 37 = .ok (.getfield 29, 3) := by decide +kernel
theorem dX12_fits_40 : decode cX12_fits 40 = .ok (.iload 4, 2) := by decide +kernel
theorem dX12_fits_42 : decode cX12_fits 42 = .ok (.baload, 1) := by decide +kernel
theorem dX12_fits_43 : decode cX12_fits 43 = .ok (.invokevirtual 424, 3) := by decide +kernel
theorem dX12_fits_46 : decode cX12_fits 46 = .ok (.aload_n 0, 1) := by decide +kernel
theorem dX12_fits_47 : decode cX12_fits 47 = .ok (.getfield 29, 3) := by decide +kernel
theorem dX12_fits_50 : decode cX12_fits 50 = .ok (.iload 4, 2) := by decide +kernel
theorem dX12_fits_52 : decode cX12_fits 52 = .ok (.iconst 1, 1) := by decide +kernel
theorem dX12_fits_53 : decode cX12_fits 53 = .ok (.iadd, 1) := by decide +kernel
theorem dX12_fits_54 : decode cX12_fits 54 = .ok (.baload, 1) := by decide +kernel
theorem dX12_fits_55 : decode cX12_fits 55 = .ok (.if_icmp .ne 7, 3) := by decide +kernel
theorem dX12_fits_58 : decode cX12_fits 58 = .ok (.iconst 1, 1) := by decide +kernel
theorem dX12_fits_59 : decode cX12_fits 59 = .ok (.goto 4, 3) := by decide +kernel
theorem dX12_fits_62 : decode cX12_fits 62 = .ok (.iconst 0, 1) := by decide +kernel
theorem dX12_fits_63 : decode cX12_fits 63 = .ok (.istore_n 3, 1) := by decide +kernel
theorem dX12_fits_64 : decode cX12_fits 64 = .ok (.iinc 4 2, 3) := by decide +kernel
theorem dX12_fits_67 : decode cX12_fits 67 = .ok (.goto (-47), 3) := by decide +kernel
theorem dX12_fits_70 : decode cX12_fits 70 = .ok (.iload_n 3, 1) := by decide +kernel
theorem dX12_fits_71 : decode cX12_fits 71 = .ok (.ireturn, 1) := by decide +kernel
set_option maxRecDepth 20000 in
theorem ggX12_has_X12_uses : GoodIn wsX12_has wsX12_uses := goodIn_r _ [5, 6, 7, 8, 9, 91, 92, 93, 94, 95, 96, 97, 98, 99, 100, 101, 102, 103, 104, 105, 106, 107, 108, 109, 110] (by decide +kernel) (by decide +kernel)
set_option maxRecDepth 20000 in
theorem gX12_has_X12_uses : GoodIn wsX12_has (wsV RX12 231 RX12 yX12_uses wsX12_uses) := goodIn_app (goodIn_of _ (by decide +kernel)) ggX12_has_X12_uses
set_option maxRecDepth 20000 in
theorem ggX12_has_X12_noPlank : GoodIn wsX12_has wsX12_noPlank := goodIn_r _ [13, 14, 15, 16, 4, 17, 18, 19, 20, 21, 91, 92, 93, 94, 95, 96, 97, 98, 99, 100, 101, 102, 103, 104, 105, 106, 107, 108, 109, 110] (by decide +kernel) (by decide +kernel)
set_option maxRecDepth 20000 in
theorem gX12_has_X12_noPlank : GoodIn wsX12_has (wsV RX12 309 RX12 yX12_noPlank wsX12_noPlank) := goodIn_app (goodIn_of _ (by decide +kernel)) ggX12_has_X12_noPlank
set_option maxRecDepth 20000 in
theorem ggX12_has_X12_throwsIf : GoodIn wsX12_has wsX12_throwsIf := goodIn_r _ [25, 6, 91, 92, 93, 94, 95, 96, 97, 98, 99, 100, 101, 102, 103, 104, 105, 106, 107, 108, 109, 110] (by decide +kernel) (by decide +kernel)
set_option maxRecDepth 20000 in
theorem gX12_has_X12_throwsIf : GoodIn wsX12_has (wsV RX12 242 RX12 yX12_throwsIf wsX12_throwsIf) := goodIn_app (goodIn_of _ (by decide +kernel)) ggX12_has_X12_throwsIf
set_option maxRecDepth 20000 in
theorem ggX12_has_X12_isTold : GoodIn wsX12_has wsX12_isTold := goodIn_r _ [29, 8, 30, 19, 20, 4, 21, 91, 92, 93, 94, 95, 96, 97, 98, 99, 100, 101, 102, 103, 104, 105, 106, 107, 108, 109, 110] (by decide +kernel) (by decide +kernel)
set_option maxRecDepth 20000 in
theorem gX12_has_X12_isTold : GoodIn wsX12_has (wsV RX12 427 RX12 yX12_isTold wsX12_isTold) := goodIn_app (goodIn_of _ (by decide +kernel)) ggX12_has_X12_isTold
set_option maxRecDepth 20000 in
theorem ggX12_has_X12_goneOnes : GoodIn wsX12_has wsX12_goneOnes := goodIn_r _ [34, 35, 36, 37, 4, 38, 18, 39, 40, 41, 42, 43, 44, 45, 46, 47, 48, 49, 91, 92, 93, 94, 95, 96, 97, 98, 99, 100, 101, 102, 103, 104, 105, 106, 107, 108, 109, 110] (by decide +kernel) (by decide +kernel)
set_option maxRecDepth 20000 in
theorem gX12_has_X12_goneOnes : GoodIn wsX12_has (wsV RX12 377 RX12 yX12_goneOnes wsX12_goneOnes) := goodIn_app (goodIn_of _ (by decide +kernel)) ggX12_has_X12_goneOnes
set_option maxRecDepth 20000 in
theorem ggX12_has_X12_fits : GoodIn wsX12_has wsX12_fits := goodIn_r _ [53, 8, 30, 31, 32, 33, 4, 34, 35, 36, 37, 38, 18, 39, 40, 41, 42, 43, 44, 45, 46, 47, 48, 49, 54, 55, 56, 57, 58, 59, 60, 61, 62, 63, 64, 65, 66, 67, 68, 69, 70, 71, 72, 73, 74, 75, 76, 77, 78, 79, 80, 81, 82, 83, 84, 85, 86, 87, 88, 89, 90, 91, 92, 93, 94, 95, 96, 97, 98, 99, 100, 101, 102, 103, 104, 105, 106, 107, 108, 109, 110] (by decide +kernel) (by decide +kernel)
set_option maxRecDepth 20000 in
theorem gX12_has_X12_fits : GoodIn wsX12_has (wsV RX12 430 RX12 yX12_fits wsX12_fits) := goodIn_app (goodIn_of _ (by decide +kernel)) ggX12_has_X12_fits
theorem dX12_has_0 : decode cX12_has 0 = .ok (.aload_n 0, 1) := by decide +kernel
theorem dX12_has_1 : decode cX12_has 1 = .ok (.invokevirtual 231, 3) := by decide +kernel
theorem dX12_has_4 : decode cX12_has 4 = .ok (.aload_n 0, 1) := by decide +kernel
theorem dX12_has_5 : decode cX12_has 5 = .ok (.aload_n 0, 1) := by decide +kernel
theorem dX12_has_6 : decode cX12_has 6 = .ok (.iload_n 1, 1) := by decide +kernel
theorem dX12_has_7 : decode cX12_has 7 = .ok (.invokevirtual 309, 3) := by decide +kernel
theorem dX12_has_10 : decode cX12_has 10 = .ok (.iconst 1, 1) := by decide +kernel
theorem dX12_has_11 : decode cX12_has 11 = .ok (.invokevirtual 242, 3) := by decide +kernel
theorem dX12_has_14 : decode cX12_has 14 = .ok (.ifCond .ne 23, 3) := by decide +kernel
theorem dX12_has_17 : decode cX12_has 17 = .ok (.aload_n 0, 1) := by decide +kernel
theorem dX12_has_18 : decode cX12_has 18 = .ok (.aload_n 0, 1) := by decide +kernel
theorem dX12_has_19 : decode cX12_has 19 = .ok (.invokevirtual 427, 3) := by decide +kernel
theorem dX12_has_22 : decode cX12_has 22 = .ok (.ifCond .ne 7, 3) := by decide +kernel
theorem dX12_has_25 : decode cX12_has 25 = .ok (.iconst 1, 1) := by decide +kernel
theorem dX12_has_26 : decode cX12_has 26 = .ok (.goto 4, 3) := by decide +kernel
theorem dX12_has_29 : decode cX12_has 29 = .ok (.iconst 0, 1) := by decide +kernel
theorem dX12_has_30 : decode cX12_has 30 = .ok (.iconst 2, 1) := by decide +kernel
theorem dX12_has_31 : decode cX12_has 31 = .ok (.invokevirtual 242, 3) := by decide +kernel
theorem dX12_has_34 : decode cX12_has 34 = .ok (.ifCond .eq 5, 3) := by decide +kernel
theorem dX12_has_37 : decode cX12_has 37 = .ok (.iconst 0, 1) := by decide +kernel
theorem dX12_has_38 : decode cX12_has 38 = .ok (.ireturn, 1) := by decide +kernel
theorem dX12_has_39 : decode cX12_has 39 = .ok (.iconst 0, 1) := by decide +kernel
theorem dX12_has_40 : decode cX12_has 40 = .ok (.istore_n 3, 1) := by decide +kernel
theorem dX12_has_41 : decode cX12_has 41 = .ok (.aload_n 0, 1) := by decide +kernel
theorem dX12_has_42 : decode cX12_has 42 = .ok (.invokevirtual 377, 3) := by decide +kernel
theorem dX12_has_45 : decode cX12_has 45 = .ok (.istore 4, 2) := by decide +kernel
theorem dX12_has_47 : decode cX12_has 47 = .ok (.iconst 0, 1) := by decide +kernel
theorem dX12_has_48 : decode cX12_has 48 = .ok (.istore 5, 2) := by decide +kernel
theorem dX12_has_50 : decode cX12_has 50 = .ok (.iload 5, 2) := by decide +kernel
theorem dX12_has_52 : decode cX12_has 52 = .ok (.aload_n 0, 1) := by decide +kernel
theorem dX12_has_53 : decode cX12_has 53 = .ok (.invokevirtual 377, 3) := by decide +kernel
theorem dX12_has_56 : decode cX12_has 56 = .ok (.if_icmp .gt 32, 3) := by decide +kernel
theorem dX12_has_59 : decode cX12_has 59 = .ok (.aload_n 0, 1) := by decide +kernel
theorem dX12_has_60 : decode cX12_has 60 = .ok (.iload_n 1, 1) := by decide +kernel
theorem dX12_has_61 : decode cX12_has 61 = .ok (.iload 5, 2) := by decide +kernel
theorem dX12_has_63 : decode cX12_has 63 = .ok (.invokevirtual 430, 3) := by decide +kernel
theorem dX12_has_66 : decode cX12_has 66 = .ok (.ifCond .ne 6, 3) := by decide +kernel
theorem dX12_has_69 : decode cX12_has 69 = .ok (.goto 13, 3) := by decide +kernel
theorem dX12_has_72 : decode cX12_has 72 = .ok (.iinc 3 1, 3) := by decide +kernel
theorem dX12_has_75 : decode cX12_has 75 = .ok (.iload 4, 2) := by decide +kernel
theorem dX12_has_77 : decode cX12_has 77 = .ok (.iload 5, 2) := by decide +kernel
theorem dX12_has_79 : decode cX12_has 79 = .ok (.iand, 1) := by decide +kernel
theorem dX12_has_80 : decode cX12_has 80 = .ok (.istore 4, 2) := by decide +kernel
theorem dX12_has_82 : decode cX12_has 82 = .ok (.iinc 5 1, 3) := by decide +kernel
theorem dX12_has_85 : decode cX12_has 85 = .ok (.goto (-35), 3) := by decide +kernel
theorem dX12_has_88 : decode cX12_has 88 = .ok (.iload_n 2, 1) := by decide +kernel
theorem dX12_has_89 : decode cX12_has 89 = .ok (.ifCond .ne 7, 3) := by decide +kernel
theorem dX12_has_92 : decode cX12_has 92 = .ok (.iload_n 3, 1) := by decide +kernel
theorem dX12_has_93 : decode cX12_has 93 = .ok (.goto 13, 3) := by decide +kernel
theorem dX12_has_96 : decode cX12_has 96 = .ok (.iload_n 3, 1) := by decide +kernel
theorem dX12_has_97 : decode cX12_has 97 = .ok (.ifCond .ne 7, 3) := by decide +kernel
theorem dX12_has_100 : decode cX12_has 100 = .ok (.iconst 0, 1) := by decide +kernel
theorem dX12_has_101 : decode cX12_has 101 = .ok (.goto 5, 3) := by decide +kernel
theorem dX12_has_104 : decode cX12_has 104 = .ok (.iload 4, 2) := by decide +kernel
theorem dX12_has_106 : decode cX12_has 106 = .ok (.ireturn, 1) := by decide +kernel
set_option maxRecDepth 20000 in
theorem ggX12_greatestPart_X12_goneOnes : GoodIn wsX12_greatestPart wsX12_goneOnes := goodIn_r _ [10, 11, 12, 13, 9, 14, 15, 16, 17, 18, 19, 20, 21, 22, 23, 24, 25, 26, 66, 67, 68, 69, 70, 71, 72, 73, 74, 75, 76, 77, 78, 79, 80, 81, 82, 83, 84, 85] (by decide +kernel) (by decide +kernel)
set_option maxRecDepth 20000 in
theorem gX12_greatestPart_X12_goneOnes : GoodIn wsX12_greatestPart (wsV RX12 377 RX12 yX12_goneOnes wsX12_goneOnes) := goodIn_app (goodIn_of _ (by decide +kernel)) ggX12_greatestPart_X12_goneOnes
set_option maxRecDepth 20000 in
theorem ggX12_greatestPart_X12_fits : GoodIn wsX12_greatestPart wsX12_fits := goodIn_r _ [30, 31, 32, 6, 7, 8, 9, 10, 11, 12, 13, 14, 15, 16, 17, 18, 19, 20, 21, 22, 23, 24, 25, 26, 33, 34, 35, 36, 37, 38, 39, 40, 41, 42, 43, 44, 45, 46, 47, 48, 49, 50, 51, 52, 53, 54, 55, 56, 57, 58, 59, 60, 61, 62, 63, 64, 4, 65, 2, 3, 5, 66, 67, 68, 69, 70, 71, 72, 73, 74, 75, 76, 77, 78, 79, 80, 81, 82, 83, 84, 85] (by decide +kernel) (by decide +kernel)
set_option maxRecDepth 20000 in
theorem gX12_greatestPart_X12_fits : GoodIn wsX12_greatestPart (wsV RX12 430 RX12 yX12_fits wsX12_fits) := goodIn_app (goodIn_of _ (by decide +kernel)) ggX12_greatestPart_X12_fits
set_option maxRecDepth 20000 in
theorem ggX12_greatestPart_X12_heightWith : GoodIn wsX12_greatestPart wsX12_heightWith := goodIn_r _ [36, 37, 38, 39, 9, 40, 15, 41, 42, 43, 44, 11, 12, 13, 14, 20, 21, 22, 23, 24, 25, 26, 45, 46, 47, 48, 49, 50, 51, 52, 53, 54, 55, 56, 57, 58, 59, 60, 61, 62, 63, 64, 4, 65, 2, 3, 5, 66, 67, 68, 69, 70, 71, 72, 73, 74, 75, 76, 77, 78, 79, 80, 81, 82, 83, 84, 85] (by decide +kernel) (by decide +kernel)
set_option maxRecDepth 20000 in
theorem gX12_greatestPart_X12_heightWith : GoodIn wsX12_greatestPart (wsV RX12 424 RX12 yX12_heightWith wsX12_heightWith) := goodIn_app (goodIn_of _ (by decide +kernel)) ggX12_greatestPart_X12_heightWith
theorem dX12_greatestPart_0 : decode cX12_greatestPart 0 = .ok (.iconst 0, 1) := by decide +kernel
theorem dX12_greatestPart_1 : decode cX12_greatestPart 1 = .ok (.istore_n 3, 1) := by decide +kernel
theorem dX12_greatestPart_2 : decode cX12_greatestPart 2 = .ok (.iload_n 3, 1) := by decide +kernel
theorem dX12_greatestPart_3 : decode cX12_greatestPart 3 = .ok (.bipush 10, 2) := by decide +kernel
theorem dX12_greatestPart_5 : decode cX12_greatestPart 5 = .ok (.if_icmp .gt 16, 3) := by decide +kernel
theorem dX12_greatestPart_8 : decode cX12_greatestPart 8 = .ok (.aload_n 0, 1) := by decide +kernel
theorem dX12_greatestPart_9 : decode cX12_greatestPart 9 = .ok (.getfield 45, 3) := by decide +kernel
theorem dX12_greatestPart_12 : decode cX12_greatestPart 12 = .ok (.iload_n 3, 1) := by decide +kernel
theorem dX12_greatestPart_13 : decode cX12_greatestPart 13 = .ok (.iconst 0, 1) := by decide +kernel
theorem dX12_greatestPart_14 : decode cX12_greatestPart 14 = .ok (.iastore, 1) := by decide +kernel
theorem dX12_greatestPart_15 : decode cX12_greatestPart 15 = .ok (.iinc 3 1, 3) := by decide +kernel
theorem dX12_greatestPart_18 : decode cX12_greatestPart 18 = .ok (.goto (-16), 3) := by decide +kernel
theorem dX12_greatestPart_21 : decode cX12_greatestPart 21 = .ok (.iconst 0, 1) := by decide +kernel
theorem dX12_greatestPart_22 : decode cX12_greatestPart 22 = .ok (.istore_n 3, 1) := by decide +kernel
theorem dX12_greatestPart_23 : decode cX12_greatestPart 23 = .ok (.iload_n 3, 1) := by decide +kernel
theorem dX12_greatestPart_24 : decode cX12_greatestPart 24 = .ok (.aload_n 0, 1) := by decide +kernel
theorem dX12_greatestPart_25 : decode cX12_greatestPart 25 = .ok (.invokevirtual 377, 3) := by decide +kernel
theorem dX12_greatestPart_28 : decode cX12_greatestPart 28 = .ok (.if_icmp .gt 34, 3) := by decide +kernel
theorem dX12_greatestPart_31 : decode cX12_greatestPart 31 = .ok (.aload_n 0, 1) := by decide +kernel
theorem dX12_greatestPart_32 : decode cX12_greatestPart 32 = .ok (.iload_n 1, 1) := by decide +kernel
theorem dX12_greatestPart_33 : decode cX12_greatestPart 33 = .ok (.iload_n 3, 1) := by decide +kernel
theorem dX12_greatestPart_34 : decode cX12_greatestPart 34 = .ok (.invokevirtual 430, 3) := by decide +kernel
theorem dX12_greatestPart_37 : decode cX12_greatestPart 37 = .ok (.ifCond .eq 19, 3) := by decide +kernel
theorem dX12_greatestPart_40 : decode cX12_greatestPart 40 = .ok (.aload_n 0, 1) := by decide +kernel
theorem dX12_greatestPart_41 : decode cX12_greatestPart 41 = .ok (.getfield 45, 3) := by decide +kernel
theorem dX12_greatestPart_44 : decode cX12_greatestPart 44 = .ok (.aload_n 0, 1) := by decide +kernel
theorem dX12_greatestPart_45 : decode cX12_greatestPart 45 = .ok (.iload_n 1, 1) := by decide +kernel
theorem dX12_greatestPart_46 : decode cX12_greatestPart 46 = .ok (.iload_n 3, 1) := by decide +kernel
theorem dX12_greatestPart_47 : decode cX12_greatestPart 47 = .ok (.iload_n 2, 1) := by decide +kernel
theorem dX12_greatestPart_48 : decode cX12_greatestPart 48 = .ok (.invokevirtual 424, 3) := by decide +kernel
theorem dX12_greatestPart_51 : decode cX12_greatestPart 51 = .ok (.dup2, 1) := by decide +kernel
theorem dX12_greatestPart_52 : decode cX12_greatestPart 52 = .ok (.iaload, 1) := by decide +kernel
theorem dX12_greatestPart_53 : decode cX12_greatestPart 53 = .ok (.iconst 1, 1) := by decide +kernel
theorem dX12_greatestPart_54 : decode cX12_greatestPart 54 = .ok (.iadd, 1) := by decide +kernel
theorem dX12_greatestPart_55 : decode cX12_greatestPart 55 = .ok (.iastore, 1) := by decide +kernel
theorem dX12_greatestPart_56 : decode cX12_greatestPart 56 = .ok (.iinc 3 1, 3) := by decide +kernel
theorem dX12_greatestPart_59 : decode cX12_greatestPart 59 = .ok (.goto (-36), 3) := by decide +kernel
theorem dX12_greatestPart_62 : decode cX12_greatestPart 62 = .ok (.iconst 0, 1) := by decide +kernel
theorem dX12_greatestPart_63 : decode cX12_greatestPart 63 = .ok (.istore_n 3, 1) := by decide +kernel
theorem dX12_greatestPart_64 : decode cX12_greatestPart 64 = .ok (.iconst 0, 1) := by decide +kernel
theorem dX12_greatestPart_65 : decode cX12_greatestPart 65 = .ok (.istore 4, 2) := by decide +kernel
theorem dX12_greatestPart_67 : decode cX12_greatestPart 67 = .ok (.iload 4, 2) := by decide +kernel
theorem dX12_greatestPart_69 : decode cX12_greatestPart 69 = .ok (.bipush 10, 2) := by decide +kernel
theorem dX12_greatestPart_71 : decode cX12_greatestPart 71 = .ok (.if_icmp .gt 21, 3) := by decide +kernel
theorem dX12_greatestPart_74 : decode cX12_greatestPart 74 = .ok (.iload_n 3, 1) := by decide +kernel
theorem dX12_greatestPart_75 : decode cX12_greatestPart 75 = .ok (.aload_n 0, 1) := by decide +kernel
theorem dX12_greatestPart_76 : decode cX12_greatestPart 76 = .ok (.getfield 45, 3) := by decide +kernel
theorem dX12_greatestPart_79 : decode cX12_greatestPart 79 = .ok (.iload 4, 2) := by decide +kernel
theorem dX12_greatestPart_81 : decode cX12_greatestPart 81 = .ok (.iaload, 1) := by decide +kernel
theorem dX12_greatestPart_82 : decode cX12_greatestPart 82 = .ok (.invokestatic 263, 3) := by decide +kernel
theorem dX12_greatestPart_85 : decode cX12_greatestPart 85 = .ok (.istore_n 3, 1) := by decide +kernel
theorem dX12_greatestPart_86 : decode cX12_greatestPart 86 = .ok (.iinc 4 1, 3) := by decide +kernel
theorem dX12_greatestPart_89 : decode cX12_greatestPart 89 = .ok (.goto (-22), 3) := by decide +kernel
theorem dX12_greatestPart_92 : decode cX12_greatestPart 92 = .ok (.iload_n 3, 1) := by decide +kernel
theorem dX12_greatestPart_93 : decode cX12_greatestPart 93 = .ok (.ireturn, 1) := by decide +kernel
set_option maxRecDepth 20000 in
theorem ggX12_ask_X12_uses : GoodIn wsX12_ask wsX12_uses := goodIn_r _ [10, 11, 12, 13, 14, 97, 98, 99, 100, 101, 102, 103, 104, 105, 106, 107, 108, 109, 110, 111, 112, 113, 114, 115, 116] (by decide +kernel) (by decide +kernel)
set_option maxRecDepth 20000 in
theorem gX12_ask_X12_uses : GoodIn wsX12_ask (wsV RX12 231 RX12 yX12_uses wsX12_uses) := goodIn_app (goodIn_of _ (by decide +kernel)) ggX12_ask_X12_uses
set_option maxRecDepth 20000 in
theorem ggX12_ask_X12_noPlank : GoodIn wsX12_ask wsX12_noPlank := goodIn_r _ [18, 19, 20, 21, 9, 22, 23, 24, 25, 26, 97, 98, 99, 100, 101, 102, 103, 104, 105, 106, 107, 108, 109, 110, 111, 112, 113, 114, 115, 116] (by decide +kernel) (by decide +kernel)
set_option maxRecDepth 20000 in
theorem gX12_ask_X12_noPlank : GoodIn wsX12_ask (wsV RX12 309 RX12 yX12_noPlank wsX12_noPlank) := goodIn_app (goodIn_of _ (by decide +kernel)) ggX12_ask_X12_noPlank
set_option maxRecDepth 20000 in
theorem ggX12_ask_X12_throwsIf : GoodIn wsX12_ask wsX12_throwsIf := goodIn_r _ [30, 11, 97, 98, 99, 100, 101, 102, 103, 104, 105, 106, 107, 108, 109, 110, 111, 112, 113, 114, 115, 116] (by decide +kernel) (by decide +kernel)
set_option maxRecDepth 20000 in
theorem gX12_ask_X12_throwsIf : GoodIn wsX12_ask (wsV RX12 242 RX12 yX12_throwsIf wsX12_throwsIf) := goodIn_app (goodIn_of _ (by decide +kernel)) ggX12_ask_X12_throwsIf
set_option maxRecDepth 20000 in
theorem ggX12_ask_X12_isTold : GoodIn wsX12_ask wsX12_isTold := goodIn_r _ [34, 13, 35, 24, 25, 9, 26, 97, 98, 99, 100, 101, 102, 103, 104, 105, 106, 107, 108, 109, 110, 111, 112, 113, 114, 115, 116] (by decide +kernel) (by decide +kernel)
set_option maxRecDepth 20000 in
theorem gX12_ask_X12_isTold : GoodIn wsX12_ask (wsV RX12 427 RX12 yX12_isTold wsX12_isTold) := goodIn_app (goodIn_of _ (by decide +kernel)) ggX12_ask_X12_isTold
set_option maxRecDepth 20000 in
theorem ggX12_ask_X12_goneOnes : GoodIn wsX12_ask wsX12_goneOnes := goodIn_r _ [39, 40, 41, 42, 9, 43, 23, 44, 45, 46, 47, 48, 49, 50, 51, 52, 53, 54, 97, 98, 99, 100, 101, 102, 103, 104, 105, 106, 107, 108, 109, 110, 111, 112, 113, 114, 115, 116] (by decide +kernel) (by decide +kernel)
set_option maxRecDepth 20000 in
theorem gX12_ask_X12_goneOnes : GoodIn wsX12_ask (wsV RX12 377 RX12 yX12_goneOnes wsX12_goneOnes) := goodIn_app (goodIn_of _ (by decide +kernel)) ggX12_ask_X12_goneOnes
set_option maxRecDepth 20000 in
theorem ggX12_ask_X12_fits : GoodIn wsX12_ask wsX12_fits := goodIn_r _ [58, 13, 35, 36, 37, 38, 9, 39, 40, 41, 42, 43, 23, 44, 45, 46, 47, 48, 49, 50, 51, 52, 53, 54, 59, 60, 61, 62, 63, 64, 65, 66, 67, 68, 69, 70, 71, 72, 73, 74, 75, 76, 77, 78, 79, 80, 81, 82, 83, 84, 85, 86, 87, 88, 2, 3, 4, 5, 89, 90, 91, 97, 98, 99, 100, 101, 102, 103, 104, 105, 106, 107, 108, 109, 110, 111, 112, 113, 114, 115, 116] (by decide +kernel) (by decide +kernel)
set_option maxRecDepth 20000 in
theorem gX12_ask_X12_fits : GoodIn wsX12_ask (wsV RX12 430 RX12 yX12_fits wsX12_fits) := goodIn_app (goodIn_of _ (by decide +kernel)) ggX12_ask_X12_fits
set_option maxRecDepth 20000 in
theorem ggX12_ask_X12_greatestPart : GoodIn wsX12_ask wsX12_greatestPart := goodIn_r _ [95, 96, 89, 90, 4, 91, 36, 37, 38, 9, 39, 40, 41, 42, 43, 23, 44, 45, 46, 47, 48, 49, 50, 51, 52, 53, 54, 55, 56, 57, 58, 13, 35, 59, 60, 61, 62, 63, 64, 65, 66, 67, 68, 69, 70, 71, 72, 73, 74, 75, 76, 77, 78, 79, 80, 81, 82, 83, 84, 85, 86, 87, 88, 2, 3, 5, 97, 98, 99, 100, 101, 102, 103, 104, 105, 106, 107, 108, 109, 110, 111, 112, 113, 114, 115, 116] (by decide +kernel) (by decide +kernel)
set_option maxRecDepth 20000 in
theorem gX12_ask_X12_greatestPart : GoodIn wsX12_ask (wsV RX12 433 RX12 yX12_greatestPart wsX12_greatestPart) := goodIn_app (goodIn_of _ (by decide +kernel)) ggX12_ask_X12_greatestPart
theorem dX12_ask_0 : decode cX12_ask 0 = .ok (.aload_n 0, 1) := by decide +kernel
theorem dX12_ask_1 : decode cX12_ask 1 = .ok (.invokevirtual 231, 3) := by decide +kernel
theorem dX12_ask_4 : decode cX12_ask 4 = .ok (.aload_n 0, 1) := by decide +kernel
theorem dX12_ask_5 : decode cX12_ask 5 = .ok (.aload_n 0, 1) := by decide +kernel
theorem dX12_ask_6 : decode cX12_ask 6 = .ok (.iload_n 1, 1) := by decide +kernel
theorem dX12_ask_7 : decode cX12_ask 7 = .ok (.invokevirtual 309, 3) := by decide +kernel
theorem dX12_ask_10 : decode cX12_ask 10 = .ok (.iconst 1, 1) := by decide +kernel
theorem dX12_ask_11 : decode cX12_ask 11 = .ok (.invokevirtual 242, 3) := by decide +kernel
theorem dX12_ask_14 : decode cX12_ask 14 = .ok (.ifCond .ne 23, 3) := by decide +kernel
theorem dX12_ask_17 : decode cX12_ask 17 = .ok (.aload_n 0, 1) := by decide +kernel
theorem dX12_ask_18 : decode cX12_ask 18 = .ok (.aload_n 0, 1) := by decide +kernel
theorem dX12_ask_19 : decode cX12_ask 19 = .ok (.invokevirtual 427, 3) := by decide +kernel
theorem dX12_ask_22 : decode cX12_ask 22 = .ok (.ifCond .ne 7, 3) := by decide +kernel
theorem dX12_ask_25 : decode cX12_ask 25 = .ok (.iconst 1, 1) := by decide +kernel
theorem dX12_ask_26 : decode cX12_ask 26 = .ok (.goto 4, 3) := by decide +kernel
theorem dX12_ask_29 : decode cX12_ask 29 = .ok (.iconst 0, 1) := by decide +kernel
theorem dX12_ask_30 : decode cX12_ask 30 = .ok (.iconst 2, 1) := by decide +kernel
theorem dX12_ask_31 : decode cX12_ask 31 = .ok (.invokevirtual 242, 3) := by decide +kernel
theorem dX12_ask_34 : decode cX12_ask 34 = .ok (.ifCond .eq 5, 3) := by decide +kernel
theorem dX12_ask_37 : decode cX12_ask 37 = .ok (.iconst 0, 1) := by decide +kernel
theorem dX12_ask_38 : decode cX12_ask 38 = .ok (.ireturn, 1) := by decide +kernel
theorem dX12_ask_39 : decode cX12_ask 39 = .ok (.iconst 0, 1) := by decide +kernel
theorem dX12_ask_40 : decode cX12_ask 40 = .ok (.istore_n 2, 1) := by decide +kernel
theorem dX12_ask_41 : decode cX12_ask 41 = .ok (.iconst 0, 1) := by decide +kernel
theorem dX12_ask_42 : decode cX12_ask 42 = .ok (.istore_n 3, 1) := by decide +kernel
theorem dX12_ask_43 : decode cX12_ask 43 = .ok (.iload_n 3, 1) := by decide +kernel
theorem dX12_ask_44 : decode cX12_ask 44 = .ok (.aload_n 0, 1) := by decide +kernel
theorem dX12_ask_45 : decode cX12_ask 45 = .ok (.invokevirtual 377, 3) := by decide +kernel
theorem dX12_ask_48 : decode cX12_ask 48 = .ok (.if_icmp .gt 26, 3) := by decide +kernel
theorem dX12_ask_51 : decode cX12_ask 51 = .ok (.iload_n 2, 1) := by decide +kernel
theorem dX12_ask_52 : decode cX12_ask 52 = .ok (.aload_n 0, 1) := by decide +kernel
theorem dX12_ask_53 : decode cX12_ask 53 = .ok (.iload_n 1, 1) := by decide +kernel
theorem dX12_ask_54 : decode cX12_ask 54 = .ok (.iload_n 3, 1) := by decide +kernel
theorem dX12_ask_55 : decode cX12_ask 55 = .ok (.invokevirtual 430, 3) := by decide +kernel
theorem dX12_ask_58 : decode cX12_ask 58 = .ok (.ifCond .eq 7, 3) := by decide +kernel
theorem dX12_ask_61 : decode cX12_ask 61 = .ok (.iconst 1, 1) := by decide +kernel
theorem dX12_ask_62 : decode cX12_ask 62 = .ok (.goto 4, 3) := by decide +kernel
theorem dX12_ask_65 : decode cX12_ask 65 = .ok (.iconst 0, 1) := by decide +kernel
theorem dX12_ask_66 : decode cX12_ask 66 = .ok (.iadd, 1) := by decide +kernel
theorem dX12_ask_67 : decode cX12_ask 67 = .ok (.istore_n 2, 1) := by decide +kernel
theorem dX12_ask_68 : decode cX12_ask 68 = .ok (.iinc 3 1, 3) := by decide +kernel
theorem dX12_ask_71 : decode cX12_ask 71 = .ok (.goto (-28), 3) := by decide +kernel
theorem dX12_ask_74 : decode cX12_ask 74 = .ok (.iconst (-1), 1) := by decide +kernel
theorem dX12_ask_75 : decode cX12_ask 75 = .ok (.istore_n 3, 1) := by decide +kernel
theorem dX12_ask_76 : decode cX12_ask 76 = .ok (.ldc_w 401, 3) := by decide +kernel
theorem dX12_ask_79 : decode cX12_ask 79 = .ok (.istore 4, 2) := by decide +kernel
theorem dX12_ask_81 : decode cX12_ask 81 = .ok (.iconst 0, 1) := by decide +kernel
theorem dX12_ask_82 : decode cX12_ask 82 = .ok (.istore 5, 2) := by decide +kernel
theorem dX12_ask_84 : decode cX12_ask 84 = .ok (.iload 5, 2) := by decide +kernel
theorem dX12_ask_86 : decode cX12_ask 86 = .ok (.bipush 20, 2) := by decide +kernel
theorem dX12_ask_88 : decode cX12_ask 88 = .ok (.if_icmp .gt 46, 3) := by decide +kernel
theorem dX12_ask_91 : decode cX12_ask 91 = .ok (.iload_n 2, 1) := by decide +kernel
theorem dX12_ask_92 : decode cX12_ask 92 = .ok (.iconst 1, 1) := by decide +kernel
theorem dX12_ask_93 : decode cX12_ask 93 = .ok (.if_icmp .le 41, 3) := by decide +kernel
theorem dX12_ask_96 : decode cX12_ask 96 = .ok (.aload_n 0, 1) := by decide +kernel
theorem dX12_ask_97 : decode cX12_ask 97 = .ok (.iload_n 1, 1) := by decide +kernel
theorem dX12_ask_98 : decode cX12_ask 98 = .ok (.iload 5, 2) := by decide +kernel
theorem dX12_ask_100 : decode cX12_ask 100 = .ok (.invokevirtual 433, 3) := by decide +kernel
theorem dX12_ask_103 : decode cX12_ask 103 = .ok (.istore 6, 2) := by decide +kernel
theorem dX12_ask_105 : decode cX12_ask 105 = .ok (.iload 6, 2) := by decide +kernel
theorem dX12_ask_107 : decode cX12_ask 107 = .ok (.iload 4, 2) := by decide +kernel
theorem dX12_ask_109 : decode cX12_ask 109 = .ok (.if_icmp .ge 8, 3) := by decide +kernel
theorem dX12_ask_112 : decode cX12_ask 112 = .ok (.iload 5, 2) := by decide +kernel
theorem dX12_ask_114 : decode cX12_ask 114 = .ok (.goto 4, 3) := by decide +kernel
theorem dX12_ask_117 : decode cX12_ask 117 = .ok (.iload_n 3, 1) := by decide +kernel
theorem dX12_ask_118 : decode cX12_ask 118 = .ok (.istore_n 3, 1) := by decide +kernel
theorem dX12_ask_119 : decode cX12_ask 119 = .ok (.iload 4, 2) := by decide +kernel
theorem dX12_ask_121 : decode cX12_ask 121 = .ok (.iload 6, 2) := by decide +kernel
theorem dX12_ask_123 : decode cX12_ask 123 = .ok (.invokestatic 258, 3) := by decide +kernel
theorem dX12_ask_126 : decode cX12_ask 126 = .ok (.istore 4, 2) := by decide +kernel
theorem dX12_ask_128 : decode cX12_ask 128 = .ok (.iinc 5 1, 3) := by decide +kernel
theorem dX12_ask_131 : decode cX12_ask 131 = .ok (.goto (-47), 3) := by decide +kernel
theorem dX12_ask_134 : decode cX12_ask 134 = .ok (.iload_n 3, 1) := by decide +kernel
theorem dX12_ask_135 : decode cX12_ask 135 = .ok (.ireturn, 1) := by decide +kernel
set_option maxRecDepth 20000 in
theorem ggX12_hasBy_X12_loadOf : GoodIn wsX12_hasBy wsX12_loadOf := goodIn_r _ [6, 1, 7, 8, 9, 5, 10, 11, 12, 13, 14, 15, 16, 17, 18, 19, 20, 21, 22, 23, 24, 25, 26, 27, 28, 29, 30, 31, 32, 33, 34, 35, 47, 48, 49, 50, 51, 52, 53, 54, 55, 56, 57, 58, 59, 60, 61, 62, 63, 64, 65, 66] (by decide +kernel) (by decide +kernel)
set_option maxRecDepth 20000 in
theorem gX12_hasBy_X12_loadOf : GoodIn wsX12_hasBy (wsV RX12 269 RX12 yX12_loadOf wsX12_loadOf) := goodIn_app (goodIn_of _ (by decide +kernel)) ggX12_hasBy_X12_loadOf
set_option maxRecDepth 20000 in
theorem ggX12_hasBy_X12_tiltBy : GoodIn wsX12_hasBy wsX12_tiltBy := goodIn_r _ [39, 1, 40, 41, 42, 43, 44, 45, 46, 47, 48, 49, 50, 51, 52, 53, 54, 55, 56, 57, 58, 59, 60, 61, 62, 63, 64, 65, 66] (by decide +kernel) (by decide +kernel)
set_option maxRecDepth 20000 in
theorem gX12_hasBy_X12_tiltBy : GoodIn wsX12_hasBy (wsV RX12 272 RX12 yX12_tiltBy wsX12_tiltBy) := goodIn_app (goodIn_of _ (by decide +kernel)) ggX12_hasBy_X12_tiltBy
theorem dX12_hasBy_0 : decode cX12_hasBy 0 = .ok (.aload_n 0, 1) := by decide +kernel
theorem dX12_hasBy_1 : decode cX12_hasBy 1 = .ok (.aload_n 0, 1) := by decide +kernel
theorem dX12_hasBy_2 : decode cX12_hasBy 2 = .ok (.iconst 2, 1) := by decide +kernel
theorem dX12_hasBy_3 : decode cX12_hasBy 3 = .ok (.iload_n 1, 1) := by decide +kernel
theorem dX12_hasBy_4 : decode cX12_hasBy 4 = .ok (.imul, 1) := by decide +kernel
theorem dX12_hasBy_5 : decode cX12_hasBy 5 = .ok (.iconst 1, 1) := by decide +kernel
theorem dX12_hasBy_6 : decode cX12_hasBy 6 = .ok (.iadd, 1) := by decide +kernel
theorem dX12_hasBy_7 : decode cX12_hasBy 7 = .ok (.invokevirtual 269, 3) := by decide +kernel
theorem dX12_hasBy_10 : decode cX12_hasBy 10 = .ok (.iload_n 3, 1) := by decide +kernel
theorem dX12_hasBy_11 : decode cX12_hasBy 11 = .ok (.aload_n 0, 1) := by decide +kernel
theorem dX12_hasBy_12 : decode cX12_hasBy 12 = .ok (.getfield 13, 3) := by decide +kernel
theorem dX12_hasBy_15 : decode cX12_hasBy 15 = .ok (.bipush 6, 2) := by decide +kernel
theorem dX12_hasBy_17 : decode cX12_hasBy 17 = .ok (.iaload, 1) := by decide +kernel
theorem dX12_hasBy_18 : decode cX12_hasBy 18 = .ok (.imul, 1) := by decide +kernel
theorem dX12_hasBy_19 : decode cX12_hasBy 19 = .ok (.iadd, 1) := by decide +kernel
theorem dX12_hasBy_20 : decode cX12_hasBy 20 = .ok (.aload_n 0, 1) := by decide +kernel
theorem dX12_hasBy_21 : decode cX12_hasBy 21 = .ok (.iconst 2, 1) := by decide +kernel
theorem dX12_hasBy_22 : decode cX12_hasBy 22 = .ok (.iload_n 1, 1) := by decide +kernel
theorem dX12_hasBy_23 : decode cX12_hasBy 23 = .ok (.imul, 1) := by decide +kernel
theorem dX12_hasBy_24 : decode cX12_hasBy 24 = .ok (.invokevirtual 269, 3) := by decide +kernel
theorem dX12_hasBy_27 : decode cX12_hasBy 27 = .ok (.isub, 1) := by decide +kernel
theorem dX12_hasBy_28 : decode cX12_hasBy 28 = .ok (.iload_n 2, 1) := by decide +kernel
theorem dX12_hasBy_29 : decode cX12_hasBy 29 = .ok (.aload_n 0, 1) := by decide +kernel
theorem dX12_hasBy_30 : decode cX12_hasBy 30 = .ok (.getfield 13, 3) := by decide +kernel
theorem dX12_hasBy_33 : decode cX12_hasBy 33 = .ok (.bipush 6, 2) := by decide +kernel
theorem dX12_hasBy_35 : decode cX12_hasBy 35 = .ok (.iaload, 1) := by decide +kernel
theorem dX12_hasBy_36 : decode cX12_hasBy 36 = .ok (.imul, 1) := by decide +kernel
theorem dX12_hasBy_37 : decode cX12_hasBy 37 = .ok (.isub, 1) := by decide +kernel
theorem dX12_hasBy_38 : decode cX12_hasBy 38 = .ok (.invokevirtual 272, 3) := by decide +kernel
theorem dX12_hasBy_41 : decode cX12_hasBy 41 = .ok (.istore 5, 2) := by decide +kernel
theorem dX12_hasBy_43 : decode cX12_hasBy 43 = .ok (.iload 4, 2) := by decide +kernel
theorem dX12_hasBy_45 : decode cX12_hasBy 45 = .ok (.ifCond .eq 12, 3) := by decide +kernel
theorem dX12_hasBy_48 : decode cX12_hasBy 48 = .ok (.iconst 5, 1) := by decide +kernel
theorem dX12_hasBy_49 : decode cX12_hasBy 49 = .ok (.iload 5, 2) := by decide +kernel
theorem dX12_hasBy_51 : decode cX12_hasBy 51 = .ok (.iadd, 1) := by decide +kernel
theorem dX12_hasBy_52 : decode cX12_hasBy 52 = .ok (.iload_n 2, 1) := by decide +kernel
theorem dX12_hasBy_53 : decode cX12_hasBy 53 = .ok (.isub, 1) := by decide +kernel
theorem dX12_hasBy_54 : decode cX12_hasBy 54 = .ok (.goto 9, 3) := by decide +kernel
theorem dX12_hasBy_57 : decode cX12_hasBy 57 = .ok (.iconst 5, 1) := by decide +kernel
theorem dX12_hasBy_58 : decode cX12_hasBy 58 = .ok (.iload 5, 2) := by decide +kernel
theorem dX12_hasBy_60 : decode cX12_hasBy 60 = .ok (.isub, 1) := by decide +kernel
theorem dX12_hasBy_61 : decode cX12_hasBy 61 = .ok (.iload_n 3, 1) := by decide +kernel
theorem dX12_hasBy_62 : decode cX12_hasBy 62 = .ok (.isub, 1) := by decide +kernel
theorem dX12_hasBy_63 : decode cX12_hasBy 63 = .ok (.ireturn, 1) := by decide +kernel
set_option maxRecDepth 20000 in
theorem ggX12_rests_X12_hasBy : GoodIn wsX12_rests wsX12_hasBy := goodIn_r _ [5, 6, 7, 8, 9, 4, 10, 11, 12, 13, 14, 15, 16, 17, 18, 19, 20, 21, 22, 23, 24, 25, 26, 27, 28, 29, 30, 31, 32, 33, 34, 35, 36, 37, 38, 39, 40, 41, 42, 43, 44, 45, 46, 47, 48, 49, 50, 51, 52, 53, 54, 55, 56, 57, 58, 59, 60, 61, 62, 63, 64, 65, 66, 67, 68, 69, 70] (by decide +kernel) (by decide +kernel)
set_option maxRecDepth 20000 in
theorem gX12_rests_X12_hasBy : GoodIn wsX12_rests (wsV RX12 436 RX12 yX12_hasBy wsX12_hasBy) := goodIn_app (goodIn_of _ (by decide +kernel)) ggX12_rests_X12_hasBy
theorem dX12_rests_0 : decode cX12_rests 0 = .ok (.iconst 1, 1) := by decide +kernel
theorem dX12_rests_1 : decode cX12_rests 1 = .ok (.istore 4, 2) := by decide +kernel
theorem dX12_rests_3 : decode cX12_rests 3 = .ok (.iconst 0, 1) := by decide +kernel
theorem dX12_rests_4 : decode cX12_rests 4 = .ok (.istore 5, 2) := by decide +kernel
theorem dX12_rests_6 : decode cX12_rests 6 = .ok (.iload 5, 2) := by decide +kernel
theorem dX12_rests_8 : decode cX12_rests 8 = .ok (.iconst 3, 1) := by decide +kernel
theorem dX12_rests_9 : decode cX12_rests 9 = .ok (.if_icmp .ge 61, 3) := by decide +kernel
theorem dX12_rests_12 : decode cX12_rests 12 = .ok (.iload 4, 2) := by decide +kernel
theorem dX12_rests_14 : decode cX12_rests 14 = .ok (.ifCond .eq 47, 3) := by decide +kernel
theorem dX12_rests_17 : decode cX12_rests 17 = .ok (.aload_n 0, 1) := by decide +kernel
theorem dX12_rests_18 : decode cX12_rests 18 = .ok (.iload_n 1, 1) := by decide +kernel
theorem dX12_rests_19 : decode cX12_rests 19 = .ok (.iload_n 2, 1) := by decide +kernel
theorem dX12_rests_20 : decode cX12_rests 20 = .ok (.iload_n 3, 1) := by decide +kernel
theorem dX12_rests_21 : decode cX12_rests 21 = .ok (.iconst 1, 1) := by decide +kernel
theorem dX12_rests_22 : decode cX12_rests 22 = .ok (.invokevirtual 436, 3) := by decide +kernel
theorem dX12_rests_25 : decode cX12_rests 25 = .ok (.aload_n 0, 1) := by decide +kernel
theorem dX12_rests_26 : decode cX12_rests 26 = .ok (.iload_n 1, 1) := by decide +kernel
theorem dX12_rests_27 : decode cX12_rests 27 = .ok (.iload 5, 2) := by decide +kernel
theorem dX12_rests_29 : decode cX12_rests 29 = .ok (.iload_n 3, 1) := by decide +kernel
theorem dX12_rests_30 : decode cX12_rests 30 = .ok (.iconst 1, 1) := by decide +kernel
theorem dX12_rests_31 : decode cX12_rests 31 = .ok (.invokevirtual 436, 3) := by decide +kernel
theorem dX12_rests_34 : decode cX12_rests 34 = .ok (.if_icmp .lt 27, 3) := by decide +kernel
theorem dX12_rests_37 : decode cX12_rests 37 = .ok (.aload_n 0, 1) := by decide +kernel
theorem dX12_rests_38 : decode cX12_rests 38 = .ok (.iload_n 1, 1) := by decide +kernel
theorem dX12_rests_39 : decode cX12_rests 39 = .ok (.iload_n 2, 1) := by decide +kernel
theorem dX12_rests_40 : decode cX12_rests 40 = .ok (.iload_n 3, 1) := by decide +kernel
theorem dX12_rests_41 : decode cX12_rests 41 = .ok (.iconst 0, 1) := by decide +kernel
theorem dX12_rests_42 : decode cX12_rests 42 = .ok (.invokevirtual 436, 3) := by decide +kernel
theorem dX12_rests_45 : decode cX12_rests 45 = .ok (.aload_n 0, 1) := by decide +kernel
theorem dX12_rests_46 : decode cX12_rests 46 = .ok (.iload_n 1, 1) := by decide +kernel
theorem dX12_rests_47 : decode cX12_rests 47 = .ok (.iload_n 2, 1) := by decide +kernel
theorem dX12_rests_48 : decode cX12_rests 48 = .ok (.iload 5, 2) := by decide +kernel
theorem dX12_rests_50 : decode cX12_rests 50 = .ok (.iconst 0, 1) := by decide +kernel
theorem dX12_rests_51 : decode cX12_rests 51 = .ok (.invokevirtual 436, 3) := by decide +kernel
theorem dX12_rests_54 : decode cX12_rests 54 = .ok (.if_icmp .lt 7, 3) := by decide +kernel
theorem dX12_rests_57 : decode cX12_rests 57 = .ok (.iconst 1, 1) := by decide +kernel
theorem dX12_rests_58 : decode cX12_rests 58 = .ok (.goto 4, 3) := by decide +kernel
theorem dX12_rests_61 : decode cX12_rests 61 = .ok (.iconst 0, 1) := by decide +kernel
theorem dX12_rests_62 : decode cX12_rests 62 = .ok (.istore 4, 2) := by decide +kernel
theorem dX12_rests_64 : decode cX12_rests 64 = .ok (.iinc 5 1, 3) := by decide +kernel
theorem dX12_rests_67 : decode cX12_rests 67 = .ok (.goto (-61), 3) := by decide +kernel
theorem dX12_rests_70 : decode cX12_rests 70 = .ok (.iload 4, 2) := by decide +kernel
theorem dX12_rests_72 : decode cX12_rests 72 = .ok (.ireturn, 1) := by decide +kernel
set_option maxRecDepth 20000 in
theorem ggX12_ballast_X12_noPlank : GoodIn wsX12_ballast wsX12_noPlank := goodIn_r _ [6, 7, 8, 9, 5, 10, 11, 12, 13, 14, 71, 72, 73, 74, 75, 76, 77, 78, 79, 80, 81, 82, 83, 84, 85, 86, 87, 88, 89, 90] (by decide +kernel) (by decide +kernel)
set_option maxRecDepth 20000 in
theorem gX12_ballast_X12_noPlank : GoodIn wsX12_ballast (wsV RX12 309 RX12 yX12_noPlank wsX12_noPlank) := goodIn_app (goodIn_of _ (by decide +kernel)) ggX12_ballast_X12_noPlank
set_option maxRecDepth 20000 in
theorem ggX12_ballast_X12_throwsIf : GoodIn wsX12_ballast wsX12_throwsIf := goodIn_r _ [18, 1, 71, 72, 73, 74, 75, 76, 77, 78, 79, 80, 81, 82, 83, 84, 85, 86, 87, 88, 89, 90] (by decide +kernel) (by decide +kernel)
set_option maxRecDepth 20000 in
theorem gX12_ballast_X12_throwsIf : GoodIn wsX12_ballast (wsV RX12 242 RX12 yX12_throwsIf wsX12_throwsIf) := goodIn_app (goodIn_of _ (by decide +kernel)) ggX12_ballast_X12_throwsIf
set_option maxRecDepth 20000 in
theorem ggX12_ballast_X12_rests : GoodIn wsX12_ballast wsX12_rests := goodIn_r _ [22, 23, 24, 25, 5, 26, 11, 27, 28, 29, 30, 31, 32, 33, 34, 35, 36, 37, 38, 39, 40, 41, 42, 43, 44, 45, 46, 47, 48, 49, 50, 51, 52, 53, 54, 55, 56, 57, 58, 59, 60, 61, 62, 63, 64, 65, 66, 67, 68, 69, 70, 71, 72, 73, 74, 75, 76, 77, 78, 79, 80, 81, 82, 83, 84, 85, 86, 87, 88, 89, 90] (by decide +kernel) (by decide +kernel)
set_option maxRecDepth 20000 in
theorem gX12_ballast_X12_rests : GoodIn wsX12_ballast (wsV RX12 440 RX12 yX12_rests wsX12_rests) := goodIn_app (goodIn_of _ (by decide +kernel)) ggX12_ballast_X12_rests
theorem dX12_ballast_0 : decode cX12_ballast 0 = .ok (.aload_n 0, 1) := by decide +kernel
theorem dX12_ballast_1 : decode cX12_ballast 1 = .ok (.iconst 0, 1) := by decide +kernel
theorem dX12_ballast_2 : decode cX12_ballast 2 = .ok (.putfield 3, 3) := by decide +kernel
theorem dX12_ballast_5 : decode cX12_ballast 5 = .ok (.aload_n 0, 1) := by decide +kernel
theorem dX12_ballast_6 : decode cX12_ballast 6 = .ok (.aload_n 0, 1) := by decide +kernel
theorem dX12_ballast_7 : decode cX12_ballast 7 = .ok (.iload_n 1, 1) := by decide +kernel
theorem dX12_ballast_8 : decode cX12_ballast 8 = .ok (.invokevirtual 309, 3) := by decide +kernel
theorem dX12_ballast_11 : decode cX12_ballast 11 = .ok (.iconst 1, 1) := by decide +kernel
theorem dX12_ballast_12 : decode cX12_ballast 12 = .ok (.invokevirtual 242, 3) := by decide +kernel
theorem dX12_ballast_15 : decode cX12_ballast 15 = .ok (.ifCond .eq 5, 3) := by decide +kernel
theorem dX12_ballast_18 : decode cX12_ballast 18 = .ok (.iconst 0, 1) := by decide +kernel
theorem dX12_ballast_19 : decode cX12_ballast 19 = .ok (.ireturn, 1) := by decide +kernel
theorem dX12_ballast_20 : decode cX12_ballast 20 = .ok (.iconst 0, 1) := by decide +kernel
theorem dX12_ballast_21 : decode cX12_ballast 21 = .ok (.istore_n 2, 1) := by decide +kernel
theorem dX12_ballast_22 : decode cX12_ballast 22 = .ok (.iconst 0, 1) := by decide +kernel
theorem dX12_ballast_23 : decode cX12_ballast 23 = .ok (.istore_n 3, 1) := by decide +kernel
theorem dX12_ballast_24 : decode cX12_ballast 24 = .ok (.iload_n 3, 1) := by decide +kernel
theorem dX12_ballast_25 : decode cX12_ballast 25 = .ok (.iconst 3, 1) := by decide +kernel
theorem dX12_ballast_26 : decode cX12_ballast 26 = .ok (.if_icmp .ge 50, 3) := by decide +kernel
theorem dX12_ballast_29 : decode cX12_ballast 29 = .ok (.iconst 0, 1) := by decide +kernel
theorem dX12_ballast_30 : decode cX12_ballast 30 = .ok (.istore 4, 2) := by decide +kernel
theorem dX12_ballast_32 : decode cX12_ballast 32 = .ok (.iload 4, 2) := by decide +kernel
theorem dX12_ballast_34 : decode cX12_ballast 34 = .ok (.iconst 3, 1) := by decide +kernel
theorem dX12_ballast_35 : decode cX12_ballast 35 = .ok (.if_icmp .ge 35, 3) := by decide +kernel
theorem dX12_ballast_38 : decode cX12_ballast 38 = .ok (.iload_n 2, 1) := by decide +kernel
theorem dX12_ballast_39 : decode cX12_ballast 39 = .ok (.aload_n 0, 1) := by decide +kernel
theorem dX12_ballast_40 : decode cX12_ballast 40 = .ok (.iload_n 1, 1) := by decide +kernel
theorem dX12_ballast_41 : decode cX12_ballast 41 = .ok (.iload_n 3, 1) := by decide +kernel
theorem dX12_ballast_42 : decode cX12_ballast 42 = .ok (.iload 4, 2) := by decide +kernel
theorem dX12_ballast_44 : decode cX12_ballast 44 = .ok (.invokevirtual 440, 3) := by decide +kernel
theorem dX12_ballast_47 : decode cX12_ballast 47 = .ok (.ifCond .eq 14, 3) := by decide +kernel
theorem dX12_ballast_50 : decode cX12_ballast 50 = .ok (.iconst 1, 1) := by decide +kernel
theorem dX12_ballast_51 : decode cX12_ballast 51 = .ok (.iconst 3, 1) := by decide +kernel
theorem dX12_ballast_52 : decode cX12_ballast 52 = .ok (.iload_n 3, 1) := by decide +kernel
theorem dX12_ballast_53 : decode cX12_ballast 53 = .ok (.imul, 1) := by decide +kernel
theorem dX12_ballast_54 : decode cX12_ballast 54 = .ok (.iload 4, 2) := by decide +kernel
theorem dX12_ballast_56 : decode cX12_ballast 56 = .ok (.iadd, 1) := by decide +kernel
theorem dX12_ballast_57 : decode cX12_ballast 57 = .ok (.ishl, 1) := by decide +kernel
theorem dX12_ballast_58 : decode cX12_ballast 58 = .ok (.goto 4, 3) := by decide +kernel
theorem dX12_ballast_61 : decode cX12_ballast 61 = .ok (.iconst 0, 1) := by decide +kernel
theorem dX12_ballast_62 : decode cX12_ballast 62 = .ok (.ior, 1) := by decide +kernel
theorem dX12_ballast_63 : decode cX12_ballast 63 = .ok (.istore_n 2, 1) := by decide +kernel
theorem dX12_ballast_64 : decode cX12_ballast 64 = .ok (.iinc 4 1, 3) := by decide +kernel
theorem dX12_ballast_67 : decode cX12_ballast 67 = .ok (.goto (-35), 3) := by decide +kernel
theorem dX12_ballast_70 : decode cX12_ballast 70 = .ok (.iinc 3 1, 3) := by decide +kernel
theorem dX12_ballast_73 : decode cX12_ballast 73 = .ok (.goto (-49), 3) := by decide +kernel
theorem dX12_ballast_76 : decode cX12_ballast 76 = .ok (.iload_n 2, 1) := by decide +kernel
theorem dX12_ballast_77 : decode cX12_ballast 77 = .ok (.ireturn, 1) := by decide +kernel
set_option maxRecDepth 20000 in
theorem ggX12_rich_X12_houses : GoodIn wsX12_rich wsX12_houses := goodIn_r _ [10, 11, 12, 13, 9, 14, 15, 45, 46, 47, 48, 49, 50, 51, 52, 53, 54, 55, 56, 57, 58, 59, 60, 61, 62, 63, 64] (by decide +kernel) (by decide +kernel)
set_option maxRecDepth 20000 in
theorem gX12_rich_X12_houses : GoodIn wsX12_rich (wsV RX12 79 RX12 yX12_houses wsX12_houses) := goodIn_app (goodIn_of _ (by decide +kernel)) ggX12_rich_X12_houses
set_option maxRecDepth 20000 in
theorem ggX12_rich_X12_of : GoodIn wsX12_rich wsX12_of := goodIn_r _ [19, 15, 20, 21, 9, 22, 45, 46, 47, 48, 49, 50, 51, 52, 53, 54, 55, 56, 57, 58, 59, 60, 61, 62, 63, 64] (by decide +kernel) (by decide +kernel)
set_option maxRecDepth 20000 in
theorem gX12_rich_X12_of : GoodIn wsX12_rich (wsV RX12 255 RX12 yX12_of wsX12_of) := goodIn_app (goodIn_of _ (by decide +kernel)) ggX12_rich_X12_of
set_option maxRecDepth 20000 in
theorem ggX12_rich_X12_thingsIn : GoodIn wsX12_rich wsX12_thingsIn := goodIn_r _ [26, 27, 28, 29, 9, 30, 15, 31, 32, 33, 34, 35, 36, 37, 45, 46, 47, 48, 49, 50, 51, 52, 53, 54, 55, 56, 57, 58, 59, 60, 61, 62, 63, 64] (by decide +kernel) (by decide +kernel)
set_option maxRecDepth 20000 in
theorem gX12_rich_X12_thingsIn : GoodIn wsX12_rich (wsV RX12 248 RX12 yX12_thingsIn wsX12_thingsIn) := goodIn_app (goodIn_of _ (by decide +kernel)) ggX12_rich_X12_thingsIn
set_option maxRecDepth 20000 in
theorem ggX12_rich_X12_worthOf : GoodIn wsX12_rich wsX12_worthOf := goodIn_r _ [41, 27, 28, 29, 9, 30, 15, 42, 43, 44, 31, 32, 33, 34, 35, 36, 37, 45, 46, 47, 48, 49, 50, 51, 52, 53, 54, 55, 56, 57, 58, 59, 60, 61, 62, 63, 64] (by decide +kernel) (by decide +kernel)
set_option maxRecDepth 20000 in
theorem gX12_rich_X12_worthOf : GoodIn wsX12_rich (wsV RX12 303 RX12 yX12_worthOf wsX12_worthOf) := goodIn_app (goodIn_of _ (by decide +kernel)) ggX12_rich_X12_worthOf
theorem dX12_rich_0 : decode cX12_rich 0 = .ok (.aload_n 0, 1) := by decide +kernel
theorem dX12_rich_1 : decode cX12_rich 1 = .ok (.iconst 0, 1) := by decide +kernel
theorem dX12_rich_2 : decode cX12_rich 2 = .ok (.putfield 3, 3) := by decide +kernel
theorem dX12_rich_5 : decode cX12_rich 5 = .ok (.iconst (-1), 1) := by decide +kernel
theorem dX12_rich_6 : decode cX12_rich 6 = .ok (.istore_n 1, 1) := by decide +kernel
theorem dX12_rich_7 : decode cX12_rich 7 = .ok (.iconst (-1), 1) := by decide +kernel
theorem dX12_rich_8 : decode cX12_rich 8 = .ok (.istore_n 2, 1) := by decide +kernel
theorem dX12_rich_9 : decode cX12_rich 9 = .ok (.iconst 0, 1) := by decide +kernel
theorem dX12_rich_10 : decode cX12_rich 10 = .ok (.istore_n 3, 1) := by decide +kernel
theorem dX12_rich_11 : decode cX12_rich 11 = .ok (.iload_n 3, 1) := by decide +kernel
theorem dX12_rich_12 : decode cX12_rich 12 = .ok (.aload_n 0, 1) := by decide +kernel
theorem dX12_rich_13 : decode cX12_rich 13 = .ok (.invokevirtual 79, 3) := by decide +kernel
theorem dX12_rich_16 : decode cX12_rich 16 = .ok (.if_icmp .ge 46, 3) := by decide +kernel
theorem dX12_rich_19 : decode cX12_rich 19 = .ok (.aload_n 0, 1) := by decide +kernel
theorem dX12_rich_20 : decode cX12_rich 20 = .ok (.iload_n 3, 1) := by decide +kernel
theorem dX12_rich_21 : decode cX12_rich 21 = .ok (.iconst 0, 1) := by decide +kernel
theorem dX12_rich_22 : decode cX12_rich 22 = .ok (.invokevirtual 255, 3) := by decide +kernel
theorem dX12_rich_25 : decode cX12_rich 25 = .ok (.aload_n 0, 1) := by decide +kernel
theorem dX12_rich_26 : decode cX12_rich 26 = .ok (.aload_n 0, 1) := by decide +kernel
theorem dX12_rich_27 : decode cX12_rich 27 = .ok (.iload_n 3, 1) := by decide +kernel
theorem dX12_rich_28 : decode cX12_rich 28 = .ok (.invokevirtual 248, 3) := by decide +kernel
theorem dX12_rich_31 : decode cX12_rich 31 = .ok (.invokevirtual 303, 3) := by decide +kernel
theorem dX12_rich_34 : decode cX12_rich 34 = .ok (.iadd, 1) := by decide +kernel
theorem dX12_rich_35 : decode cX12_rich 35 = .ok (.istore 4, 2) := by decide +kernel
theorem dX12_rich_37 : decode cX12_rich 37 = .ok (.iload 4, 2) := by decide +kernel
theorem dX12_rich_39 : decode cX12_rich 39 = .ok (.iload_n 2, 1) := by decide +kernel
theorem dX12_rich_40 : decode cX12_rich 40 = .ok (.if_icmp .le 7, 3) := by decide +kernel
theorem dX12_rich_43 : decode cX12_rich 43 = .ok (.iload_n 3, 1) := by decide +kernel
theorem dX12_rich_44 : decode cX12_rich 44 = .ok (.goto 4, 3) := by decide +kernel
theorem dX12_rich_47 : decode cX12_rich 47 = .ok (.iload_n 1, 1) := by decide +kernel
theorem dX12_rich_48 : decode cX12_rich 48 = .ok (.istore_n 1, 1) := by decide +kernel
theorem dX12_rich_49 : decode cX12_rich 49 = .ok (.iload_n 2, 1) := by decide +kernel
theorem dX12_rich_50 : decode cX12_rich 50 = .ok (.iload 4, 2) := by decide +kernel
theorem dX12_rich_52 : decode cX12_rich 52 = .ok (.invokestatic 263, 3) := by decide +kernel
theorem dX12_rich_55 : decode cX12_rich 55 = .ok (.istore_n 2, 1) := by decide +kernel
theorem dX12_rich_56 : decode cX12_rich 56 = .ok (.iinc 3 1, 3) := by decide +kernel
theorem dX12_rich_59 : decode cX12_rich 59 = .ok (.goto (-48), 3) := by decide +kernel
theorem dX12_rich_62 : decode cX12_rich 62 = .ok (.iload_n 1, 1) := by decide +kernel
theorem dX12_rich_63 : decode cX12_rich 63 = .ok (.ireturn, 1) := by decide +kernel
set_option maxRecDepth 20000 in
theorem ggX12_heaviest_X12_things : GoodIn wsX12_heaviest wsX12_things := goodIn_r _ [6, 7, 19, 20, 21, 22, 23, 24, 25, 26, 27, 28, 29, 30, 31, 32, 33, 34, 35, 36, 37, 38] (by decide +kernel) (by decide +kernel)
set_option maxRecDepth 20000 in
theorem gX12_heaviest_X12_things : GoodIn wsX12_heaviest (wsV RX12 82 RX12 yX12_things wsX12_things) := goodIn_app (goodIn_of _ (by decide +kernel)) ggX12_heaviest_X12_things
set_option maxRecDepth 20000 in
theorem ggX12_heaviest_X12_isGone : GoodIn wsX12_heaviest wsX12_isGone := goodIn_r _ [11, 12, 13, 14, 5, 15, 7, 16, 17, 18, 19, 20, 21, 22, 23, 24, 25, 26, 27, 28, 29, 30, 31, 32, 33, 34, 35, 36, 37, 38] (by decide +kernel) (by decide +kernel)
set_option maxRecDepth 20000 in
theorem gX12_heaviest_X12_isGone : GoodIn wsX12_heaviest (wsV RX12 333 RX12 yX12_isGone wsX12_isGone) := goodIn_app (goodIn_of _ (by decide +kernel)) ggX12_heaviest_X12_isGone
set_option maxRecDepth 20000 in
theorem ggX12_heaviest_X12_ofThing : GoodIn wsX12_heaviest wsX12_ofThing := goodIn_r _ [15, 7, 16, 17, 5, 18, 19, 20, 21, 22, 23, 24, 25, 26, 27, 28, 29, 30, 31, 32, 33, 34, 35, 36, 37, 38] (by decide +kernel) (by decide +kernel)
set_option maxRecDepth 20000 in
theorem gX12_heaviest_X12_ofThing : GoodIn wsX12_heaviest (wsV RX12 72 RX12 yX12_ofThing wsX12_ofThing) := goodIn_app (goodIn_of _ (by decide +kernel)) ggX12_heaviest_X12_ofThing
theorem dX12_heaviest_0 : decode cX12_heaviest 0 = .ok (.aload_n 0, 1) := by decide +kernel
theorem dX12_heaviest_1 : decode cX12_heaviest 1 = .ok (.iconst 0, 1) := by decide +kernel
theorem dX12_heaviest_2 : decode cX12_heaviest 2 = .ok (.putfield 3, 3) := by decide +kernel
theorem dX12_heaviest_5 : decode cX12_heaviest 5 = .ok (.iconst (-1), 1) := by decide +kernel
theorem dX12_heaviest_6 : decode cX12_heaviest 6 = .ok (.istore_n 1, 1) := by decide +kernel
theorem dX12_heaviest_7 : decode cX12_heaviest 7 = .ok (.iconst 0, 1) := by decide +kernel
theorem dX12_heaviest_8 : decode cX12_heaviest 8 = .ok (.istore_n 2, 1) := by decide +kernel
theorem dX12_heaviest_9 : decode cX12_heaviest 9 = .ok (.iload_n 2, 1) := by decide +kernel
theorem dX12_heaviest_10 : decode cX12_heaviest 10 = .ok (.aload_n 0, 1) := by decide +kernel
theorem dX12_heaviest_11 : decode cX12_heaviest 11 = .ok (.invokevirtual 82, 3) := by decide +kernel
theorem dX12_heaviest_14 : decode cX12_heaviest 14 = .ok (.if_icmp .ge 39, 3) := by decide +kernel
theorem dX12_heaviest_17 : decode cX12_heaviest 17 = .ok (.aload_n 0, 1) := by decide +kernel
theorem dX12_heaviest_18 : decode cX12_heaviest 18 = .ok (.iload_n 2, 1) := by decide +kernel
theorem dX12_heaviest_19 : decode cX12_heaviest 19 = .ok (.invokevirtual 333, 3) := by decide +kernel
theorem dX12_heaviest_22 : decode cX12_heaviest 22 = .ok (.ifCond .ne 25, 3) := by decide +kernel
theorem dX12_heaviest_25 : decode cX12_heaviest 25 = .ok (.iload_n 1, 1) := by decide +kernel
theorem dX12_heaviest_26 : decode cX12_heaviest 26 = .ok (.iconst (-1), 1) := by decide +kernel
theorem dX12_heaviest_27 : decode cX12_heaviest 27 = .ok (.if_icmp .eq 18, 3) := by decide +kernel
theorem dX12_heaviest_30 : decode cX12_heaviest 30 = .ok (.aload_n 0, 1) := by decide +kernel
theorem dX12_heaviest_31 : decode cX12_heaviest 31 = .ok (.iload_n 2, 1) := by decide +kernel
theorem dX12_heaviest_32 : decode cX12_heaviest 32 = .ok (.iconst 0, 1) := by decide +kernel
theorem dX12_heaviest_33 : decode cX12_heaviest 33 = .ok (.invokevirtual 72, 3) := by decide +kernel
theorem dX12_heaviest_36 : decode cX12_heaviest 36 = .ok (.aload_n 0, 1) := by decide +kernel
theorem dX12_heaviest_37 : decode cX12_heaviest 37 = .ok (.iload_n 1, 1) := by decide +kernel
theorem dX12_heaviest_38 : decode cX12_heaviest 38 = .ok (.iconst 0, 1) := by decide +kernel
theorem dX12_heaviest_39 : decode cX12_heaviest 39 = .ok (.invokevirtual 72, 3) := by decide +kernel
theorem dX12_heaviest_42 : decode cX12_heaviest 42 = .ok (.if_icmp .le 5, 3) := by decide +kernel
theorem dX12_heaviest_45 : decode cX12_heaviest 45 = .ok (.iload_n 2, 1) := by decide +kernel
theorem dX12_heaviest_46 : decode cX12_heaviest 46 = .ok (.istore_n 1, 1) := by decide +kernel
theorem dX12_heaviest_47 : decode cX12_heaviest 47 = .ok (.iinc 2 1, 3) := by decide +kernel
theorem dX12_heaviest_50 : decode cX12_heaviest 50 = .ok (.goto (-41), 3) := by decide +kernel
theorem dX12_heaviest_53 : decode cX12_heaviest 53 = .ok (.iload_n 1, 1) := by decide +kernel
theorem dX12_heaviest_54 : decode cX12_heaviest 54 = .ok (.ireturn, 1) := by decide +kernel
set_option maxRecDepth 20000 in
theorem ggX12_alike_X12_houses : GoodIn wsX12_alike wsX12_houses := goodIn_r _ [6, 7, 8, 9, 5, 10, 11, 85, 86, 87, 88, 89, 90, 91, 92, 93, 94, 95, 96, 97, 98, 99, 100, 101, 102, 103, 104] (by decide +kernel) (by decide +kernel)
set_option maxRecDepth 20000 in
theorem gX12_alike_X12_houses : GoodIn wsX12_alike (wsV RX12 79 RX12 yX12_houses wsX12_houses) := goodIn_app (goodIn_of _ (by decide +kernel)) ggX12_alike_X12_houses
set_option maxRecDepth 20000 in
theorem ggX12_alike_X12_loadOf : GoodIn wsX12_alike wsX12_loadOf := goodIn_r _ [15, 11, 16, 17, 18, 5, 19, 20, 21, 22, 23, 24, 25, 26, 27, 28, 29, 30, 31, 32, 33, 34, 35, 36, 37, 38, 39, 40, 41, 42, 43, 44, 85, 86, 87, 88, 89, 90, 91, 92, 93, 94, 95, 96, 97, 98, 99, 100, 101, 102, 103, 104] (by decide +kernel) (by decide +kernel)
set_option maxRecDepth 20000 in
theorem gX12_alike_X12_loadOf : GoodIn wsX12_alike (wsV RX12 269 RX12 yX12_loadOf wsX12_loadOf) := goodIn_app (goodIn_of _ (by decide +kernel)) ggX12_alike_X12_loadOf
set_option maxRecDepth 20000 in
theorem ggX12_alike_X12_heightOf : GoodIn wsX12_alike wsX12_heightOf := goodIn_r _ [48, 49, 50, 5, 51, 52, 53, 54, 55, 56, 57, 58, 59, 11, 60, 61, 62, 63, 64, 65, 66, 67, 68, 69, 70, 12, 13, 14, 15, 16, 17, 18, 19, 20, 21, 22, 23, 24, 25, 26, 27, 28, 29, 30, 31, 32, 33, 34, 35, 36, 37, 38, 39, 40, 41, 42, 43, 44, 71, 72, 73, 74, 75, 76, 77, 78, 79, 80, 81, 82, 83, 84, 85, 86, 87, 88, 89, 90, 91, 92, 93, 94, 95, 96, 97, 98, 99, 100, 101, 102, 103, 104] (by decide +kernel) (by decide +kernel)
set_option maxRecDepth 20000 in
theorem gX12_alike_X12_heightOf : GoodIn wsX12_alike (wsV RX12 287 RX12 yX12_heightOf wsX12_heightOf) := goodIn_app (goodIn_of _ (by decide +kernel)) ggX12_alike_X12_heightOf
theorem dX12_alike_0 : decode cX12_alike 0 = .ok (.aload_n 0, 1) := by decide +kernel
theorem dX12_alike_1 : decode cX12_alike 1 = .ok (.iconst 0, 1) := by decide +kernel
theorem dX12_alike_2 : decode cX12_alike 2 = .ok (.putfield 3, 3) := by decide +kernel
theorem dX12_alike_5 : decode cX12_alike 5 = .ok (.iconst 0, 1) := by decide +kernel
theorem dX12_alike_6 : decode cX12_alike 6 = .ok (.istore_n 1, 1) := by decide +kernel
theorem dX12_alike_7 : decode cX12_alike 7 = .ok (.iconst 0, 1) := by decide +kernel
theorem dX12_alike_8 : decode cX12_alike 8 = .ok (.istore_n 2, 1) := by decide +kernel
theorem dX12_alike_9 : decode cX12_alike 9 = .ok (.iload_n 2, 1) := by decide +kernel
theorem dX12_alike_10 : decode cX12_alike 10 = .ok (.aload_n 0, 1) := by decide +kernel
theorem dX12_alike_11 : decode cX12_alike 11 = .ok (.invokevirtual 79, 3) := by decide +kernel
theorem dX12_alike_14 : decode cX12_alike 14 = .ok (.if_icmp .ge 56, 3) := by decide +kernel
theorem dX12_alike_17 : decode cX12_alike 17 = .ok (.iconst 0, 1) := by decide +kernel
theorem dX12_alike_18 : decode cX12_alike 18 = .ok (.istore_n 3, 1) := by decide +kernel
theorem dX12_alike_19 : decode cX12_alike 19 = .ok (.iload_n 3, 1) := by decide +kernel
theorem dX12_alike_20 : decode cX12_alike 20 = .ok (.iload_n 2, 1) := by decide +kernel
theorem dX12_alike_21 : decode cX12_alike 21 = .ok (.if_icmp .ge 43, 3) := by decide +kernel
theorem dX12_alike_24 : decode cX12_alike 24 = .ok (.iload_n 1, 1) := by decide +kernel
theorem dX12_alike_25 : decode cX12_alike 25 = .ok (.aload_n 0, 1) := by decide +kernel
theorem dX12_alike_26 : decode cX12_alike 26 = .ok (.iload_n 2, 1) := by decide +kernel
theorem dX12_alike_27 : decode cX12_alike 27 = .ok (.invokevirtual 269, 3) := by decide +kernel
theorem dX12_alike_30 : decode cX12_alike 30 = .ok (.aload_n 0, 1) := by decide +kernel
theorem dX12_alike_31 : decode cX12_alike 31 = .ok (.iload_n 3, 1) := by decide +kernel
theorem dX12_alike_32 : decode cX12_alike 32 = .ok (.invokevirtual 269, 3) := by decide +kernel
theorem dX12_alike_35 : decode cX12_alike 35 = .ok (.if_icmp .ne 20, 3) := by decide +kernel
theorem dX12_alike_38 : decode cX12_alike 38 = .ok (.aload_n 0, 1) := by decide +kernel
theorem dX12_alike_39 : decode cX12_alike 39 = .ok (.iload_n 2, 1) := by decide +kernel
theorem dX12_alike_40 : decode cX12_alike 40 = .ok (.invokevirtual 287, 3) := by decide +kernel
theorem dX12_alike_43 : decode cX12_alike 43 = .ok (.aload_n 0, 1) := by decide +kernel
theorem dX12_alike_44 : decode cX12_alike 44 = .ok (.iload_n 3, 1) := by decide +kernel
theorem dX12_alike_45 : decode cX12_alike 45 = .ok (.invokevirtual 287, 3) := by decide +kernel
theorem dX12_alike_48 : decode cX12_alike 48 = .ok (.if_icmp .ne 7, 3) := by decide +kernel
theorem dX12_alike_51 : decode cX12_alike 51 = .ok (.iconst 1, 1) := by decide +kernel
theorem dX12_alike_52 : decode cX12_alike 52 = .ok (.goto 4, 3) := by decide +kernel
theorem dX12_alike_55 : decode cX12_alike 55 = .ok (.iconst 0, 1) := by decide +kernel
theorem dX12_alike_56 : decode cX12_alike 56 = .ok (.iadd, 1) := by decide +kernel
theorem dX12_alike_57 : decode cX12_alike 57 = .ok (.istore_n 1, 1) := by decide +kernel
theorem dX12_alike_58 : decode cX12_alike 58 = .ok (.iinc 3 1, 3) := by decide +kernel
theorem dX12_alike_61 : decode cX12_alike 61 = .ok (.goto (-42), 3) := by decide +kernel
theorem dX12_alike_64 : decode cX12_alike 64 = .ok (.iinc 2 1, 3) := by decide +kernel
theorem dX12_alike_67 : decode cX12_alike 67 = .ok (.goto (-58), 3) := by decide +kernel
theorem dX12_alike_70 : decode cX12_alike 70 = .ok (.iload_n 1, 1) := by decide +kernel
theorem dX12_alike_71 : decode cX12_alike 71 = .ok (.ireturn, 1) := by decide +kernel
set_option maxRecDepth 20000 in
theorem ggX12_trial_X12_in : GoodIn wsX12_trial wsX12_in := goodIn_r _ [5] (by decide +kernel) (by decide +kernel)
set_option maxRecDepth 20000 in
theorem gX12_trial_X12_in : GoodIn wsX12_trial (va_wsS RX12 75 yX12_in wsX12_in) := goodIn_app (goodIn_of _ (by decide +kernel)) ggX12_trial_X12_in
set_option maxRecDepth 20000 in
theorem ggX12_trial_X12_throwsIf : GoodIn wsX12_trial wsX12_throwsIf := goodIn_r _ [9, 1, 186, 187, 188, 189, 190, 191, 192, 193, 194, 195, 196, 197, 198, 199, 200, 201, 202, 203, 204, 205] (by decide +kernel) (by decide +kernel)
set_option maxRecDepth 20000 in
theorem gX12_trial_X12_throwsIf : GoodIn wsX12_trial (wsV RX12 242 RX12 yX12_throwsIf wsX12_throwsIf) := goodIn_app (goodIn_of _ (by decide +kernel)) ggX12_trial_X12_throwsIf
set_option maxRecDepth 20000 in
theorem ggX12_trial_X12_keepsAll : GoodIn wsX12_trial wsX12_keepsAll := goodIn_r _ [13, 14, 15, 186, 187, 188, 189, 190, 191, 192, 193, 194, 195, 196, 197, 198, 199, 200, 201, 202, 203, 204, 205] (by decide +kernel) (by decide +kernel)
set_option maxRecDepth 20000 in
theorem gX12_trial_X12_keepsAll : GoodIn wsX12_trial (wsV RX12 349 RX12 yX12_keepsAll wsX12_keepsAll) := goodIn_app (goodIn_of _ (by decide +kernel)) ggX12_trial_X12_keepsAll
set_option maxRecDepth 20000 in
theorem ggX12_trial_X12_oneWeek : GoodIn wsX12_trial wsX12_oneWeek := goodIn_r _ [19, 15, 20, 21, 22, 23, 24, 25, 26, 27, 28, 29, 4, 30, 31, 32, 33, 34, 35, 36, 37, 38, 39, 40, 41, 42, 43, 44, 45, 46, 47, 48, 49, 50, 51, 52, 53, 54, 55, 56, 57, 58, 59, 60, 61, 62, 63, 64, 65, 66, 67, 68, 69, 70, 71, 72, 73, 74, 75, 76, 77, 78, 79, 80, 81, 82, 83, 84, 85, 86, 87, 88, 89, 90, 91, 92, 93, 94, 95, 96, 97, 98, 99, 100, 101, 102, 103, 104, 105, 106, 107, 108, 109, 110, 111, 112, 113, 114, 115, 116, 117, 118, 119, 120, 121, 122, 123, 124, 125, 126, 127, 128, 129, 130, 131, 132, 133, 134, 135, 136, 137, 138, 139, 140, 141, 142, 143, 144, 145, 146, 147, 148, 149, 150, 151, 152, 153, 154, 155, 156, 157, 158, 159, 160, 161, 162, 186, 187, 188, 189, 190, 191, 192, 193, 194, 195, 196, 197, 198, 199, 200, 201, 202, 203, 204, 205] (by decide +kernel) (by decide +kernel)
set_option maxRecDepth 20000 in
theorem gX12_trial_X12_oneWeek : GoodIn wsX12_trial (wsV RX12 380 RX12 yX12_oneWeek wsX12_oneWeek) := goodIn_app (goodIn_of _ (by decide +kernel)) ggX12_trial_X12_oneWeek
set_option maxRecDepth 20000 in
theorem ggX12_trial_X12_brokenOnes : GoodIn wsX12_trial wsX12_brokenOnes := goodIn_r _ [166, 44, 45, 46, 4, 47, 15, 94, 95, 96, 97, 98, 99, 100, 101, 102, 103, 104, 186, 187, 188, 189, 190, 191, 192, 193, 194, 195, 196, 197, 198, 199, 200, 201, 202, 203, 204, 205] (by decide +kernel) (by decide +kernel)
set_option maxRecDepth 20000 in
theorem gX12_trial_X12_brokenOnes : GoodIn wsX12_trial (wsV RX12 443 RX12 yX12_brokenOnes wsX12_brokenOnes) := goodIn_app (goodIn_of _ (by decide +kernel)) ggX12_trial_X12_brokenOnes
set_option maxRecDepth 20000 in
theorem ggX12_trial_X12_goneOnes : GoodIn wsX12_trial wsX12_goneOnes := goodIn_r _ [170, 59, 60, 61, 4, 62, 15, 171, 172, 173, 174, 63, 64, 65, 66, 67, 68, 69, 186, 187, 188, 189, 190, 191, 192, 193, 194, 195, 196, 197, 198, 199, 200, 201, 202, 203, 204, 205] (by decide +kernel) (by decide +kernel)
set_option maxRecDepth 20000 in
theorem gX12_trial_X12_goneOnes : GoodIn wsX12_trial (wsV RX12 377 RX12 yX12_goneOnes wsX12_goneOnes) := goodIn_app (goodIn_of _ (by decide +kernel)) ggX12_trial_X12_goneOnes
set_option maxRecDepth 20000 in
theorem ggX12_trial_J6_bitCount_0f7a4 : GoodIn wsX12_trial wsJ6_bitCount_0f7a4 := goodIn_r _ [178, 179, 180, 181] (by decide +kernel) (by decide +kernel)
set_option maxRecDepth 20000 in
theorem gX12_trial_J6_bitCount_0f7a4 : GoodIn wsX12_trial (va_wsS RX12 358 yJ6_bitCount_0f7a4 wsJ6_bitCount_0f7a4) := goodIn_app (goodIn_of _ (by decide +kernel)) ggX12_trial_J6_bitCount_0f7a4
set_option maxRecDepth 20000 in
theorem ggX12_trial_X12_bringsBack : GoodIn wsX12_trial wsX12_bringsBack := goodIn_r _ [185, 15, 14, 186, 187, 188, 189, 190, 191, 192, 193, 194, 195, 196, 197, 198, 199, 200, 201, 202, 203, 204, 205] (by decide +kernel) (by decide +kernel)
set_option maxRecDepth 20000 in
theorem gX12_trial_X12_bringsBack : GoodIn wsX12_trial (wsV RX12 355 RX12 yX12_bringsBack wsX12_bringsBack) := goodIn_app (goodIn_of _ (by decide +kernel)) ggX12_trial_X12_bringsBack
theorem dX12_trial_0 : decode cX12_trial 0 = .ok (.aload_n 0, 1) := by decide +kernel
theorem dX12_trial_1 : decode cX12_trial 1 = .ok (.iconst 0, 1) := by decide +kernel
theorem dX12_trial_2 : decode cX12_trial 2 = .ok (.putfield 3, 3) := by decide +kernel
theorem dX12_trial_5 : decode cX12_trial 5 = .ok (.aload_n 0, 1) := by decide +kernel
theorem dX12_trial_6 : decode cX12_trial 6 = .ok (.iload_n 1, 1) := by decide +kernel
theorem dX12_trial_7 : decode cX12_trial 7 = .ok (.iconst 0, 1) := by decide +kernel
theorem dX12_trial_8 : decode cX12_trial 8 = .ok (.bipush 60, 2) := by decide +kernel
theorem dX12_trial_10 : decode cX12_trial 10 = .ok (.invokestatic 75, 3) := by decide +kernel
theorem dX12_trial_13 : decode cX12_trial 13 = .ok (.ifCond .ne 7, 3) := by decide +kernel
theorem dX12_trial_16 : decode cX12_trial 16 = .ok (.iconst 1, 1) := by decide +kernel
theorem dX12_trial_17 : decode cX12_trial 17 = .ok (.goto 4, 3) := by decide +kernel
theorem dX12_trial_20 : decode cX12_trial 20 = .ok (.iconst 0, 1) := by decide +kernel
theorem dX12_trial_21 : decode cX12_trial 21 = .ok (.iconst 1, 1) := by decide +kernel
theorem dX12_trial_22 : decode cX12_trial 22 = .ok (.invokevirtual 242, 3) := by decide +kernel
theorem dX12_trial_25 : decode cX12_trial 25 = .ok (.ifCond .eq 5, 3) := by decide +kernel
theorem dX12_trial_28 : decode cX12_trial 28 = .ok (.iconst 0, 1) := by decide +kernel
theorem dX12_trial_29 : decode cX12_trial 29 = .ok (.ireturn, 1) := by decide +kernel
theorem dX12_trial_30 : decode cX12_trial 30 = .ok (.aload_n 0, 1) := by decide +kernel
theorem dX12_trial_31 : decode cX12_trial 31 = .ok (.invokevirtual 349, 3) := by decide +kernel
theorem dX12_trial_34 : decode cX12_trial 34 = .ok (.iconst 0, 1) := by decide +kernel
theorem dX12_trial_35 : decode cX12_trial 35 = .ok (.istore_n 3, 1) := by decide +kernel
theorem dX12_trial_36 : decode cX12_trial 36 = .ok (.iload_n 3, 1) := by decide +kernel
theorem dX12_trial_37 : decode cX12_trial 37 = .ok (.iload_n 1, 1) := by decide +kernel
theorem dX12_trial_38 : decode cX12_trial 38 = .ok (.if_icmp .ge 14, 3) := by decide +kernel
theorem dX12_trial_41 : decode cX12_trial 41 = .ok (.aload_n 0, 1) := by decide +kernel
theorem dX12_trial_42 : decode cX12_trial 42 = .ok (.iconst 0, 1) := by decide +kernel
theorem dX12_trial_43 : decode cX12_trial 43 = .ok (.invokevirtual 380, 3) := by decide +kernel
theorem dX12_trial_46 : decode cX12_trial 46 = .ok (.iinc 3 1, 3) := by decide +kernel
theorem dX12_trial_49 : decode cX12_trial 49 = .ok (.goto (-13), 3) := by decide +kernel
theorem dX12_trial_52 : decode cX12_trial 52 = .ok (.iload_n 2, 1) := by decide +kernel
theorem dX12_trial_53 : decode cX12_trial 53 = .ok (.ifCond .eq 10, 3) := by decide +kernel
theorem dX12_trial_56 : decode cX12_trial 56 = .ok (.aload_n 0, 1) := by decide +kernel
theorem dX12_trial_57 : decode cX12_trial 57 = .ok (.invokevirtual 443, 3) := by decide +kernel
theorem dX12_trial_60 : decode cX12_trial 60 = .ok (.goto 10, 3) := by decide +kernel
theorem dX12_trial_63 : decode cX12_trial 63 = .ok (.aload_n 0, 1) := by decide +kernel
theorem dX12_trial_64 : decode cX12_trial 64 = .ok (.invokevirtual 377, 3) := by decide +kernel
theorem dX12_trial_67 : decode cX12_trial 67 = .ok (.invokestatic 358, 3) := by decide +kernel
theorem dX12_trial_70 : decode cX12_trial 70 = .ok (.istore_n 3, 1) := by decide +kernel
theorem dX12_trial_71 : decode cX12_trial 71 = .ok (.aload_n 0, 1) := by decide +kernel
theorem dX12_trial_72 : decode cX12_trial 72 = .ok (.invokevirtual 355, 3) := by decide +kernel
theorem dX12_trial_75 : decode cX12_trial 75 = .ok (.iload_n 3, 1) := by decide +kernel
theorem dX12_trial_76 : decode cX12_trial 76 = .ok (.ireturn, 1) := by decide +kernel
set_option maxRecDepth 20000 in
theorem ggX12_span_X12_in : GoodIn wsX12_span wsX12_in := goodIn_r _ [13] (by decide +kernel) (by decide +kernel)
set_option maxRecDepth 20000 in
theorem gX12_span_X12_in : GoodIn wsX12_span (va_wsS RX12 75 yX12_in wsX12_in) := goodIn_app (goodIn_of _ (by decide +kernel)) ggX12_span_X12_in
set_option maxRecDepth 20000 in
theorem ggX12_span_X12_throwsIf : GoodIn wsX12_span wsX12_throwsIf := goodIn_r _ [17, 1, 182, 183, 184, 185, 186, 187, 188, 189, 190, 191, 192, 193, 194, 195, 196, 197, 198, 199, 200, 201] (by decide +kernel) (by decide +kernel)
set_option maxRecDepth 20000 in
theorem gX12_span_X12_throwsIf : GoodIn wsX12_span (wsV RX12 242 RX12 yX12_throwsIf wsX12_throwsIf) := goodIn_app (goodIn_of _ (by decide +kernel)) ggX12_span_X12_throwsIf
set_option maxRecDepth 20000 in
theorem ggX12_span_X12_keepsAll : GoodIn wsX12_span wsX12_keepsAll := goodIn_r _ [21, 22, 2, 182, 183, 184, 185, 186, 187, 188, 189, 190, 191, 192, 193, 194, 195, 196, 197, 198, 199, 200, 201] (by decide +kernel) (by decide +kernel)
set_option maxRecDepth 20000 in
theorem gX12_span_X12_keepsAll : GoodIn wsX12_span (wsV RX12 349 RX12 yX12_keepsAll wsX12_keepsAll) := goodIn_app (goodIn_of _ (by decide +kernel)) ggX12_span_X12_keepsAll
set_option maxRecDepth 20000 in
theorem ggX12_span_X12_oneWeek : GoodIn wsX12_span wsX12_oneWeek := goodIn_r _ [26, 2, 3, 4, 5, 6, 7, 8, 9, 27, 28, 29, 12, 30, 31, 32, 33, 34, 35, 36, 37, 38, 39, 40, 41, 42, 43, 44, 45, 46, 47, 48, 49, 50, 51, 52, 53, 54, 55, 56, 57, 58, 59, 60, 61, 62, 63, 64, 65, 66, 67, 68, 69, 70, 71, 72, 73, 74, 75, 76, 77, 78, 79, 80, 81, 82, 83, 84, 85, 86, 87, 88, 89, 90, 91, 92, 93, 94, 95, 96, 97, 98, 99, 100, 101, 102, 103, 104, 105, 106, 107, 108, 109, 110, 111, 112, 113, 114, 115, 116, 117, 118, 119, 120, 121, 122, 123, 124, 125, 126, 127, 128, 129, 130, 131, 132, 133, 134, 135, 136, 137, 138, 139, 140, 141, 142, 143, 144, 145, 146, 147, 148, 149, 150, 151, 152, 153, 154, 155, 156, 157, 158, 159, 160, 161, 162, 182, 183, 184, 185, 186, 187, 188, 189, 190, 191, 192, 193, 194, 195, 196, 197, 198, 199, 200, 201] (by decide +kernel) (by decide +kernel)
set_option maxRecDepth 20000 in
theorem gX12_span_X12_oneWeek : GoodIn wsX12_span (wsV RX12 380 RX12 yX12_oneWeek wsX12_oneWeek) := goodIn_app (goodIn_of _ (by decide +kernel)) ggX12_span_X12_oneWeek
set_option maxRecDepth 20000 in
theorem ggX12_span_X12_goneOnes : GoodIn wsX12_span wsX12_goneOnes := goodIn_r _ [166, 59, 60, 61, 12, 62, 2, 167, 168, 169, 170, 63, 64, 65, 66, 67, 68, 69, 182, 183, 184, 185, 186, 187, 188, 189, 190, 191, 192, 193, 194, 195, 196, 197, 198, 199, 200, 201] (by decide +kernel) (by decide +kernel)
set_option maxRecDepth 20000 in
theorem gX12_span_X12_goneOnes : GoodIn wsX12_span (wsV RX12 377 RX12 yX12_goneOnes wsX12_goneOnes) := goodIn_app (goodIn_of _ (by decide +kernel)) ggX12_span_X12_goneOnes
set_option maxRecDepth 20000 in
theorem ggX12_span_J6_bitCount_0f7a4 : GoodIn wsX12_span wsJ6_bitCount_0f7a4 := goodIn_r _ [174, 175, 176, 177] (by decide +kernel) (by decide +kernel)
set_option maxRecDepth 20000 in
theorem gX12_span_J6_bitCount_0f7a4 : GoodIn wsX12_span (va_wsS RX12 358 yJ6_bitCount_0f7a4 wsJ6_bitCount_0f7a4) := goodIn_app (goodIn_of _ (by decide +kernel)) ggX12_span_J6_bitCount_0f7a4
set_option maxRecDepth 20000 in
theorem ggX12_span_X12_bringsBack : GoodIn wsX12_span wsX12_bringsBack := goodIn_r _ [181, 2, 22, 182, 183, 184, 185, 186, 187, 188, 189, 190, 191, 192, 193, 194, 195, 196, 197, 198, 199, 200, 201] (by decide +kernel) (by decide +kernel)
set_option maxRecDepth 20000 in
theorem gX12_span_X12_bringsBack : GoodIn wsX12_span (wsV RX12 355 RX12 yX12_bringsBack wsX12_bringsBack) := goodIn_app (goodIn_of _ (by decide +kernel)) ggX12_span_X12_bringsBack
theorem dX12_span_0 : decode cX12_span 0 = .ok (.aload_n 0, 1) := by decide +kernel
theorem dX12_span_1 : decode cX12_span 1 = .ok (.iconst 0, 1) := by decide +kernel
theorem dX12_span_2 : decode cX12_span 2 = .ok (.putfield 3, 3) := by decide +kernel
theorem dX12_span_5 : decode cX12_span 5 = .ok (.aload_n 0, 1) := by decide +kernel
theorem dX12_span_6 : decode cX12_span 6 = .ok (.iload_n 1, 1) := by decide +kernel
theorem dX12_span_7 : decode cX12_span 7 = .ok (.iconst 0, 1) := by decide +kernel
theorem dX12_span_8 : decode cX12_span 8 = .ok (.bipush 60, 2) := by decide +kernel
theorem dX12_span_10 : decode cX12_span 10 = .ok (.invokestatic 75, 3) := by decide +kernel
theorem dX12_span_13 : decode cX12_span 13 = .ok (.ifCond .ne 7, 3) := by decide +kernel
theorem dX12_span_16 : decode cX12_span 16 = .ok (.iconst 1, 1) := by decide +kernel
theorem dX12_span_17 : decode cX12_span 17 = .ok (.goto 4, 3) := by decide +kernel
theorem dX12_span_20 : decode cX12_span 20 = .ok (.iconst 0, 1) := by decide +kernel
theorem dX12_span_21 : decode cX12_span 21 = .ok (.iconst 1, 1) := by decide +kernel
theorem dX12_span_22 : decode cX12_span 22 = .ok (.invokevirtual 242, 3) := by decide +kernel
theorem dX12_span_25 : decode cX12_span 25 = .ok (.ifCond .eq 5, 3) := by decide +kernel
theorem dX12_span_28 : decode cX12_span 28 = .ok (.iconst 0, 1) := by decide +kernel
theorem dX12_span_29 : decode cX12_span 29 = .ok (.ireturn, 1) := by decide +kernel
theorem dX12_span_30 : decode cX12_span 30 = .ok (.aload_n 0, 1) := by decide +kernel
theorem dX12_span_31 : decode cX12_span 31 = .ok (.invokevirtual 349, 3) := by decide +kernel
theorem dX12_span_34 : decode cX12_span 34 = .ok (.iconst (-1), 1) := by decide +kernel
theorem dX12_span_35 : decode cX12_span 35 = .ok (.istore_n 3, 1) := by decide +kernel
theorem dX12_span_36 : decode cX12_span 36 = .ok (.iconst 1, 1) := by decide +kernel
theorem dX12_span_37 : decode cX12_span 37 = .ok (.istore 4, 2) := by decide +kernel
theorem dX12_span_39 : decode cX12_span 39 = .ok (.iload 4, 2) := by decide +kernel
theorem dX12_span_41 : decode cX12_span 41 = .ok (.bipush 6, 2) := by decide +kernel
theorem dX12_span_43 : decode cX12_span 43 = .ok (.if_icmp .gt 80, 3) := by decide +kernel
theorem dX12_span_46 : decode cX12_span 46 = .ok (.aload_n 0, 1) := by decide +kernel
theorem dX12_span_47 : decode cX12_span 47 = .ok (.getfield 13, 3) := by decide +kernel
theorem dX12_span_50 : decode cX12_span 50 = .ok (.bipush 11, 2) := by decide +kernel
theorem dX12_span_52 : decode cX12_span 52 = .ok (.iload 4, 2) := by decide +kernel
theorem dX12_span_54 : decode cX12_span 54 = .ok (.iastore, 1) := by decide +kernel
theorem dX12_span_55 : decode cX12_span 55 = .ok (.iconst 0, 1) := by decide +kernel
theorem dX12_span_56 : decode cX12_span 56 = .ok (.istore 5, 2) := by decide +kernel
theorem dX12_span_58 : decode cX12_span 58 = .ok (.iload 5, 2) := by decide +kernel
theorem dX12_span_60 : decode cX12_span 60 = .ok (.iload_n 1, 1) := by decide +kernel
theorem dX12_span_61 : decode cX12_span 61 = .ok (.if_icmp .ge 14, 3) := by decide +kernel
theorem dX12_span_64 : decode cX12_span 64 = .ok (.aload_n 0, 1) := by decide +kernel
theorem dX12_span_65 : decode cX12_span 65 = .ok (.iconst 0, 1) := by decide +kernel
theorem dX12_span_66 : decode cX12_span 66 = .ok (.invokevirtual 380, 3) := by decide +kernel
theorem dX12_span_69 : decode cX12_span 69 = .ok (.iinc 5 1, 3) := by decide +kernel
theorem dX12_span_72 : decode cX12_span 72 = .ok (.goto (-14), 3) := by decide +kernel
theorem dX12_span_75 : decode cX12_span 75 = .ok (.aload_n 0, 1) := by decide +kernel
theorem dX12_span_76 : decode cX12_span 76 = .ok (.invokevirtual 377, 3) := by decide +kernel
theorem dX12_span_79 : decode cX12_span 79 = .ok (.invokestatic 358, 3) := by decide +kernel
theorem dX12_span_82 : decode cX12_span 82 = .ok (.istore 5, 2) := by decide +kernel
theorem dX12_span_84 : decode cX12_span 84 = .ok (.aload_n 0, 1) := by decide +kernel
theorem dX12_span_85 : decode cX12_span 85 = .ok (.invokevirtual 355, 3) := by decide +kernel
theorem dX12_span_88 : decode cX12_span 88 = .ok (.iload_n 3, 1) := by decide +kernel
theorem dX12_span_89 : decode cX12_span 89 = .ok (.ifCond .ge 8, 3) := by decide +kernel
theorem dX12_span_92 : decode cX12_span 92 = .ok (.iload 5, 2) := by decide +kernel
theorem dX12_span_94 : decode cX12_span 94 = .ok (.goto 22, 3) := by decide +kernel
theorem dX12_span_97 : decode cX12_span 97 = .ok (.iload_n 2, 1) := by decide +kernel
theorem dX12_span_98 : decode cX12_span 98 = .ok (.ifCond .eq 12, 3) := by decide +kernel
theorem dX12_span_101 : decode cX12_span 101 = .ok (.iload_n 3, 1) := by decide +kernel
theorem dX12_span_102 : decode cX12_span 102 = .ok (.iload 5, 2) := by decide +kernel
theorem dX12_span_104 : decode cX12_span 104 = .ok (.invokestatic 263, 3) := by decide +kernel
theorem dX12_span_107 : decode cX12_span 107 = .ok (.goto 9, 3) := by decide +kernel
theorem dX12_span_110 : decode cX12_span 110 = .ok (.iload_n 3, 1) := by decide +kernel
theorem dX12_span_111 : decode cX12_span 111 = .ok (.iload 5, 2) := by decide +kernel
theorem dX12_span_113 : decode cX12_span 113 = .ok (.invokestatic 258, 3) := by decide +kernel
theorem dX12_span_116 : decode cX12_span 116 = .ok (.istore_n 3, 1) := by decide +kernel
theorem dX12_span_117 : decode cX12_span 117 = .ok (.iinc 4 1, 3) := by decide +kernel
theorem dX12_span_120 : decode cX12_span 120 = .ok (.goto (-81), 3) := by decide +kernel
theorem dX12_span_123 : decode cX12_span 123 = .ok (.iload_n 3, 1) := by decide +kernel
theorem dX12_span_124 : decode cX12_span 124 = .ok (.ireturn, 1) := by decide +kernel
theorem dX12_ofLog_0 : decode cX12_ofLog 0 = .ok (.aload_n 0, 1) := by decide +kernel
theorem dX12_ofLog_1 : decode cX12_ofLog 1 = .ok (.getfield 13, 3) := by decide +kernel
theorem dX12_ofLog_4 : decode cX12_ofLog 4 = .ok (.bipush 82, 2) := by decide +kernel
theorem dX12_ofLog_6 : decode cX12_ofLog 6 = .ok (.iconst 5, 1) := by decide +kernel
theorem dX12_ofLog_7 : decode cX12_ofLog 7 = .ok (.iload_n 1, 1) := by decide +kernel
theorem dX12_ofLog_8 : decode cX12_ofLog 8 = .ok (.imul, 1) := by decide +kernel
theorem dX12_ofLog_9 : decode cX12_ofLog 9 = .ok (.iadd, 1) := by decide +kernel
theorem dX12_ofLog_10 : decode cX12_ofLog 10 = .ok (.iload_n 2, 1) := by decide +kernel
theorem dX12_ofLog_11 : decode cX12_ofLog 11 = .ok (.iadd, 1) := by decide +kernel
theorem dX12_ofLog_12 : decode cX12_ofLog 12 = .ok (.iaload, 1) := by decide +kernel
theorem dX12_ofLog_13 : decode cX12_ofLog 13 = .ok (.ireturn, 1) := by decide +kernel
set_option maxRecDepth 20000 in
theorem ggX12_led_X12_noThing : GoodIn wsX12_led wsX12_noThing := goodIn_r _ [7, 8, 9, 10, 6, 11, 2, 12, 13, 14, 23, 24, 25, 26, 27, 28, 29, 30, 31, 32, 33, 34, 35, 36, 37, 38, 39, 40, 41, 42] (by decide +kernel) (by decide +kernel)
set_option maxRecDepth 20000 in
theorem gX12_led_X12_noThing : GoodIn wsX12_led (wsV RX12 330 RX12 yX12_noThing wsX12_noThing) := goodIn_app (goodIn_of _ (by decide +kernel)) ggX12_led_X12_noThing
set_option maxRecDepth 20000 in
theorem ggX12_led_X12_throwsIf : GoodIn wsX12_led wsX12_throwsIf := goodIn_r _ [18, 1, 23, 24, 25, 26, 27, 28, 29, 30, 31, 32, 33, 34, 35, 36, 37, 38, 39, 40, 41, 42] (by decide +kernel) (by decide +kernel)
set_option maxRecDepth 20000 in
theorem gX12_led_X12_throwsIf : GoodIn wsX12_led (wsV RX12 242 RX12 yX12_throwsIf wsX12_throwsIf) := goodIn_app (goodIn_of _ (by decide +kernel)) ggX12_led_X12_throwsIf
set_option maxRecDepth 20000 in
theorem ggX12_led_X12_ofLog : GoodIn wsX12_led wsX12_ofLog := goodIn_r _ [22, 2, 23, 24, 25, 26, 27, 28, 29, 30, 31, 32, 33, 34, 35, 36, 37, 38, 39, 40, 41, 42] (by decide +kernel) (by decide +kernel)
set_option maxRecDepth 20000 in
theorem gX12_led_X12_ofLog : GoodIn wsX12_led (wsV RX12 446 RX12 yX12_ofLog wsX12_ofLog) := goodIn_app (goodIn_of _ (by decide +kernel)) ggX12_led_X12_ofLog
theorem dX12_led_0 : decode cX12_led 0 = .ok (.aload_n 0, 1) := by decide +kernel
theorem dX12_led_1 : decode cX12_led 1 = .ok (.iconst 0, 1) := by decide +kernel
theorem dX12_led_2 : decode cX12_led 2 = .ok (.putfield 3, 3) := by decide +kernel
theorem dX12_led_5 : decode cX12_led 5 = .ok (.aload_n 0, 1) := by decide +kernel
theorem dX12_led_6 : decode cX12_led 6 = .ok (.aload_n 0, 1) := by decide +kernel
theorem dX12_led_7 : decode cX12_led 7 = .ok (.iload_n 1, 1) := by decide +kernel
theorem dX12_led_8 : decode cX12_led 8 = .ok (.invokevirtual 330, 3) := by decide +kernel
theorem dX12_led_11 : decode cX12_led 11 = .ok (.iconst 1, 1) := by decide +kernel
theorem dX12_led_12 : decode cX12_led 12 = .ok (.invokevirtual 242, 3) := by decide +kernel
theorem dX12_led_15 : decode cX12_led 15 = .ok (.ifCond .eq 5, 3) := by decide +kernel
theorem dX12_led_18 : decode cX12_led 18 = .ok (.iconst 0, 1) := by decide +kernel
theorem dX12_led_19 : decode cX12_led 19 = .ok (.ireturn, 1) := by decide +kernel
theorem dX12_led_20 : decode cX12_led 20 = .ok (.iconst 0, 1) := by decide +kernel
theorem dX12_led_21 : decode cX12_led 21 = .ok (.istore_n 3, 1) := by decide +kernel
theorem dX12_led_22 : decode cX12_led 22 = .ok (.iconst (-1), 1) := by decide +kernel
theorem dX12_led_23 : decode cX12_led 23 = .ok (.istore 4, 2) := by decide +kernel
theorem dX12_led_25 : decode cX12_led 25 = .ok (.aload_n 0, 1) := by decide +kernel
theorem dX12_led_26 : decode cX12_led 26 = .ok (.getfield 13, 3) := by decide +kernel
theorem dX12_led_29 : decode cX12_led 29 = .ok (.bipush 10, 2) := by decide +kernel
theorem dX12_led_31 : decode cX12_led 31 = .ok (.iaload, 1) := by decide +kernel
theorem dX12_led_32 : decode cX12_led 32 = .ok (.iconst 1, 1) := by decide +kernel
theorem dX12_led_33 : decode cX12_led 33 = .ok (.isub, 1) := by decide +kernel
theorem dX12_led_34 : decode cX12_led 34 = .ok (.istore 5, 2) := by decide +kernel
theorem dX12_led_36 : decode cX12_led 36 = .ok (.iload 5, 2) := by decide +kernel
theorem dX12_led_38 : decode cX12_led 38 = .ok (.ifCond .lt 35, 3) := by decide +kernel
theorem dX12_led_41 : decode cX12_led 41 = .ok (.aload_n 0, 1) := by decide +kernel
theorem dX12_led_42 : decode cX12_led 42 = .ok (.iload 5, 2) := by decide +kernel
theorem dX12_led_44 : decode cX12_led 44 = .ok (.iconst 1, 1) := by decide +kernel
theorem dX12_led_45 : decode cX12_led 45 = .ok (.invokevirtual 446, 3) := by decide +kernel
theorem dX12_led_48 : decode cX12_led 48 = .ok (.iload_n 1, 1) := by decide +kernel
theorem dX12_led_49 : decode cX12_led 49 = .ok (.if_icmp .eq 6, 3) := by decide +kernel
theorem dX12_led_52 : decode cX12_led 52 = .ok (.goto 15, 3) := by decide +kernel
theorem dX12_led_55 : decode cX12_led 55 = .ok (.iinc 3 1, 3) := by decide +kernel
theorem dX12_led_58 : decode cX12_led 58 = .ok (.aload_n 0, 1) := by decide +kernel
theorem dX12_led_59 : decode cX12_led 59 = .ok (.iload 5, 2) := by decide +kernel
theorem dX12_led_61 : decode cX12_led 61 = .ok (.iconst 0, 1) := by decide +kernel
theorem dX12_led_62 : decode cX12_led 62 = .ok (.invokevirtual 446, 3) := by decide +kernel
theorem dX12_led_65 : decode cX12_led 65 = .ok (.istore 4, 2) := by decide +kernel
theorem dX12_led_67 : decode cX12_led 67 = .ok (.iinc 5 (-1), 3) := by decide +kernel
theorem dX12_led_70 : decode cX12_led 70 = .ok (.goto (-34), 3) := by decide +kernel
theorem dX12_led_73 : decode cX12_led 73 = .ok (.iload_n 2, 1) := by decide +kernel
theorem dX12_led_74 : decode cX12_led 74 = .ok (.ifCond .eq 8, 3) := by decide +kernel
theorem dX12_led_77 : decode cX12_led 77 = .ok (.iload 4, 2) := by decide +kernel
theorem dX12_led_79 : decode cX12_led 79 = .ok (.goto 4, 3) := by decide +kernel
theorem dX12_led_82 : decode cX12_led 82 = .ok (.iload_n 3, 1) := by decide +kernel
theorem dX12_led_83 : decode cX12_led 83 = .ok (.ireturn, 1) := by decide +kernel
set_option maxRecDepth 20000 in
theorem ggX12_log_X12_in : GoodIn wsX12_log wsX12_in := goodIn_r _ [6] (by decide +kernel) (by decide +kernel)
set_option maxRecDepth 20000 in
theorem gX12_log_X12_in : GoodIn wsX12_log (va_wsS RX12 75 yX12_in wsX12_in) := goodIn_app (goodIn_of _ (by decide +kernel)) ggX12_log_X12_in
set_option maxRecDepth 20000 in
theorem ggX12_log_X12_throwsIf : GoodIn wsX12_log wsX12_throwsIf := goodIn_r _ [10, 1, 15, 16, 17, 18, 19, 20, 21, 22, 23, 24, 25, 26, 27, 28, 29, 30, 31, 32, 33, 34] (by decide +kernel) (by decide +kernel)
set_option maxRecDepth 20000 in
theorem gX12_log_X12_throwsIf : GoodIn wsX12_log (wsV RX12 242 RX12 yX12_throwsIf wsX12_throwsIf) := goodIn_app (goodIn_of _ (by decide +kernel)) ggX12_log_X12_throwsIf
set_option maxRecDepth 20000 in
theorem ggX12_log_X12_ofLog : GoodIn wsX12_log wsX12_ofLog := goodIn_r _ [14, 2, 15, 16, 17, 18, 19, 20, 21, 22, 23, 24, 25, 26, 27, 28, 29, 30, 31, 32, 33, 34] (by decide +kernel) (by decide +kernel)
set_option maxRecDepth 20000 in
theorem gX12_log_X12_ofLog : GoodIn wsX12_log (wsV RX12 446 RX12 yX12_ofLog wsX12_ofLog) := goodIn_app (goodIn_of _ (by decide +kernel)) ggX12_log_X12_ofLog
theorem dX12_log_0 : decode cX12_log 0 = .ok (.aload_n 0, 1) := by decide +kernel
theorem dX12_log_1 : decode cX12_log 1 = .ok (.iconst 0, 1) := by decide +kernel
theorem dX12_log_2 : decode cX12_log 2 = .ok (.putfield 3, 3) := by decide +kernel
theorem dX12_log_5 : decode cX12_log 5 = .ok (.aload_n 0, 1) := by decide +kernel
theorem dX12_log_6 : decode cX12_log 6 = .ok (.iload_n 2, 1) := by decide +kernel
theorem dX12_log_7 : decode cX12_log 7 = .ok (.iconst 0, 1) := by decide +kernel
theorem dX12_log_8 : decode cX12_log 8 = .ok (.iconst 4, 1) := by decide +kernel
theorem dX12_log_9 : decode cX12_log 9 = .ok (.invokestatic 75, 3) := by decide +kernel
theorem dX12_log_12 : decode cX12_log 12 = .ok (.ifCond .ne 7, 3) := by decide +kernel
theorem dX12_log_15 : decode cX12_log 15 = .ok (.iconst 1, 1) := by decide +kernel
theorem dX12_log_16 : decode cX12_log 16 = .ok (.goto 4, 3) := by decide +kernel
theorem dX12_log_19 : decode cX12_log 19 = .ok (.iconst 0, 1) := by decide +kernel
theorem dX12_log_20 : decode cX12_log 20 = .ok (.iconst 1, 1) := by decide +kernel
theorem dX12_log_21 : decode cX12_log 21 = .ok (.invokevirtual 242, 3) := by decide +kernel
theorem dX12_log_24 : decode cX12_log 24 = .ok (.ifCond .eq 5, 3) := by decide +kernel
theorem dX12_log_27 : decode cX12_log 27 = .ok (.iconst 0, 1) := by decide +kernel
theorem dX12_log_28 : decode cX12_log 28 = .ok (.ireturn, 1) := by decide +kernel
theorem dX12_log_29 : decode cX12_log 29 = .ok (.iload_n 1, 1) := by decide +kernel
theorem dX12_log_30 : decode cX12_log 30 = .ok (.iconst 0, 1) := by decide +kernel
theorem dX12_log_31 : decode cX12_log 31 = .ok (.aload_n 0, 1) := by decide +kernel
theorem dX12_log_32 : decode cX12_log 32 = .ok (.getfield 13, 3) := by decide +kernel
theorem dX12_log_35 : decode cX12_log 35 = .ok (.bipush 10, 2) := by decide +kernel
theorem dX12_log_37 : decode cX12_log 37 = .ok (.iaload, 1) := by decide +kernel
theorem dX12_log_38 : decode cX12_log 38 = .ok (.iconst 1, 1) := by decide +kernel
theorem dX12_log_39 : decode cX12_log 39 = .ok (.isub, 1) := by decide +kernel
theorem dX12_log_40 : decode cX12_log 40 = .ok (.invokestatic 75, 3) := by decide +kernel
theorem dX12_log_43 : decode cX12_log 43 = .ok (.ifCond .eq 12, 3) := by decide +kernel
theorem dX12_log_46 : decode cX12_log 46 = .ok (.aload_n 0, 1) := by decide +kernel
theorem dX12_log_47 : decode cX12_log 47 = .ok (.iload_n 1, 1) := by decide +kernel
theorem dX12_log_48 : decode cX12_log 48 = .ok (.iload_n 2, 1) := by decide +kernel
theorem dX12_log_49 : decode cX12_log 49 = .ok (.invokevirtual 446, 3) := by decide +kernel
theorem dX12_log_52 : decode cX12_log 52 = .ok (.goto 5, 3) := by decide +kernel
theorem dX12_log_55 : decode cX12_log 55 = .ok (.bipush (-2), 2) := by decide +kernel
theorem dX12_log_57 : decode cX12_log 57 = .ok (.ireturn, 1) := by decide +kernel
theorem dX12_seed_0 : decode cX12_seed 0 = .ok (.aload_n 0, 1) := by decide +kernel
theorem dX12_seed_1 : decode cX12_seed 1 = .ok (.iconst 0, 1) := by decide +kernel
theorem dX12_seed_2 : decode cX12_seed 2 = .ok (.putfield 3, 3) := by decide +kernel
theorem dX12_seed_5 : decode cX12_seed 5 = .ok (.aload_n 0, 1) := by decide +kernel
theorem dX12_seed_6 : decode cX12_seed 6 = .ok (.getfield 13, 3) := by decide +kernel
theorem dX12_seed_9 : decode cX12_seed 9 = .ok (.bipush 11, 2) := by decide +kernel
theorem dX12_seed_11 : decode cX12_seed 11 = .ok (.iaload, 1) := by decide +kernel
theorem dX12_seed_12 : decode cX12_seed 12 = .ok (.istore_n 2, 1) := by decide +kernel
theorem dX12_seed_13 : decode cX12_seed 13 = .ok (.aload_n 0, 1) := by decide +kernel
theorem dX12_seed_14 : decode cX12_seed 14 = .ok (.getfield 13, 3) := by decide +kernel
theorem dX12_seed_17 : decode cX12_seed 17 = .ok (.bipush 11, 2) := by decide +kernel
theorem dX12_seed_19 : decode cX12_seed 19 = .ok (.iload_n 1, 1) := by decide +kernel
theorem dX12_seed_20 : decode cX12_seed 20 = .ok (.iastore, 1) := by decide +kernel
theorem dX12_seed_21 : decode cX12_seed 21 = .ok (.iload_n 2, 1) := by decide +kernel
theorem dX12_seed_22 : decode cX12_seed 22 = .ok (.ireturn, 1) := by decide +kernel
set_option maxRecDepth 20000 in
theorem ggX12_pursesOfAll_X12_houses : GoodIn wsX12_pursesOfAll wsX12_houses := goodIn_r _ [5, 6, 7, 8, 4, 9, 10, 18, 19, 20, 21, 22, 23, 24, 25, 26, 27, 28, 29, 30, 31, 32, 33, 34, 35, 36, 37] (by decide +kernel) (by decide +kernel)
set_option maxRecDepth 20000 in
theorem gX12_pursesOfAll_X12_houses : GoodIn wsX12_pursesOfAll (wsV RX12 79 RX12 yX12_houses wsX12_houses) := goodIn_app (goodIn_of _ (by decide +kernel)) ggX12_pursesOfAll_X12_houses
set_option maxRecDepth 20000 in
theorem ggX12_pursesOfAll_X12_of : GoodIn wsX12_pursesOfAll wsX12_of := goodIn_r _ [14, 10, 15, 16, 4, 17, 18, 19, 20, 21, 22, 23, 24, 25, 26, 27, 28, 29, 30, 31, 32, 33, 34, 35, 36, 37] (by decide +kernel) (by decide +kernel)
set_option maxRecDepth 20000 in
theorem gX12_pursesOfAll_X12_of : GoodIn wsX12_pursesOfAll (wsV RX12 255 RX12 yX12_of wsX12_of) := goodIn_app (goodIn_of _ (by decide +kernel)) ggX12_pursesOfAll_X12_of
theorem dX12_pursesOfAll_0 : decode cX12_pursesOfAll 0 = .ok (.iconst 0, 1) := by decide +kernel
theorem dX12_pursesOfAll_1 : decode cX12_pursesOfAll 1 = .ok (.istore_n 1, 1) := by decide +kernel
theorem dX12_pursesOfAll_2 : decode cX12_pursesOfAll 2 = .ok (.iconst 0, 1) := by decide +kernel
theorem dX12_pursesOfAll_3 : decode cX12_pursesOfAll 3 = .ok (.istore_n 2, 1) := by decide +kernel
theorem dX12_pursesOfAll_4 : decode cX12_pursesOfAll 4 = .ok (.iload_n 2, 1) := by decide +kernel
theorem dX12_pursesOfAll_5 : decode cX12_pursesOfAll 5 = .ok (.aload_n 0, 1) := by decide +kernel
theorem dX12_pursesOfAll_6 : decode cX12_pursesOfAll 6 = .ok (.invokevirtual 79, 3) := by decide +kernel
theorem dX12_pursesOfAll_9 : decode cX12_pursesOfAll 9 = .ok (.if_icmp .ge 18, 3) := by decide +kernel
theorem dX12_pursesOfAll_12 : decode cX12_pursesOfAll 12 = .ok (.iload_n 1, 1) := by decide +kernel
theorem dX12_pursesOfAll_13 : decode cX12_pursesOfAll 13 = .ok (.aload_n 0, 1) := by decide +kernel
theorem dX12_pursesOfAll_14 : decode cX12_pursesOfAll 14 = .ok (.iload_n 2, 1) := by decide +kernel
theorem dX12_pursesOfAll_15 : decode cX12_pursesOfAll 15 = .ok (.iconst 0, 1) := by decide +kernel
theorem dX12_pursesOfAll_16 : decode cX12_pursesOfAll 16 = .ok (.invokevirtual 255, 3) := by decide +kernel
theorem dX12_pursesOfAll_19 : decode cX12_pursesOfAll 19 = .ok (.iadd, 1) := by decide +kernel
theorem dX12_pursesOfAll_20 : decode cX12_pursesOfAll 20 = .ok (.istore_n 1, 1) := by decide +kernel
theorem dX12_pursesOfAll_21 : decode cX12_pursesOfAll 21 = .ok (.iinc 2 1, 3) := by decide +kernel
theorem dX12_pursesOfAll_24 : decode cX12_pursesOfAll 24 = .ok (.goto (-20), 3) := by decide +kernel
theorem dX12_pursesOfAll_27 : decode cX12_pursesOfAll 27 = .ok (.iload_n 1, 1) := by decide +kernel
theorem dX12_pursesOfAll_28 : decode cX12_pursesOfAll 28 = .ok (.ireturn, 1) := by decide +kernel
set_option maxRecDepth 20000 in
theorem ggX12_count_X12_brokenOnes : GoodIn wsX12_count wsX12_brokenOnes := goodIn_r _ [8, 9, 10, 11, 7, 12, 2, 13, 14, 15, 16, 17, 18, 19, 20, 21, 22, 23, 61, 62, 63, 64, 65, 66, 67, 68, 69, 70, 71, 72, 73, 74, 75, 76, 77, 78, 79, 80] (by decide +kernel) (by decide +kernel)
set_option maxRecDepth 20000 in
theorem gX12_count_X12_brokenOnes : GoodIn wsX12_count (wsV RX12 443 RX12 yX12_brokenOnes wsX12_brokenOnes) := goodIn_app (goodIn_of _ (by decide +kernel)) ggX12_count_X12_brokenOnes
set_option maxRecDepth 20000 in
theorem ggX12_count_X12_goneOnes : GoodIn wsX12_count wsX12_goneOnes := goodIn_r _ [27, 28, 29, 30, 7, 31, 2, 32, 33, 34, 35, 36, 37, 38, 39, 40, 41, 42, 61, 62, 63, 64, 65, 66, 67, 68, 69, 70, 71, 72, 73, 74, 75, 76, 77, 78, 79, 80] (by decide +kernel) (by decide +kernel)
set_option maxRecDepth 20000 in
theorem gX12_count_X12_goneOnes : GoodIn wsX12_count (wsV RX12 377 RX12 yX12_goneOnes wsX12_goneOnes) := goodIn_app (goodIn_of _ (by decide +kernel)) ggX12_count_X12_goneOnes
set_option maxRecDepth 20000 in
theorem ggX12_count_X12_pursesOfAll : GoodIn wsX12_count wsX12_pursesOfAll := goodIn_r _ [46, 47, 48, 49, 7, 50, 9, 10, 11, 12, 2, 51, 52, 53, 54, 55, 56, 57, 61, 62, 63, 64, 65, 66, 67, 68, 69, 70, 71, 72, 73, 74, 75, 76, 77, 78, 79, 80] (by decide +kernel) (by decide +kernel)
set_option maxRecDepth 20000 in
theorem gX12_count_X12_pursesOfAll : GoodIn wsX12_count (wsV RX12 449 RX12 yX12_pursesOfAll wsX12_pursesOfAll) := goodIn_app (goodIn_of _ (by decide +kernel)) ggX12_count_X12_pursesOfAll
set_option maxRecDepth 20000 in
theorem ggX12_count_X12_in : GoodIn wsX12_count wsX12_in := goodIn_r _ [60] (by decide +kernel) (by decide +kernel)
set_option maxRecDepth 20000 in
theorem gX12_count_X12_in : GoodIn wsX12_count (va_wsS RX12 75 yX12_in wsX12_in) := goodIn_app (goodIn_of _ (by decide +kernel)) ggX12_count_X12_in
theorem dX12_count_0 : decode cX12_count 0 = .ok (.aload_n 0, 1) := by decide +kernel
theorem dX12_count_1 : decode cX12_count 1 = .ok (.iconst 0, 1) := by decide +kernel
theorem dX12_count_2 : decode cX12_count 2 = .ok (.putfield 3, 3) := by decide +kernel
theorem dX12_count_5 : decode cX12_count 5 = .ok (.iload_n 1, 1) := by decide +kernel
theorem dX12_count_6 : decode cX12_count 6 = .ok (.tableswitch 113 3 14 #[62, 113, 113, 113, 113, 113, 113, 85, 90, 95, 100, 108], 62) := by decide +kernel
theorem dX12_count_68 : decode cX12_count 68 = .ok (.aload_n 0, 1) := by decide +kernel
theorem dX12_count_69 : decode cX12_count 69 = .ok (.getfield 13, 3) := by decide +kernel
theorem dX12_count_72 : decode cX12_count 72 = .ok (.iconst 3, 1) := by decide +kernel
theorem dX12_count_73 : decode cX12_count 73 = .ok (.iaload, 1) := by decide +kernel
theorem dX12_count_74 : decode cX12_count 74 = .ok (.iconst 1, 1) := by decide +kernel
theorem dX12_count_75 : decode cX12_count 75 = .ok (.if_icmp .ne 14, 3) := by decide +kernel
theorem dX12_count_78 : decode cX12_count 78 = .ok (.aload_n 0, 1) := by decide +kernel
theorem dX12_count_79 : decode cX12_count 79 = .ok (.getfield 13, 3) := by decide +kernel
theorem dX12_count_82 : decode cX12_count 82 = .ok (.sipush 382, 3) := by decide +kernel
theorem dX12_count_85 : decode cX12_count 85 = .ok (.iaload, 1) := by decide +kernel
theorem dX12_count_86 : decode cX12_count 86 = .ok (.goto 4, 3) := by decide +kernel
theorem dX12_count_89 : decode cX12_count 89 = .ok (.iconst (-1), 1) := by decide +kernel
theorem dX12_count_90 : decode cX12_count 90 = .ok (.ireturn, 1) := by decide +kernel
theorem dX12_count_91 : decode cX12_count 91 = .ok (.aload_n 0, 1) := by decide +kernel
theorem dX12_count_92 : decode cX12_count 92 = .ok (.invokevirtual 443, 3) := by decide +kernel
theorem dX12_count_95 : decode cX12_count 95 = .ok (.ireturn, 1) := by decide +kernel
theorem dX12_count_96 : decode cX12_count 96 = .ok (.aload_n 0, 1) := by decide +kernel
theorem dX12_count_97 : decode cX12_count 97 = .ok (.invokevirtual 377, 3) := by decide +kernel
theorem dX12_count_100 : decode cX12_count 100 = .ok (.ireturn, 1) := by decide +kernel
theorem dX12_count_101 : decode cX12_count 101 = .ok (.aload_n 0, 1) := by decide +kernel
theorem dX12_count_102 : decode cX12_count 102 = .ok (.invokevirtual 449, 3) := by decide +kernel
theorem dX12_count_105 : decode cX12_count 105 = .ok (.ireturn, 1) := by decide +kernel
theorem dX12_count_106 : decode cX12_count 106 = .ok (.aload_n 0, 1) := by decide +kernel
theorem dX12_count_107 : decode cX12_count 107 = .ok (.getfield 13, 3) := by decide +kernel
theorem dX12_count_110 : decode cX12_count 110 = .ok (.bipush 10, 2) := by decide +kernel
theorem dX12_count_112 : decode cX12_count 112 = .ok (.iaload, 1) := by decide +kernel
theorem dX12_count_113 : decode cX12_count 113 = .ok (.ireturn, 1) := by decide +kernel
theorem dX12_count_114 : decode cX12_count 114 = .ok (.aload_n 0, 1) := by decide +kernel
theorem dX12_count_115 : decode cX12_count 115 = .ok (.getfield 52, 3) := by decide +kernel
theorem dX12_count_118 : decode cX12_count 118 = .ok (.ireturn, 1) := by decide +kernel
theorem dX12_count_119 : decode cX12_count 119 = .ok (.iload_n 1, 1) := by decide +kernel
theorem dX12_count_120 : decode cX12_count 120 = .ok (.iconst 0, 1) := by decide +kernel
theorem dX12_count_121 : decode cX12_count 121 = .ok (.bipush 9, 2) := by decide +kernel
theorem dX12_count_123 : decode cX12_count 123 = .ok (.invokestatic 75, 3) := by decide +kernel
theorem dX12_count_126 : decode cX12_count 126 = .ok (.ifCond .eq 12, 3) := by decide +kernel
theorem dX12_count_129 : decode cX12_count 129 = .ok (.aload_n 0, 1) := by decide +kernel
theorem dX12_count_130 : decode cX12_count 130 = .ok (.getfield 13, 3) := by decide +kernel
theorem dX12_count_133 : decode cX12_count 133 = .ok (.iload_n 1, 1) := by decide +kernel
theorem dX12_count_134 : decode cX12_count 134 = .ok (.iaload, 1) := by decide +kernel
theorem dX12_count_135 : decode cX12_count 135 = .ok (.goto 4, 3) := by decide +kernel
theorem dX12_count_138 : decode cX12_count 138 = .ok (.iconst (-1), 1) := by decide +kernel
theorem dX12_count_139 : decode cX12_count 139 = .ok (.ireturn, 1) := by decide +kernel
theorem dJ6_numberOfTrailingZeros_0f7a4_0 : decode cJ6_numberOfTrailingZeros_0f7a4 0 = .ok (.iload_n 0, 1) := by decide +kernel
theorem dJ6_numberOfTrailingZeros_0f7a4_1 : decode cJ6_numberOfTrailingZeros_0f7a4 1 = .ok (.iconst (-1), 1) := by decide +kernel
theorem dJ6_numberOfTrailingZeros_0f7a4_2 : decode cJ6_numberOfTrailingZeros_0f7a4 2 = .ok (.ixor, 1) := by decide +kernel
theorem dJ6_numberOfTrailingZeros_0f7a4_3 : decode cJ6_numberOfTrailingZeros_0f7a4 3 = .ok (.iload_n 0, 1) := by decide +kernel
theorem dJ6_numberOfTrailingZeros_0f7a4_4 : decode cJ6_numberOfTrailingZeros_0f7a4 4 = .ok (.iconst 1, 1) := by decide +kernel
theorem dJ6_numberOfTrailingZeros_0f7a4_5 : decode cJ6_numberOfTrailingZeros_0f7a4 5 = .ok (.isub, 1) := by decide +kernel
theorem dJ6_numberOfTrailingZeros_0f7a4_6 : decode cJ6_numberOfTrailingZeros_0f7a4 6 = .ok (.iand, 1) := by decide +kernel
theorem dJ6_numberOfTrailingZeros_0f7a4_7 : decode cJ6_numberOfTrailingZeros_0f7a4 7 = .ok (.istore_n 0, 1) := by decide +kernel
theorem dJ6_numberOfTrailingZeros_0f7a4_8 : decode cJ6_numberOfTrailingZeros_0f7a4 8 = .ok (.iload_n 0, 1) := by decide +kernel
theorem dJ6_numberOfTrailingZeros_0f7a4_9 : decode cJ6_numberOfTrailingZeros_0f7a4 9 = .ok (.ifCond .gt 8, 3) := by decide +kernel
theorem dJ6_numberOfTrailingZeros_0f7a4_12 : decode cJ6_numberOfTrailingZeros_0f7a4 12 = .ok (.iload_n 0, 1) := by decide +kernel
theorem dJ6_numberOfTrailingZeros_0f7a4_13 : decode cJ6_numberOfTrailingZeros_0f7a4 13 = .ok (.bipush 32, 2) := by decide +kernel
theorem dJ6_numberOfTrailingZeros_0f7a4_15 : decode cJ6_numberOfTrailingZeros_0f7a4 15 = .ok (.iand, 1) := by decide +kernel
theorem dJ6_numberOfTrailingZeros_0f7a4_16 : decode cJ6_numberOfTrailingZeros_0f7a4 16 = .ok (.ireturn, 1) := by decide +kernel
theorem dJ6_numberOfTrailingZeros_0f7a4_17 : decode cJ6_numberOfTrailingZeros_0f7a4 17 = .ok (.iconst 1, 1) := by decide +kernel
theorem dJ6_numberOfTrailingZeros_0f7a4_18 : decode cJ6_numberOfTrailingZeros_0f7a4 18 = .ok (.istore_n 1, 1) := by decide +kernel
theorem dJ6_numberOfTrailingZeros_0f7a4_19 : decode cJ6_numberOfTrailingZeros_0f7a4 19 = .ok (.iload_n 0, 1) := by decide +kernel
theorem dJ6_numberOfTrailingZeros_0f7a4_20 : decode cJ6_numberOfTrailingZeros_0f7a4 20 = .ok (.ldc_w 264, 3) := by decide +kernel
theorem dJ6_numberOfTrailingZeros_0f7a4_23 : decode cJ6_numberOfTrailingZeros_0f7a4 23 = .ok (.if_icmp .le 11, 3) := by decide +kernel
theorem dJ6_numberOfTrailingZeros_0f7a4_26 : decode cJ6_numberOfTrailingZeros_0f7a4 26 = .ok (.iinc 1 16, 3) := by decide +kernel
theorem dJ6_numberOfTrailingZeros_0f7a4_29 : decode cJ6_numberOfTrailingZeros_0f7a4 29 = .ok (.iload_n 0, 1) := by decide +kernel
theorem dJ6_numberOfTrailingZeros_0f7a4_30 : decode cJ6_numberOfTrailingZeros_0f7a4 30 = .ok (.bipush 16, 2) := by decide +kernel
theorem dJ6_numberOfTrailingZeros_0f7a4_32 : decode cJ6_numberOfTrailingZeros_0f7a4 32 = .ok (.iushr, 1) := by decide +kernel
theorem dJ6_numberOfTrailingZeros_0f7a4_33 : decode cJ6_numberOfTrailingZeros_0f7a4 33 = .ok (.istore_n 0, 1) := by decide +kernel
theorem dJ6_numberOfTrailingZeros_0f7a4_34 : decode cJ6_numberOfTrailingZeros_0f7a4 34 = .ok (.iload_n 0, 1) := by decide +kernel
theorem dJ6_numberOfTrailingZeros_0f7a4_35 : decode cJ6_numberOfTrailingZeros_0f7a4 35 = .ok (.sipush 256, 3) := by decide +kernel
theorem dJ6_numberOfTrailingZeros_0f7a4_38 : decode cJ6_numberOfTrailingZeros_0f7a4 38 = .ok (.if_icmp .le 11, 3) := by decide +kernel
theorem dJ6_numberOfTrailingZeros_0f7a4_41 : decode cJ6_numberOfTrailingZeros_0f7a4 41 = .ok (.iinc 1 8, 3) := by decide +kernel
theorem dJ6_numberOfTrailingZeros_0f7a4_44 : decode cJ6_numberOfTrailingZeros_0f7a4 44 = .ok (.iload_n 0, 1) := by decide +kernel
theorem dJ6_numberOfTrailingZeros_0f7a4_45 : decode cJ6_numberOfTrailingZeros_0f7a4 45 = .ok (.bipush 8, 2) := by decide +kernel
theorem dJ6_numberOfTrailingZeros_0f7a4_47 : decode cJ6_numberOfTrailingZeros_0f7a4 47 = .ok (.iushr, 1) := by decide +kernel
theorem dJ6_numberOfTrailingZeros_0f7a4_48 : decode cJ6_numberOfTrailingZeros_0f7a4 48 = .ok (.istore_n 0, 1) := by decide +kernel
theorem dJ6_numberOfTrailingZeros_0f7a4_49 : decode cJ6_numberOfTrailingZeros_0f7a4 49 = .ok (.iload_n 0, 1) := by decide +kernel
theorem dJ6_numberOfTrailingZeros_0f7a4_50 : decode cJ6_numberOfTrailingZeros_0f7a4 50 = .ok (.bipush 16, 2) := by decide +kernel
theorem dJ6_numberOfTrailingZeros_0f7a4_52 : decode cJ6_numberOfTrailingZeros_0f7a4 52 = .ok (.if_icmp .le 10, 3) := by decide +kernel
theorem dJ6_numberOfTrailingZeros_0f7a4_55 : decode cJ6_numberOfTrailingZeros_0f7a4 55 = .ok (.iinc 1 4, 3) := by decide +kernel
theorem dJ6_numberOfTrailingZeros_0f7a4_58 : decode cJ6_numberOfTrailingZeros_0f7a4 58 = .ok (.iload_n 0, 1) := by decide +kernel
theorem dJ6_numberOfTrailingZeros_0f7a4_59 : decode cJ6_numberOfTrailingZeros_0f7a4 59 = .ok (.iconst 4, 1) := by decide +kernel
theorem dJ6_numberOfTrailingZeros_0f7a4_60 : decode cJ6_numberOfTrailingZeros_0f7a4 60 = .ok (.iushr, 1) := by decide +kernel
theorem dJ6_numberOfTrailingZeros_0f7a4_61 : decode cJ6_numberOfTrailingZeros_0f7a4 61 = .ok (.istore_n 0, 1) := by decide +kernel
theorem dJ6_numberOfTrailingZeros_0f7a4_62 : decode cJ6_numberOfTrailingZeros_0f7a4 62 = .ok (.iload_n 0, 1) := by decide +kernel
theorem dJ6_numberOfTrailingZeros_0f7a4_63 : decode cJ6_numberOfTrailingZeros_0f7a4 63 = .ok (.iconst 4, 1) := by decide +kernel
theorem dJ6_numberOfTrailingZeros_0f7a4_64 : decode cJ6_numberOfTrailingZeros_0f7a4 64 = .ok (.if_icmp .le 10, 3) := by decide +kernel
theorem dJ6_numberOfTrailingZeros_0f7a4_67 : decode cJ6_numberOfTrailingZeros_0f7a4 67 = .ok (.iinc 1 2, 3) := by decide +kernel
theorem dJ6_numberOfTrailingZeros_0f7a4_70 : decode cJ6_numberOfTrailingZeros_0f7a4 70 = .ok (.iload_n 0, 1) := by decide +kernel
theorem dJ6_numberOfTrailingZeros_0f7a4_71 : decode cJ6_numberOfTrailingZeros_0f7a4 71 = .ok (.iconst 2, 1) := by decide +kernel
theorem dJ6_numberOfTrailingZeros_0f7a4_72 : decode cJ6_numberOfTrailingZeros_0f7a4 72 = .ok (.iushr, 1) := by decide +kernel
theorem dJ6_numberOfTrailingZeros_0f7a4_73 : decode cJ6_numberOfTrailingZeros_0f7a4 73 = .ok (.istore_n 0, 1) := by decide +kernel
theorem dJ6_numberOfTrailingZeros_0f7a4_74 : decode cJ6_numberOfTrailingZeros_0f7a4 74 = .ok (.iload_n 1, 1) := by decide +kernel
theorem dJ6_numberOfTrailingZeros_0f7a4_75 : decode cJ6_numberOfTrailingZeros_0f7a4 75 = .ok (.iload_n 0, 1) := by decide +kernel
theorem dJ6_numberOfTrailingZeros_0f7a4_76 : decode cJ6_numberOfTrailingZeros_0f7a4 76 = .ok (.iconst 1, 1) := by decide +kernel
theorem dJ6_numberOfTrailingZeros_0f7a4_77 : decode cJ6_numberOfTrailingZeros_0f7a4 77 = .ok (.iushr, 1) := by decide +kernel
theorem dJ6_numberOfTrailingZeros_0f7a4_78 : decode cJ6_numberOfTrailingZeros_0f7a4 78 = .ok (.iadd, 1) := by decide +kernel
theorem dJ6_numberOfTrailingZeros_0f7a4_79 : decode cJ6_numberOfTrailingZeros_0f7a4 79 = .ok (.ireturn, 1) := by decide +kernel
theorem dJ6_bitCount_0f7a4_0 : decode cJ6_bitCount_0f7a4 0 = .ok (.iload_n 0, 1) := by decide +kernel
theorem dJ6_bitCount_0f7a4_1 : decode cJ6_bitCount_0f7a4 1 = .ok (.iload_n 0, 1) := by decide +kernel
theorem dJ6_bitCount_0f7a4_2 : decode cJ6_bitCount_0f7a4 2 = .ok (.iconst 1, 1) := by decide +kernel
theorem dJ6_bitCount_0f7a4_3 : decode cJ6_bitCount_0f7a4 3 = .ok (.iushr, 1) := by decide +kernel
theorem dJ6_bitCount_0f7a4_4 : decode cJ6_bitCount_0f7a4 4 = .ok (.ldc_w 265, 3) := by decide +kernel
theorem dJ6_bitCount_0f7a4_7 : decode cJ6_bitCount_0f7a4 7 = .ok (.iand, 1) := by decide +kernel
theorem dJ6_bitCount_0f7a4_8 : decode cJ6_bitCount_0f7a4 8 = .ok (.isub, 1) := by decide +kernel
theorem dJ6_bitCount_0f7a4_9 : decode cJ6_bitCount_0f7a4 9 = .ok (.istore_n 0, 1) := by decide +kernel
theorem dJ6_bitCount_0f7a4_10 : decode cJ6_bitCount_0f7a4 10 = .ok (.iload_n 0, 1) := by decide +kernel
theorem dJ6_bitCount_0f7a4_11 : decode cJ6_bitCount_0f7a4 11 = .ok (.ldc_w 266, 3) := by decide +kernel
theorem dJ6_bitCount_0f7a4_14 : decode cJ6_bitCount_0f7a4 14 = .ok (.iand, 1) := by decide +kernel
theorem dJ6_bitCount_0f7a4_15 : decode cJ6_bitCount_0f7a4 15 = .ok (.iload_n 0, 1) := by decide +kernel
theorem dJ6_bitCount_0f7a4_16 : decode cJ6_bitCount_0f7a4 16 = .ok (.iconst 2, 1) := by decide +kernel
theorem dJ6_bitCount_0f7a4_17 : decode cJ6_bitCount_0f7a4 17 = .ok (.iushr, 1) := by decide +kernel
theorem dJ6_bitCount_0f7a4_18 : decode cJ6_bitCount_0f7a4 18 = .ok (.ldc_w 266, 3) := by decide +kernel
theorem dJ6_bitCount_0f7a4_21 : decode cJ6_bitCount_0f7a4 21 = .ok (.iand, 1) := by decide +kernel
theorem dJ6_bitCount_0f7a4_22 : decode cJ6_bitCount_0f7a4 22 = .ok (.iadd, 1) := by decide +kernel
theorem dJ6_bitCount_0f7a4_23 : decode cJ6_bitCount_0f7a4 23 = .ok (.istore_n 0, 1) := by decide +kernel
theorem dJ6_bitCount_0f7a4_24 : decode cJ6_bitCount_0f7a4 24 = .ok (.iload_n 0, 1) := by decide +kernel
theorem dJ6_bitCount_0f7a4_25 : decode cJ6_bitCount_0f7a4 25 = .ok (.iload_n 0, 1) := by decide +kernel
theorem dJ6_bitCount_0f7a4_26 : decode cJ6_bitCount_0f7a4 26 = .ok (.iconst 4, 1) := by decide +kernel
theorem dJ6_bitCount_0f7a4_27 : decode cJ6_bitCount_0f7a4 27 = .ok (.iushr, 1) := by decide +kernel
theorem dJ6_bitCount_0f7a4_28 : decode cJ6_bitCount_0f7a4 28 = .ok (.iadd, 1) := by decide +kernel
theorem dJ6_bitCount_0f7a4_29 : decode cJ6_bitCount_0f7a4 29 = .ok (.ldc_w 267, 3) := by decide +kernel
theorem dJ6_bitCount_0f7a4_32 : decode cJ6_bitCount_0f7a4 32 = .ok (.iand, 1) := by decide +kernel
theorem dJ6_bitCount_0f7a4_33 : decode cJ6_bitCount_0f7a4 33 = .ok (.istore_n 0, 1) := by decide +kernel
theorem dJ6_bitCount_0f7a4_34 : decode cJ6_bitCount_0f7a4 34 = .ok (.iload_n 0, 1) := by decide +kernel
theorem dJ6_bitCount_0f7a4_35 : decode cJ6_bitCount_0f7a4 35 = .ok (.iload_n 0, 1) := by decide +kernel
theorem dJ6_bitCount_0f7a4_36 : decode cJ6_bitCount_0f7a4 36 = .ok (.bipush 8, 2) := by decide +kernel
theorem dJ6_bitCount_0f7a4_38 : decode cJ6_bitCount_0f7a4 38 = .ok (.iushr, 1) := by decide +kernel
theorem dJ6_bitCount_0f7a4_39 : decode cJ6_bitCount_0f7a4 39 = .ok (.iadd, 1) := by decide +kernel
theorem dJ6_bitCount_0f7a4_40 : decode cJ6_bitCount_0f7a4 40 = .ok (.istore_n 0, 1) := by decide +kernel
theorem dJ6_bitCount_0f7a4_41 : decode cJ6_bitCount_0f7a4 41 = .ok (.iload_n 0, 1) := by decide +kernel
theorem dJ6_bitCount_0f7a4_42 : decode cJ6_bitCount_0f7a4 42 = .ok (.iload_n 0, 1) := by decide +kernel
theorem dJ6_bitCount_0f7a4_43 : decode cJ6_bitCount_0f7a4 43 = .ok (.bipush 16, 2) := by decide +kernel
theorem dJ6_bitCount_0f7a4_45 : decode cJ6_bitCount_0f7a4 45 = .ok (.iushr, 1) := by decide +kernel
theorem dJ6_bitCount_0f7a4_46 : decode cJ6_bitCount_0f7a4 46 = .ok (.iadd, 1) := by decide +kernel
theorem dJ6_bitCount_0f7a4_47 : decode cJ6_bitCount_0f7a4 47 = .ok (.istore_n 0, 1) := by decide +kernel
theorem dJ6_bitCount_0f7a4_48 : decode cJ6_bitCount_0f7a4 48 = .ok (.iload_n 0, 1) := by decide +kernel
theorem dJ6_bitCount_0f7a4_49 : decode cJ6_bitCount_0f7a4 49 = .ok (.bipush 63, 2) := by decide +kernel
theorem dJ6_bitCount_0f7a4_51 : decode cJ6_bitCount_0f7a4 51 = .ok (.iand, 1) := by decide +kernel
theorem dJ6_bitCount_0f7a4_52 : decode cJ6_bitCount_0f7a4 52 = .ok (.ireturn, 1) := by decide +kernel
theorem dJ9_abs_0f7a4_0 : decode cJ9_abs_0f7a4 0 = .ok (.iload_n 0, 1) := by decide +kernel
theorem dJ9_abs_0f7a4_1 : decode cJ9_abs_0f7a4 1 = .ok (.ifCond .ge 8, 3) := by decide +kernel
theorem dJ9_abs_0f7a4_4 : decode cJ9_abs_0f7a4 4 = .ok (.iload_n 0, 1) := by decide +kernel
theorem dJ9_abs_0f7a4_5 : decode cJ9_abs_0f7a4 5 = .ok (.ineg, 1) := by decide +kernel
theorem dJ9_abs_0f7a4_6 : decode cJ9_abs_0f7a4 6 = .ok (.goto 4, 3) := by decide +kernel
theorem dJ9_abs_0f7a4_9 : decode cJ9_abs_0f7a4 9 = .ok (.iload_n 0, 1) := by decide +kernel
theorem dJ9_abs_0f7a4_10 : decode cJ9_abs_0f7a4 10 = .ok (.ireturn, 1) := by decide +kernel
theorem dJ9_max_7cf53_0 : decode cJ9_max_7cf53 0 = .ok (.iload_n 0, 1) := by decide +kernel
theorem dJ9_max_7cf53_1 : decode cJ9_max_7cf53 1 = .ok (.iload_n 1, 1) := by decide +kernel
theorem dJ9_max_7cf53_2 : decode cJ9_max_7cf53 2 = .ok (.if_icmp .lt 7, 3) := by decide +kernel
theorem dJ9_max_7cf53_5 : decode cJ9_max_7cf53 5 = .ok (.iload_n 0, 1) := by decide +kernel
theorem dJ9_max_7cf53_6 : decode cJ9_max_7cf53 6 = .ok (.goto 4, 3) := by decide +kernel
theorem dJ9_max_7cf53_9 : decode cJ9_max_7cf53 9 = .ok (.iload_n 1, 1) := by decide +kernel
theorem dJ9_max_7cf53_10 : decode cJ9_max_7cf53 10 = .ok (.ireturn, 1) := by decide +kernel
theorem dJ9_min_7cf53_0 : decode cJ9_min_7cf53 0 = .ok (.iload_n 0, 1) := by decide +kernel
theorem dJ9_min_7cf53_1 : decode cJ9_min_7cf53 1 = .ok (.iload_n 1, 1) := by decide +kernel
theorem dJ9_min_7cf53_2 : decode cJ9_min_7cf53 2 = .ok (.if_icmp .gt 7, 3) := by decide +kernel
theorem dJ9_min_7cf53_5 : decode cJ9_min_7cf53 5 = .ok (.iload_n 0, 1) := by decide +kernel
theorem dJ9_min_7cf53_6 : decode cJ9_min_7cf53 6 = .ok (.goto 4, 3) := by decide +kernel
theorem dJ9_min_7cf53_9 : decode cJ9_min_7cf53 9 = .ok (.iload_n 1, 1) := by decide +kernel
theorem dJ9_min_7cf53_10 : decode cJ9_min_7cf53 10 = .ok (.ireturn, 1) := by decide +kernel
set_option maxRecDepth 20000 in
theorem ggJ0_length_8abf5_J0_coder_7d493 : GoodIn wsJ0_length_8abf5 wsJ0_coder_7d493 := goodIn_r _ [6, 7, 8] (by decide +kernel) (by decide +kernel)
set_option maxRecDepth 20000 in
theorem gJ0_length_8abf5_J0_coder_7d493 : GoodIn wsJ0_length_8abf5 (wsV RJ0 335 RJ0 yJ0_coder_7d493 wsJ0_coder_7d493) := goodIn_app (goodIn_of _ (by decide +kernel)) ggJ0_length_8abf5_J0_coder_7d493
theorem dJ0_length_8abf5_0 : decode cJ0_length_8abf5 0 = .ok (.aload_n 0, 1) := by decide +kernel
theorem dJ0_length_8abf5_1 : decode cJ0_length_8abf5 1 = .ok (.getfield 9, 3) := by decide +kernel
theorem dJ0_length_8abf5_4 : decode cJ0_length_8abf5 4 = .ok (.arraylength, 1) := by decide +kernel
theorem dJ0_length_8abf5_5 : decode cJ0_length_8abf5 5 = .ok (.aload_n 0, 1) := by decide +kernel
theorem dJ0_length_8abf5_6 : decode cJ0_length_8abf5 6 = .ok (.invokevirtual 335, 3) := by decide +kernel
theorem dJ0_length_8abf5_9 : decode cJ0_length_8abf5 9 = .ok (.ishr, 1) := by decide +kernel
theorem dJ0_length_8abf5_10 : decode cJ0_length_8abf5 10 = .ok (.ireturn, 1) := by decide +kernel
set_option maxRecDepth 20000 in
theorem ggJ0_charAt_5068e_J0_isLatin1_aae02 : GoodIn wsJ0_charAt_5068e wsJ0_isLatin1_aae02 := goodIn_r _ [6, 7, 8] (by decide +kernel) (by decide +kernel)
set_option maxRecDepth 20000 in
theorem gJ0_charAt_5068e_J0_isLatin1_aae02 : GoodIn wsJ0_charAt_5068e (wsV RJ0 492 RJ0 yJ0_isLatin1_aae02 wsJ0_isLatin1_aae02) := goodIn_app (goodIn_of _ (by decide +kernel)) ggJ0_charAt_5068e_J0_isLatin1_aae02
set_option maxRecDepth 20000 in
theorem ggJ0_charAt_5068e_J1_charAt_3b067 : GoodIn wsJ0_charAt_5068e wsJ1_charAt_3b067 := goodIn_r _ [12, 13, 14, 5, 15, 16, 17, 18, 19, 20] (by decide +kernel) (by decide +kernel)
set_option maxRecDepth 20000 in
theorem gJ0_charAt_5068e_J1_charAt_3b067 : GoodIn wsJ0_charAt_5068e (va_wsS RJ0 495 yJ1_charAt_3b067 wsJ1_charAt_3b067) := goodIn_app (goodIn_of _ (by decide +kernel)) ggJ0_charAt_5068e_J1_charAt_3b067
set_option maxRecDepth 20000 in
theorem ggJ0_charAt_5068e_J2_charAt_3b067 : GoodIn wsJ0_charAt_5068e wsJ2_charAt_3b067 := goodIn_r _ [24, 25, 26, 23, 27, 28, 29, 30, 31, 14, 5, 15, 16, 17, 18, 19, 20, 32, 33, 34, 35, 36, 37] (by decide +kernel) (by decide +kernel)
set_option maxRecDepth 20000 in
theorem gJ0_charAt_5068e_J2_charAt_3b067 : GoodIn wsJ0_charAt_5068e (va_wsS RJ0 498 yJ2_charAt_3b067 wsJ2_charAt_3b067) := goodIn_app (goodIn_of _ (by decide +kernel)) ggJ0_charAt_5068e_J2_charAt_3b067
theorem dJ0_charAt_5068e_0 : decode cJ0_charAt_5068e 0 = .ok (.aload_n 0, 1) := by decide +kernel
theorem dJ0_charAt_5068e_1 : decode cJ0_charAt_5068e 1 = .ok (.invokevirtual 492, 3) := by decide +kernel
theorem dJ0_charAt_5068e_4 : decode cJ0_charAt_5068e 4 = .ok (.ifCond .eq 12, 3) := by decide +kernel
theorem dJ0_charAt_5068e_7 : decode cJ0_charAt_5068e 7 = .ok (.aload_n 0, 1) := by decide +kernel
theorem dJ0_charAt_5068e_8 : decode cJ0_charAt_5068e 8 = .ok (.getfield 9, 3) := by decide +kernel
theorem dJ0_charAt_5068e_11 : decode cJ0_charAt_5068e 11 = .ok (.iload_n 1, 1) := by decide +kernel
theorem dJ0_charAt_5068e_12 : decode cJ0_charAt_5068e 12 = .ok (.invokestatic 495, 3) := by decide +kernel
theorem dJ0_charAt_5068e_15 : decode cJ0_charAt_5068e 15 = .ok (.ireturn, 1) := by decide +kernel
theorem dJ0_charAt_5068e_16 : decode cJ0_charAt_5068e 16 = .ok (.aload_n 0, 1) := by decide +kernel
theorem dJ0_charAt_5068e_17 : decode cJ0_charAt_5068e 17 = .ok (.getfield 9, 3) := by decide +kernel
theorem dJ0_charAt_5068e_20 : decode cJ0_charAt_5068e 20 = .ok (.iload_n 1, 1) := by decide +kernel
theorem dJ0_charAt_5068e_21 : decode cJ0_charAt_5068e 21 = .ok (.invokestatic 498, 3) := by decide +kernel
theorem dJ0_charAt_5068e_24 : decode cJ0_charAt_5068e 24 = .ok (.ireturn, 1) := by decide +kernel
theorem dJ0_coder_7d493_0 : decode cJ0_coder_7d493 0 = .ok (.getstatic 38, 3) := by decide +kernel
theorem dJ0_coder_7d493_3 : decode cJ0_coder_7d493 3 = .ok (.ifCond .eq 10, 3) := by decide +kernel
theorem dJ0_coder_7d493_6 : decode cJ0_coder_7d493 6 = .ok (.aload_n 0, 1) := by decide +kernel
theorem dJ0_coder_7d493_7 : decode cJ0_coder_7d493 7 = .ok (.getfield 15, 3) := by decide +kernel
theorem dJ0_coder_7d493_10 : decode cJ0_coder_7d493 10 = .ok (.goto 4, 3) := by decide +kernel
theorem dJ0_coder_7d493_13 : decode cJ0_coder_7d493 13 = .ok (.iconst 1, 1) := by decide +kernel
theorem dJ0_coder_7d493_14 : decode cJ0_coder_7d493 14 = .ok (.ireturn, 1) := by decide +kernel
theorem dJ0_isLatin1_aae02_0 : decode cJ0_isLatin1_aae02 0 = .ok (.getstatic 38, 3) := by decide +kernel
theorem dJ0_isLatin1_aae02_3 : decode cJ0_isLatin1_aae02 3 = .ok (.ifCond .eq 14, 3) := by decide +kernel
theorem dJ0_isLatin1_aae02_6 : decode cJ0_isLatin1_aae02 6 = .ok (.aload_n 0, 1) := by decide +kernel
theorem dJ0_isLatin1_aae02_7 : decode cJ0_isLatin1_aae02 7 = .ok (.getfield 15, 3) := by decide +kernel
theorem dJ0_isLatin1_aae02_10 : decode cJ0_isLatin1_aae02 10 = .ok (.ifCond .ne 7, 3) := by decide +kernel
theorem dJ0_isLatin1_aae02_13 : decode cJ0_isLatin1_aae02 13 = .ok (.iconst 1, 1) := by decide +kernel
theorem dJ0_isLatin1_aae02_14 : decode cJ0_isLatin1_aae02 14 = .ok (.goto 4, 3) := by decide +kernel
theorem dJ0_isLatin1_aae02_17 : decode cJ0_isLatin1_aae02 17 = .ok (.iconst 0, 1) := by decide +kernel
theorem dJ0_isLatin1_aae02_18 : decode cJ0_isLatin1_aae02 18 = .ok (.ireturn, 1) := by decide +kernel
set_option maxRecDepth 20000 in
theorem ggJ0_checkIndex_df160_J3_checkIndex_8e157 : GoodIn wsJ0_checkIndex_df160 wsJ3_checkIndex_8e157 := goodIn_r _ [5] (by decide +kernel) (by decide +kernel)
set_option maxRecDepth 20000 in
theorem gJ0_checkIndex_df160_J3_checkIndex_8e157 : GoodIn wsJ0_checkIndex_df160 (va_wsS RJ0 1059 yJ3_checkIndex_8e157 wsJ3_checkIndex_8e157) := goodIn_app (goodIn_of _ (by decide +kernel)) ggJ0_checkIndex_df160_J3_checkIndex_8e157
theorem dJ0_checkIndex_df160_0 : decode cJ0_checkIndex_df160 0 = .ok (.iload_n 0, 1) := by decide +kernel
theorem dJ0_checkIndex_df160_1 : decode cJ0_checkIndex_df160 1 = .ok (.iload_n 1, 1) := by decide +kernel
theorem dJ0_checkIndex_df160_2 : decode cJ0_checkIndex_df160 2 = .ok (.getstatic 1053, 3) := by decide +kernel
theorem dJ0_checkIndex_df160_5 : decode cJ0_checkIndex_df160 5 = .ok (.invokestatic 1059, 3) := by decide +kernel
theorem dJ0_checkIndex_df160_8 : decode cJ0_checkIndex_df160 8 = .ok (.pop, 1) := by decide +kernel
theorem dJ0_checkIndex_df160_9 : decode cJ0_checkIndex_df160 9 = .ok (.return_, 1) := by decide +kernel
set_option maxRecDepth 20000 in
theorem ggJ1_charAt_3b067_J0_checkIndex_df160 : GoodIn wsJ1_charAt_3b067 wsJ0_checkIndex_df160 := goodIn_r _ [4, 5, 6, 7, 8, 9] (by decide +kernel) (by decide +kernel)
set_option maxRecDepth 20000 in
theorem gJ1_charAt_3b067_J0_checkIndex_df160 : GoodIn wsJ1_charAt_3b067 (va_wsS RJ1 9 yJ0_checkIndex_df160 wsJ0_checkIndex_df160) := goodIn_app (goodIn_of _ (by decide +kernel)) ggJ1_charAt_3b067_J0_checkIndex_df160
theorem dJ1_charAt_3b067_0 : decode cJ1_charAt_3b067 0 = .ok (.iload_n 1, 1) := by decide +kernel
theorem dJ1_charAt_3b067_1 : decode cJ1_charAt_3b067 1 = .ok (.aload_n 0, 1) := by decide +kernel
theorem dJ1_charAt_3b067_2 : decode cJ1_charAt_3b067 2 = .ok (.arraylength, 1) := by decide +kernel
theorem dJ1_charAt_3b067_3 : decode cJ1_charAt_3b067 3 = .ok (.invokestatic 9, 3) := by decide +kernel
theorem dJ1_charAt_3b067_6 : decode cJ1_charAt_3b067 6 = .ok (.aload_n 0, 1) := by decide +kernel
theorem dJ1_charAt_3b067_7 : decode cJ1_charAt_3b067 7 = .ok (.iload_n 1, 1) := by decide +kernel
theorem dJ1_charAt_3b067_8 : decode cJ1_charAt_3b067 8 = .ok (.baload, 1) := by decide +kernel
theorem dJ1_charAt_3b067_9 : decode cJ1_charAt_3b067 9 = .ok (.sipush 255, 3) := by decide +kernel
theorem dJ1_charAt_3b067_12 : decode cJ1_charAt_3b067 12 = .ok (.iand, 1) := by decide +kernel
theorem dJ1_charAt_3b067_13 : decode cJ1_charAt_3b067 13 = .ok (.i2c, 1) := by decide +kernel
theorem dJ1_charAt_3b067_14 : decode cJ1_charAt_3b067 14 = .ok (.ireturn, 1) := by decide +kernel
set_option maxRecDepth 20000 in
theorem ggJ2_getChar_3b067_J2_length_9d52b : GoodIn wsJ2_getChar_3b067 wsJ2_length_9d52b := goodIn_r _ [7] (by decide +kernel) (by decide +kernel)
set_option maxRecDepth 20000 in
theorem gJ2_getChar_3b067_J2_length_9d52b : GoodIn wsJ2_getChar_3b067 (va_wsS RJ2 48 yJ2_length_9d52b wsJ2_length_9d52b) := goodIn_app (goodIn_of _ (by decide +kernel)) ggJ2_getChar_3b067_J2_length_9d52b
theorem dJ2_getChar_3b067_0 : decode cJ2_getChar_3b067 0 = .ok (.getstatic 44, 3) := by decide +kernel
theorem dJ2_getChar_3b067_3 : decode cJ2_getChar_3b067 3 = .ok (.ifCond .ne 25, 3) := by decide +kernel
theorem dJ2_getChar_3b067_6 : decode cJ2_getChar_3b067 6 = .ok (.iload_n 1, 1) := by decide +kernel
theorem dJ2_getChar_3b067_7 : decode cJ2_getChar_3b067 7 = .ok (.ifCond .lt 11, 3) := by decide +kernel
theorem dJ2_getChar_3b067_10 : decode cJ2_getChar_3b067 10 = .ok (.iload_n 1, 1) := by decide +kernel
theorem dJ2_getChar_3b067_11 : decode cJ2_getChar_3b067 11 = .ok (.aload_n 0, 1) := by decide +kernel
theorem dJ2_getChar_3b067_12 : decode cJ2_getChar_3b067 12 = .ok (.invokestatic 48, 3) := by decide +kernel
theorem dJ2_getChar_3b067_15 : decode cJ2_getChar_3b067 15 = .ok (.if_icmp .lt 13, 3) := by decide +kernel
theorem dJ2_getChar_3b067_18 : decode cJ2_getChar_3b067 18 = .ok (.new 52, 3) := by decide +kernel
theorem dJ2_getChar_3b067_21 : decode cJ2_getChar_3b067 21 = .ok (.dup, 1) := by decide +kernel
theorem dJ2_getChar_3b067_22 : decode cJ2_getChar_3b067 22 = .ok (.ldc 54, 2) := by decide +kernel
theorem dJ2_getChar_3b067_24 : decode cJ2_getChar_3b067 24 = .ok (.invokespecial 56, 3) := by decide +kernel
theorem dJ2_getChar_3b067_27 : decode cJ2_getChar_3b067 27 = .ok (.athrow, 1) := by decide +kernel
theorem dJ2_getChar_3b067_28 : decode cJ2_getChar_3b067 28 = .ok (.iload_n 1, 1) := by decide +kernel
theorem dJ2_getChar_3b067_29 : decode cJ2_getChar_3b067 29 = .ok (.iconst 1, 1) := by decide +kernel
theorem dJ2_getChar_3b067_30 : decode cJ2_getChar_3b067 30 = .ok (.ishl, 1) := by decide +kernel
theorem dJ2_getChar_3b067_31 : decode cJ2_getChar_3b067 31 = .ok (.istore_n 1, 1) := by decide +kernel
theorem dJ2_getChar_3b067_32 : decode cJ2_getChar_3b067 32 = .ok (.aload_n 0, 1) := by decide +kernel
theorem dJ2_getChar_3b067_33 : decode cJ2_getChar_3b067 33 = .ok (.iload_n 1, 1) := by decide +kernel
theorem dJ2_getChar_3b067_34 : decode cJ2_getChar_3b067 34 = .ok (.iinc 1 1, 3) := by decide +kernel
theorem dJ2_getChar_3b067_37 : decode cJ2_getChar_3b067 37 = .ok (.baload, 1) := by decide +kernel
theorem dJ2_getChar_3b067_38 : decode cJ2_getChar_3b067 38 = .ok (.sipush 255, 3) := by decide +kernel
theorem dJ2_getChar_3b067_41 : decode cJ2_getChar_3b067 41 = .ok (.iand, 1) := by decide +kernel
theorem dJ2_getChar_3b067_42 : decode cJ2_getChar_3b067 42 = .ok (.getstatic 59, 3) := by decide +kernel
theorem dJ2_getChar_3b067_45 : decode cJ2_getChar_3b067 45 = .ok (.ishl, 1) := by decide +kernel
theorem dJ2_getChar_3b067_46 : decode cJ2_getChar_3b067 46 = .ok (.aload_n 0, 1) := by decide +kernel
theorem dJ2_getChar_3b067_47 : decode cJ2_getChar_3b067 47 = .ok (.iload_n 1, 1) := by decide +kernel
theorem dJ2_getChar_3b067_48 : decode cJ2_getChar_3b067 48 = .ok (.baload, 1) := by decide +kernel
theorem dJ2_getChar_3b067_49 : decode cJ2_getChar_3b067 49 = .ok (.sipush 255, 3) := by decide +kernel
theorem dJ2_getChar_3b067_52 : decode cJ2_getChar_3b067 52 = .ok (.iand, 1) := by decide +kernel
theorem dJ2_getChar_3b067_53 : decode cJ2_getChar_3b067 53 = .ok (.getstatic 63, 3) := by decide +kernel
theorem dJ2_getChar_3b067_56 : decode cJ2_getChar_3b067 56 = .ok (.ishl, 1) := by decide +kernel
theorem dJ2_getChar_3b067_57 : decode cJ2_getChar_3b067 57 = .ok (.ior, 1) := by decide +kernel
theorem dJ2_getChar_3b067_58 : decode cJ2_getChar_3b067 58 = .ok (.i2c, 1) := by decide +kernel
theorem dJ2_getChar_3b067_59 : decode cJ2_getChar_3b067 59 = .ok (.ireturn, 1) := by decide +kernel
theorem dJ2_length_9d52b_0 : decode cJ2_length_9d52b 0 = .ok (.aload_n 0, 1) := by decide +kernel
theorem dJ2_length_9d52b_1 : decode cJ2_length_9d52b 1 = .ok (.arraylength, 1) := by decide +kernel
theorem dJ2_length_9d52b_2 : decode cJ2_length_9d52b 2 = .ok (.iconst 1, 1) := by decide +kernel
theorem dJ2_length_9d52b_3 : decode cJ2_length_9d52b 3 = .ok (.ishr, 1) := by decide +kernel
theorem dJ2_length_9d52b_4 : decode cJ2_length_9d52b 4 = .ok (.ireturn, 1) := by decide +kernel
set_option maxRecDepth 20000 in
theorem ggJ2_charAt_3b067_J2_checkIndex_2214a : GoodIn wsJ2_charAt_3b067 wsJ2_checkIndex_2214a := goodIn_r _ [4, 5, 6, 3, 7, 8, 9, 10, 11, 12, 13, 14, 15, 16] (by decide +kernel) (by decide +kernel)
set_option maxRecDepth 20000 in
theorem gJ2_charAt_3b067_J2_checkIndex_2214a : GoodIn wsJ2_charAt_3b067 (va_wsS RJ2 67 yJ2_checkIndex_2214a wsJ2_checkIndex_2214a) := goodIn_app (goodIn_of _ (by decide +kernel)) ggJ2_charAt_3b067_J2_checkIndex_2214a
set_option maxRecDepth 20000 in
theorem ggJ2_charAt_3b067_J2_getChar_3b067 : GoodIn wsJ2_charAt_3b067 wsJ2_getChar_3b067 := goodIn_r _ [19, 20, 21, 22, 5, 6, 3, 7] (by decide +kernel) (by decide +kernel)
set_option maxRecDepth 20000 in
theorem gJ2_charAt_3b067_J2_getChar_3b067 : GoodIn wsJ2_charAt_3b067 (va_wsS RJ2 71 yJ2_getChar_3b067 wsJ2_getChar_3b067) := goodIn_app (goodIn_of _ (by decide +kernel)) ggJ2_charAt_3b067_J2_getChar_3b067
theorem dJ2_charAt_3b067_0 : decode cJ2_charAt_3b067 0 = .ok (.iload_n 1, 1) := by decide +kernel
theorem dJ2_charAt_3b067_1 : decode cJ2_charAt_3b067 1 = .ok (.aload_n 0, 1) := by decide +kernel
theorem dJ2_charAt_3b067_2 : decode cJ2_charAt_3b067 2 = .ok (.invokestatic 67, 3) := by decide +kernel
theorem dJ2_charAt_3b067_5 : decode cJ2_charAt_3b067 5 = .ok (.aload_n 0, 1) := by decide +kernel
theorem dJ2_charAt_3b067_6 : decode cJ2_charAt_3b067 6 = .ok (.iload_n 1, 1) := by decide +kernel
theorem dJ2_charAt_3b067_7 : decode cJ2_charAt_3b067 7 = .ok (.invokestatic 71, 3) := by decide +kernel
theorem dJ2_charAt_3b067_10 : decode cJ2_charAt_3b067 10 = .ok (.ireturn, 1) := by decide +kernel
set_option maxRecDepth 20000 in
theorem ggJ2_checkIndex_2214a_J2_length_9d52b : GoodIn wsJ2_checkIndex_2214a wsJ2_length_9d52b := goodIn_r _ [4] (by decide +kernel) (by decide +kernel)
set_option maxRecDepth 20000 in
theorem gJ2_checkIndex_2214a_J2_length_9d52b : GoodIn wsJ2_checkIndex_2214a (va_wsS RJ2 48 yJ2_length_9d52b wsJ2_length_9d52b) := goodIn_app (goodIn_of _ (by decide +kernel)) ggJ2_checkIndex_2214a_J2_length_9d52b
set_option maxRecDepth 20000 in
theorem ggJ2_checkIndex_2214a_J0_checkIndex_df160 : GoodIn wsJ2_checkIndex_2214a wsJ0_checkIndex_df160 := goodIn_r _ [8, 9, 10, 11, 12, 13] (by decide +kernel) (by decide +kernel)
set_option maxRecDepth 20000 in
theorem gJ2_checkIndex_2214a_J0_checkIndex_df160 : GoodIn wsJ2_checkIndex_2214a (va_wsS RJ2 414 yJ0_checkIndex_df160 wsJ0_checkIndex_df160) := goodIn_app (goodIn_of _ (by decide +kernel)) ggJ2_checkIndex_2214a_J0_checkIndex_df160
theorem dJ2_checkIndex_2214a_0 : decode cJ2_checkIndex_2214a 0 = .ok (.iload_n 0, 1) := by decide +kernel
theorem dJ2_checkIndex_2214a_1 : decode cJ2_checkIndex_2214a 1 = .ok (.aload_n 1, 1) := by decide +kernel
theorem dJ2_checkIndex_2214a_2 : decode cJ2_checkIndex_2214a 2 = .ok (.invokestatic 48, 3) := by decide +kernel
theorem dJ2_checkIndex_2214a_5 : decode cJ2_checkIndex_2214a 5 = .ok (.invokestatic 414, 3) := by decide +kernel
theorem dJ2_checkIndex_2214a_8 : decode cJ2_checkIndex_2214a 8 = .ok (.return_, 1) := by decide +kernel
theorem dJ3_checkIndex_8e157_0 : decode cJ3_checkIndex_8e157 0 = .ok (.iload_n 0, 1) := by decide +kernel
theorem dJ3_checkIndex_8e157_1 : decode cJ3_checkIndex_8e157 1 = .ok (.ifCond .lt 8, 3) := by decide +kernel
theorem dJ3_checkIndex_8e157_4 : decode cJ3_checkIndex_8e157 4 = .ok (.iload_n 0, 1) := by decide +kernel
theorem dJ3_checkIndex_8e157_5 : decode cJ3_checkIndex_8e157 5 = .ok (.iload_n 1, 1) := by decide +kernel
theorem dJ3_checkIndex_8e157_6 : decode cJ3_checkIndex_8e157 6 = .ok (.if_icmp .lt 10, 3) := by decide +kernel
theorem dJ3_checkIndex_8e157_9 : decode cJ3_checkIndex_8e157 9 = .ok (.aload_n 2, 1) := by decide +kernel
theorem dJ3_checkIndex_8e157_10 : decode cJ3_checkIndex_8e157 10 = .ok (.iload_n 0, 1) := by decide +kernel
theorem dJ3_checkIndex_8e157_11 : decode cJ3_checkIndex_8e157 11 = .ok (.iload_n 1, 1) := by decide +kernel
theorem dJ3_checkIndex_8e157_12 : decode cJ3_checkIndex_8e157 12 = .ok (.invokestatic 95, 3) := by decide +kernel
theorem dJ3_checkIndex_8e157_15 : decode cJ3_checkIndex_8e157 15 = .ok (.athrow, 1) := by decide +kernel
theorem dJ3_checkIndex_8e157_16 : decode cJ3_checkIndex_8e157 16 = .ok (.iload_n 0, 1) := by decide +kernel
theorem dJ3_checkIndex_8e157_17 : decode cJ3_checkIndex_8e157 17 = .ok (.ireturn, 1) := by decide +kernel
set_option maxRecDepth 20000 in
theorem ggL_hill_X11_hill : GoodIn wsL_hill wsX11_hill := goodIn_ca (goodIn_ca (goodIn_r _ [7, 8, 9, 10, 11, 12, 13, 14, 15, 16, 17, 18, 19, 20, 21, 22, 6, 23, 24, 25, 26, 27, 28, 29, 30, 31, 32, 33, 34, 35, 36, 37, 38, 39, 40, 41, 42, 43, 44, 45, 46, 47, 48, 49, 50, 51, 52, 53, 54, 55, 56, 57, 58, 59, 60, 61, 62, 63, 64, 65, 66, 67, 68, 69, 70, 71, 72, 73, 74, 75, 76, 77, 78, 79, 80, 81, 82, 83, 84, 85, 86, 87, 88, 89, 90, 91, 92, 93, 94, 95, 96, 97, 98, 99, 100, 101, 102, 103, 104, 105, 106, 107, 108, 109, 110, 111, 112, 113, 114, 115, 116, 117, 118, 119, 120, 121, 122, 123, 124, 125, 126, 127, 128, 129, 130, 131, 132, 133, 134, 135, 136, 137, 138, 139, 140, 141, 142, 143, 144, 145, 146, 147, 148, 149, 150, 151, 152, 153, 154, 155, 156, 157, 158, 159, 160, 161, 162, 163, 164, 165, 166, 167, 168, 169, 170, 171, 172, 173, 174, 175, 176, 177, 178, 179, 180, 181, 182, 183, 184, 185, 186, 187, 188, 189, 190, 191, 192, 193, 194, 195, 196, 197, 198, 199, 200, 201, 202, 203, 204, 205, 206, 207, 208, 209, 210, 211, 212, 213, 214, 215, 216, 217, 218, 219, 220, 221, 222, 223, 224, 225, 226, 227, 228, 229, 230, 231, 232, 233, 234, 235, 236, 237, 238, 239, 240, 241, 242, 243, 244, 245, 246, 247, 248, 249, 250, 251, 252, 253, 254, 255, 256, 257, 258, 259, 260, 261, 262, 263, 264, 265, 266, 267, 268, 269, 270, 271, 272, 273, 274, 275, 276, 277, 278, 279, 280, 281, 282, 283, 284, 285, 286, 287, 288, 289, 290, 291, 292, 293, 294, 295, 296, 297, 298, 299, 300, 301, 302, 303, 304, 305, 306, 307, 308, 309, 310, 311, 312, 313, 314, 315, 316, 317, 318, 319, 320, 321, 322, 323, 324, 325, 326, 327, 328, 329, 330, 331, 332, 333, 334, 335, 336, 337, 338, 339, 340, 341, 342, 343, 344, 345, 346, 347, 348, 349, 350, 351, 352, 353, 354, 355, 356, 357, 358, 359, 360, 361] (by decide +kernel) (by decide +kernel)) (goodIn_sub (fun _ h => List.mem_cons_of_mem _ (List.mem_append_left _ (List.mem_append_right _ h))) (by decide +kernel))) (goodIn_sub (fun _ h => List.mem_cons_of_mem _ (List.mem_append_right _ h)) (by decide +kernel))
set_option maxRecDepth 20000 in
theorem gL_hill_X11_hill : GoodIn wsL_hill (wsV RL 7 RX11 yX11_hill wsX11_hill) := goodIn_app (goodIn_of _ (by decide +kernel)) ggL_hill_X11_hill
theorem dL_hill_0 : decode cL_hill 0 = .ok (.aload_n 1, 1) := by decide +kernel
theorem dL_hill_1 : decode cL_hill 1 = .ok (.iconst 0, 1) := by decide +kernel
theorem dL_hill_2 : decode cL_hill 2 = .ok (.aload_n 0, 1) := by decide +kernel
theorem dL_hill_3 : decode cL_hill 3 = .ok (.invokevirtual 7, 3) := by decide +kernel
theorem dL_hill_6 : decode cL_hill 6 = .ok (.i2l, 1) := by decide +kernel
theorem dL_hill_7 : decode cL_hill 7 = .ok (.lastore, 1) := by decide +kernel
theorem dL_hill_8 : decode cL_hill 8 = .ok (.goto 9, 3) := by decide +kernel
theorem dL_hill_11 : decode cL_hill 11 = .ok (.astore_n 2, 1) := by decide +kernel
theorem dL_hill_12 : decode cL_hill 12 = .ok (.iconst 1, 1) := by decide +kernel
theorem dL_hill_13 : decode cL_hill 13 = .ok (.ireturn, 1) := by decide +kernel
theorem dL_hill_14 : decode cL_hill 14 = .ok (.astore_n 2, 1) := by decide +kernel
theorem dL_hill_15 : decode cL_hill 15 = .ok (.iconst 2, 1) := by decide +kernel
theorem dL_hill_16 : decode cL_hill 16 = .ok (.ireturn, 1) := by decide +kernel
theorem dL_hill_17 : decode cL_hill 17 = .ok (.iconst 0, 1) := by decide +kernel
theorem dL_hill_18 : decode cL_hill 18 = .ok (.ireturn, 1) := by decide +kernel
set_option maxRecDepth 20000 in
theorem ggL_law_X11_law : GoodIn wsL_law wsX11_law := goodIn_ca (goodIn_r _ [6, 7, 8, 9, 10, 11, 12, 13, 14, 15, 16, 17, 18, 19, 5, 20, 21, 22, 23, 24, 25, 26, 27, 28, 29, 30, 31, 32, 33, 34, 35, 36, 37, 38, 39, 40, 41, 42, 43, 44, 45, 46, 47, 48, 49, 50, 51, 52, 53, 54, 55, 56, 57, 58, 59, 60, 61, 62, 63, 64, 65, 66, 67, 68, 69, 70, 71, 72, 73, 74, 75, 76, 77, 78, 79, 80, 81, 82, 83, 84, 85, 86, 87, 88, 89, 90, 91, 92, 93, 94, 95, 96, 97, 98, 99, 100, 101, 102, 103, 104, 105, 106, 107, 108, 109, 110, 111, 112, 113, 114, 115, 116, 117, 118, 119, 120, 121, 122, 123, 124, 125, 126, 127, 128, 129, 130, 131, 132, 133, 134, 135, 136, 137, 138, 139, 140, 141, 142, 143, 144, 145, 146, 147, 148, 149, 150, 151, 152, 153, 154, 155, 156, 157, 158, 159, 160, 161, 162, 163, 164, 165, 166, 167, 168, 169, 170, 171, 172, 173, 174, 175, 176, 177, 178, 179, 180, 181, 182, 183, 184, 185, 186, 187, 188, 189, 190, 191, 192, 193, 194, 195, 196, 197, 198, 199, 200, 201, 202, 203, 204, 205, 206, 207, 208, 209, 210, 211, 212, 213, 214, 215, 216, 217, 218, 219, 220, 221, 222, 223, 224, 225, 226, 227, 228, 229, 230, 231, 232, 233, 234, 235, 236, 237, 238, 239, 240, 241, 242, 243, 244, 245, 246, 247, 248, 249, 250, 251, 252, 253, 254, 255, 256, 257, 258, 259, 260, 261, 262, 263, 264, 265, 266, 267, 268, 269, 270, 271, 272, 273, 274, 275, 276, 277, 278, 279, 280, 281, 282, 283, 284, 285, 286, 287, 288, 289, 290, 291, 292, 293, 294, 295, 296, 297, 298, 299, 300, 301, 302, 303, 304, 305, 306, 307, 308, 309, 310, 311, 312, 313, 314, 315, 316, 317, 318, 319, 320, 321, 322, 323, 324, 325, 326, 327, 328, 329, 330, 331, 332, 333] (by decide +kernel) (by decide +kernel)) (goodIn_sub (fun _ h => List.mem_cons_of_mem _ (List.mem_append_right _ h)) (by decide +kernel))
set_option maxRecDepth 20000 in
theorem gL_law_X11_law : GoodIn wsL_law (wsV RL 17 RX11 yX11_law wsX11_law) := goodIn_app (goodIn_of _ (by decide +kernel)) ggL_law_X11_law
theorem dL_law_0 : decode cL_law 0 = .ok (.aload_n 1, 1) := by decide +kernel
theorem dL_law_1 : decode cL_law 1 = .ok (.iconst 0, 1) := by decide +kernel
theorem dL_law_2 : decode cL_law 2 = .ok (.aload_n 0, 1) := by decide +kernel
theorem dL_law_3 : decode cL_law 3 = .ok (.invokevirtual 17, 3) := by decide +kernel
theorem dL_law_6 : decode cL_law 6 = .ok (.i2l, 1) := by decide +kernel
theorem dL_law_7 : decode cL_law 7 = .ok (.lastore, 1) := by decide +kernel
theorem dL_law_8 : decode cL_law 8 = .ok (.goto 6, 3) := by decide +kernel
theorem dL_law_11 : decode cL_law 11 = .ok (.astore_n 2, 1) := by decide +kernel
theorem dL_law_12 : decode cL_law 12 = .ok (.iconst 1, 1) := by decide +kernel
theorem dL_law_13 : decode cL_law 13 = .ok (.ireturn, 1) := by decide +kernel
theorem dL_law_14 : decode cL_law 14 = .ok (.iconst 0, 1) := by decide +kernel
theorem dL_law_15 : decode cL_law 15 = .ok (.ireturn, 1) := by decide +kernel
set_option maxRecDepth 20000 in
theorem ggL_plank_X11_plank : GoodIn wsL_plank wsX11_plank := goodIn_ca (goodIn_ca (goodIn_r _ [7, 8, 9, 10, 11, 12, 13, 14, 15, 16, 17, 18, 6, 19, 20, 21, 22, 23, 24, 25, 26, 27, 28, 29, 30, 31, 32, 33, 34, 35, 36, 37, 38, 39, 40, 41, 42, 43, 44, 45, 46, 47, 48, 49, 50, 51, 52, 53, 54, 55, 56, 57, 58, 59, 60, 61, 62, 63, 64, 65, 66, 67, 68, 69, 70, 71, 72, 73, 74, 75, 76, 77, 78, 79, 80, 81, 82, 83, 84, 85, 86, 87, 88, 89, 90, 91, 92, 93, 94, 95, 96, 97, 98, 99, 100, 101, 102, 103, 104, 105, 106, 107, 108, 109, 110, 111, 112, 113, 114, 115, 116, 117, 118, 119, 120, 121, 122, 123, 124, 125] (by decide +kernel) (by decide +kernel)) (goodIn_sub (fun _ h => List.mem_cons_of_mem _ (List.mem_append_left _ (List.mem_append_right _ h))) (by decide +kernel))) (goodIn_sub (fun _ h => List.mem_cons_of_mem _ (List.mem_append_right _ h)) (by decide +kernel))
set_option maxRecDepth 20000 in
theorem gL_plank_X11_plank : GoodIn wsL_plank (wsV RL 20 RX11 yX11_plank wsX11_plank) := goodIn_app (goodIn_of _ (by decide +kernel)) ggL_plank_X11_plank
theorem dL_plank_0 : decode cL_plank 0 = .ok (.aload_n 3, 1) := by decide +kernel
theorem dL_plank_1 : decode cL_plank 1 = .ok (.iconst 0, 1) := by decide +kernel
theorem dL_plank_2 : decode cL_plank 2 = .ok (.aload_n 0, 1) := by decide +kernel
theorem dL_plank_3 : decode cL_plank 3 = .ok (.iload_n 1, 1) := by decide +kernel
theorem dL_plank_4 : decode cL_plank 4 = .ok (.iload_n 2, 1) := by decide +kernel
theorem dL_plank_5 : decode cL_plank 5 = .ok (.invokevirtual 20, 3) := by decide +kernel
theorem dL_plank_8 : decode cL_plank 8 = .ok (.i2l, 1) := by decide +kernel
theorem dL_plank_9 : decode cL_plank 9 = .ok (.lastore, 1) := by decide +kernel
theorem dL_plank_10 : decode cL_plank 10 = .ok (.goto 11, 3) := by decide +kernel
theorem dL_plank_13 : decode cL_plank 13 = .ok (.astore 4, 2) := by decide +kernel
theorem dL_plank_15 : decode cL_plank 15 = .ok (.iconst 1, 1) := by decide +kernel
theorem dL_plank_16 : decode cL_plank 16 = .ok (.ireturn, 1) := by decide +kernel
theorem dL_plank_17 : decode cL_plank 17 = .ok (.astore 4, 2) := by decide +kernel
theorem dL_plank_19 : decode cL_plank 19 = .ok (.iconst 2, 1) := by decide +kernel
theorem dL_plank_20 : decode cL_plank 20 = .ok (.ireturn, 1) := by decide +kernel
theorem dL_plank_21 : decode cL_plank 21 = .ok (.iconst 0, 1) := by decide +kernel
theorem dL_plank_22 : decode cL_plank 22 = .ok (.ireturn, 1) := by decide +kernel
set_option maxRecDepth 20000 in
theorem ggL_house_X11_house : GoodIn wsL_house wsX11_house := goodIn_ca (goodIn_ca (goodIn_r _ [7, 8, 9, 10, 11, 12, 13, 14, 15, 16, 17, 18, 6, 19, 20, 21, 22, 23, 24, 25, 26, 27, 28, 29, 30, 31, 32, 33, 34, 35, 36, 37, 38, 39, 40, 41, 42, 43, 44, 45, 46, 47, 48, 49, 50, 51, 52, 53, 54, 55, 56, 57, 58, 59, 60, 61, 62, 63, 64, 65, 66, 67, 68, 69, 70, 71, 72, 73, 74, 75, 76, 77, 78, 79, 80, 81, 82, 83, 84, 85, 86, 87, 88, 89, 90, 91, 92, 93, 94, 95, 96, 97, 98, 99, 100, 101, 102, 103, 104, 105, 106, 107, 108, 109, 110, 111, 112, 113, 114, 115, 116, 117, 118, 119, 120, 121, 122, 123, 124, 125, 126, 127, 128, 129, 130, 131, 132, 133, 134, 135, 136, 137, 138, 139, 140, 141, 142, 143, 144, 145, 146, 147, 148] (by decide +kernel) (by decide +kernel)) (goodIn_sub (fun _ h => List.mem_cons_of_mem _ (List.mem_append_left _ (List.mem_append_right _ h))) (by decide +kernel))) (goodIn_sub (fun _ h => List.mem_cons_of_mem _ (List.mem_append_right _ h)) (by decide +kernel))
set_option maxRecDepth 20000 in
theorem gL_house_X11_house : GoodIn wsL_house (wsV RL 28 RX11 yX11_house wsX11_house) := goodIn_app (goodIn_of _ (by decide +kernel)) ggL_house_X11_house
theorem dL_house_0 : decode cL_house 0 = .ok (.aload_n 3, 1) := by decide +kernel
theorem dL_house_1 : decode cL_house 1 = .ok (.iconst 0, 1) := by decide +kernel
theorem dL_house_2 : decode cL_house 2 = .ok (.aload_n 0, 1) := by decide +kernel
theorem dL_house_3 : decode cL_house 3 = .ok (.iload_n 1, 1) := by decide +kernel
theorem dL_house_4 : decode cL_house 4 = .ok (.iload_n 2, 1) := by decide +kernel
theorem dL_house_5 : decode cL_house 5 = .ok (.invokevirtual 28, 3) := by decide +kernel
theorem dL_house_8 : decode cL_house 8 = .ok (.i2l, 1) := by decide +kernel
theorem dL_house_9 : decode cL_house 9 = .ok (.lastore, 1) := by decide +kernel
theorem dL_house_10 : decode cL_house 10 = .ok (.goto 11, 3) := by decide +kernel
theorem dL_house_13 : decode cL_house 13 = .ok (.astore 4, 2) := by decide +kernel
theorem dL_house_15 : decode cL_house 15 = .ok (.iconst 1, 1) := by decide +kernel
theorem dL_house_16 : decode cL_house 16 = .ok (.ireturn, 1) := by decide +kernel
theorem dL_house_17 : decode cL_house 17 = .ok (.astore 4, 2) := by decide +kernel
theorem dL_house_19 : decode cL_house 19 = .ok (.iconst 2, 1) := by decide +kernel
theorem dL_house_20 : decode cL_house 20 = .ok (.ireturn, 1) := by decide +kernel
theorem dL_house_21 : decode cL_house 21 = .ok (.iconst 0, 1) := by decide +kernel
theorem dL_house_22 : decode cL_house 22 = .ok (.ireturn, 1) := by decide +kernel
set_option maxRecDepth 20000 in
theorem ggL_thing_X11_thing : GoodIn wsL_thing wsX11_thing := goodIn_ca (goodIn_ca (goodIn_r _ [7, 8, 9, 10, 11, 12, 13, 14, 15, 16, 6, 17, 18, 19, 20, 21, 22, 23, 24, 25, 26, 27, 28, 29, 30, 31, 32, 33, 34, 35, 36, 37, 38, 39, 40, 41, 42, 43, 44, 45, 46, 47, 48, 49, 50, 51, 52, 53, 54, 55, 56, 57, 58, 59, 60] (by decide +kernel) (by decide +kernel)) (goodIn_sub (fun _ h => List.mem_cons_of_mem _ (List.mem_append_left _ (List.mem_append_right _ h))) (by decide +kernel))) (goodIn_sub (fun _ h => List.mem_cons_of_mem _ (List.mem_append_right _ h)) (by decide +kernel))
set_option maxRecDepth 20000 in
theorem gL_thing_X11_thing : GoodIn wsL_thing (wsV RL 31 RX11 yX11_thing wsX11_thing) := goodIn_app (goodIn_of _ (by decide +kernel)) ggL_thing_X11_thing
theorem dL_thing_0 : decode cL_thing 0 = .ok (.aload_n 3, 1) := by decide +kernel
theorem dL_thing_1 : decode cL_thing 1 = .ok (.iconst 0, 1) := by decide +kernel
theorem dL_thing_2 : decode cL_thing 2 = .ok (.aload_n 0, 1) := by decide +kernel
theorem dL_thing_3 : decode cL_thing 3 = .ok (.iload_n 1, 1) := by decide +kernel
theorem dL_thing_4 : decode cL_thing 4 = .ok (.iload_n 2, 1) := by decide +kernel
theorem dL_thing_5 : decode cL_thing 5 = .ok (.invokevirtual 31, 3) := by decide +kernel
theorem dL_thing_8 : decode cL_thing 8 = .ok (.i2l, 1) := by decide +kernel
theorem dL_thing_9 : decode cL_thing 9 = .ok (.lastore, 1) := by decide +kernel
theorem dL_thing_10 : decode cL_thing 10 = .ok (.goto 11, 3) := by decide +kernel
theorem dL_thing_13 : decode cL_thing 13 = .ok (.astore 4, 2) := by decide +kernel
theorem dL_thing_15 : decode cL_thing 15 = .ok (.iconst 1, 1) := by decide +kernel
theorem dL_thing_16 : decode cL_thing 16 = .ok (.ireturn, 1) := by decide +kernel
theorem dL_thing_17 : decode cL_thing 17 = .ok (.astore 4, 2) := by decide +kernel
theorem dL_thing_19 : decode cL_thing 19 = .ok (.iconst 2, 1) := by decide +kernel
theorem dL_thing_20 : decode cL_thing 20 = .ok (.ireturn, 1) := by decide +kernel
theorem dL_thing_21 : decode cL_thing 21 = .ok (.iconst 0, 1) := by decide +kernel
theorem dL_thing_22 : decode cL_thing 22 = .ok (.ireturn, 1) := by decide +kernel
set_option maxRecDepth 20000 in
theorem ggL_carry_X11_carry : GoodIn wsL_carry wsX11_carry := goodIn_ca (goodIn_ca (goodIn_r _ [7, 8, 9, 10, 11, 12, 13, 14, 15, 16, 17, 6, 18, 19, 20, 21, 22, 23, 24, 25, 26, 27, 28, 29, 30, 31, 32, 33, 34, 35, 36, 37, 38, 39, 40, 41, 42, 43, 44, 45, 46, 47, 48, 49, 50, 51, 52, 53, 54, 55, 56, 57, 58, 59, 60, 61, 62, 63, 64, 65, 66, 67, 68, 69, 70, 71, 72, 73, 74, 75, 76, 77, 78, 79, 80, 81, 82, 83, 84, 85, 86, 87, 88, 89, 90, 91, 92, 93, 94, 95, 96, 97, 98, 99, 100, 101, 102, 103, 104, 105, 106, 107, 108, 109, 110, 111, 112, 113, 114, 115, 116, 117, 118, 119, 120, 121, 122, 123, 124, 125, 126, 127, 128, 129, 130, 131, 132, 133, 134, 135, 136, 137, 138, 139, 140, 141, 142, 143, 144, 145] (by decide +kernel) (by decide +kernel)) (goodIn_sub (fun _ h => List.mem_cons_of_mem _ (List.mem_append_left _ (List.mem_append_right _ h))) (by decide +kernel))) (goodIn_sub (fun _ h => List.mem_cons_of_mem _ (List.mem_append_right _ h)) (by decide +kernel))
set_option maxRecDepth 20000 in
theorem gL_carry_X11_carry : GoodIn wsL_carry (wsV RL 34 RX11 yX11_carry wsX11_carry) := goodIn_app (goodIn_of _ (by decide +kernel)) ggL_carry_X11_carry
theorem dL_carry_0 : decode cL_carry 0 = .ok (.aload_n 3, 1) := by decide +kernel
theorem dL_carry_1 : decode cL_carry 1 = .ok (.iconst 0, 1) := by decide +kernel
theorem dL_carry_2 : decode cL_carry 2 = .ok (.aload_n 0, 1) := by decide +kernel
theorem dL_carry_3 : decode cL_carry 3 = .ok (.iload_n 1, 1) := by decide +kernel
theorem dL_carry_4 : decode cL_carry 4 = .ok (.iload_n 2, 1) := by decide +kernel
theorem dL_carry_5 : decode cL_carry 5 = .ok (.invokevirtual 34, 3) := by decide +kernel
theorem dL_carry_8 : decode cL_carry 8 = .ok (.i2l, 1) := by decide +kernel
theorem dL_carry_9 : decode cL_carry 9 = .ok (.lastore, 1) := by decide +kernel
theorem dL_carry_10 : decode cL_carry 10 = .ok (.goto 11, 3) := by decide +kernel
theorem dL_carry_13 : decode cL_carry 13 = .ok (.astore 4, 2) := by decide +kernel
theorem dL_carry_15 : decode cL_carry 15 = .ok (.iconst 1, 1) := by decide +kernel
theorem dL_carry_16 : decode cL_carry 16 = .ok (.ireturn, 1) := by decide +kernel
theorem dL_carry_17 : decode cL_carry 17 = .ok (.astore 4, 2) := by decide +kernel
theorem dL_carry_19 : decode cL_carry 19 = .ok (.iconst 2, 1) := by decide +kernel
theorem dL_carry_20 : decode cL_carry 20 = .ok (.ireturn, 1) := by decide +kernel
theorem dL_carry_21 : decode cL_carry 21 = .ok (.iconst 0, 1) := by decide +kernel
theorem dL_carry_22 : decode cL_carry 22 = .ok (.ireturn, 1) := by decide +kernel
set_option maxRecDepth 20000 in
theorem ggL_guests_X11_guests : GoodIn wsL_guests wsX11_guests := goodIn_ca (goodIn_ca (goodIn_r _ [7, 8, 9, 10, 11, 12, 13, 14, 6, 15, 16, 17, 18, 19, 20, 21, 22, 23, 24, 25, 26, 27, 28, 29, 30, 31, 32, 33, 34, 35, 36, 37, 38, 39, 40, 41, 42, 43, 44, 45, 46, 47, 48, 49, 50, 51, 52, 53, 54, 55, 56, 57, 58, 59, 60, 61, 62, 63, 64, 65, 66, 67, 68, 69, 70, 71, 72, 73, 74, 75, 76, 77, 78, 79, 80, 81, 82, 83, 84, 85, 86, 87, 88, 89, 90, 91, 92, 93, 94, 95, 96, 97, 98, 99, 100, 101, 102, 103, 104, 105, 106, 107, 108, 109, 110, 111, 112, 113, 114, 115, 116, 117, 118, 119, 120, 121, 122, 123, 124, 125, 126, 127, 128, 129, 130, 131, 132, 133, 134, 135, 136, 137, 138] (by decide +kernel) (by decide +kernel)) (goodIn_sub (fun _ h => List.mem_cons_of_mem _ (List.mem_append_left _ (List.mem_append_right _ h))) (by decide +kernel))) (goodIn_sub (fun _ h => List.mem_cons_of_mem _ (List.mem_append_right _ h)) (by decide +kernel))
set_option maxRecDepth 20000 in
theorem gL_guests_X11_guests : GoodIn wsL_guests (wsV RL 39 RX11 yX11_guests wsX11_guests) := goodIn_app (goodIn_of _ (by decide +kernel)) ggL_guests_X11_guests
theorem dL_guests_0 : decode cL_guests 0 = .ok (.aload_n 3, 1) := by decide +kernel
theorem dL_guests_1 : decode cL_guests 1 = .ok (.iconst 0, 1) := by decide +kernel
theorem dL_guests_2 : decode cL_guests 2 = .ok (.aload_n 0, 1) := by decide +kernel
theorem dL_guests_3 : decode cL_guests 3 = .ok (.iload_n 1, 1) := by decide +kernel
theorem dL_guests_4 : decode cL_guests 4 = .ok (.iload_n 2, 1) := by decide +kernel
theorem dL_guests_5 : decode cL_guests 5 = .ok (.invokevirtual 39, 3) := by decide +kernel
theorem dL_guests_8 : decode cL_guests 8 = .ok (.i2l, 1) := by decide +kernel
theorem dL_guests_9 : decode cL_guests 9 = .ok (.lastore, 1) := by decide +kernel
theorem dL_guests_10 : decode cL_guests 10 = .ok (.goto 11, 3) := by decide +kernel
theorem dL_guests_13 : decode cL_guests 13 = .ok (.astore 4, 2) := by decide +kernel
theorem dL_guests_15 : decode cL_guests 15 = .ok (.iconst 1, 1) := by decide +kernel
theorem dL_guests_16 : decode cL_guests 16 = .ok (.ireturn, 1) := by decide +kernel
theorem dL_guests_17 : decode cL_guests 17 = .ok (.astore 4, 2) := by decide +kernel
theorem dL_guests_19 : decode cL_guests 19 = .ok (.iconst 2, 1) := by decide +kernel
theorem dL_guests_20 : decode cL_guests 20 = .ok (.ireturn, 1) := by decide +kernel
theorem dL_guests_21 : decode cL_guests 21 = .ok (.iconst 0, 1) := by decide +kernel
theorem dL_guests_22 : decode cL_guests 22 = .ok (.ireturn, 1) := by decide +kernel
set_option maxRecDepth 20000 in
theorem ggL_prop_X11_prop : GoodIn wsL_prop wsX11_prop := goodIn_ca (goodIn_r _ [6, 7, 8, 9, 10, 11, 12, 13, 5, 14, 15, 16, 17, 18, 19, 20, 21, 22, 23, 24, 25, 26, 27, 28, 29, 30, 31, 32, 33, 34, 35, 36, 37, 38, 39, 40, 41, 42, 43, 44, 45, 46, 47, 48, 49, 50, 51, 52, 53, 54, 55, 56, 57, 58, 59, 60, 61, 62, 63, 64, 65, 66, 67, 68, 69, 70, 71, 72, 73, 74, 75, 76, 77, 78, 79, 80, 81, 82, 83, 84, 85, 86, 87, 88, 89, 90, 91, 92, 93, 94, 95, 96, 97, 98, 99, 100, 101, 102, 103, 104, 105, 106, 107, 108, 109, 110, 111, 112, 113, 114, 115, 116, 117, 118, 119, 120, 121, 122, 123, 124, 125, 126, 127, 128, 129, 130, 131, 132] (by decide +kernel) (by decide +kernel)) (goodIn_sub (fun _ h => List.mem_cons_of_mem _ (List.mem_append_right _ h)) (by decide +kernel))
set_option maxRecDepth 20000 in
theorem gL_prop_X11_prop : GoodIn wsL_prop (wsV RL 42 RX11 yX11_prop wsX11_prop) := goodIn_app (goodIn_of _ (by decide +kernel)) ggL_prop_X11_prop
theorem dL_prop_0 : decode cL_prop 0 = .ok (.aload_n 3, 1) := by decide +kernel
theorem dL_prop_1 : decode cL_prop 1 = .ok (.iconst 0, 1) := by decide +kernel
theorem dL_prop_2 : decode cL_prop 2 = .ok (.aload_n 0, 1) := by decide +kernel
theorem dL_prop_3 : decode cL_prop 3 = .ok (.iload_n 1, 1) := by decide +kernel
theorem dL_prop_4 : decode cL_prop 4 = .ok (.iload_n 2, 1) := by decide +kernel
theorem dL_prop_5 : decode cL_prop 5 = .ok (.invokevirtual 42, 3) := by decide +kernel
theorem dL_prop_8 : decode cL_prop 8 = .ok (.ifCond .eq 7, 3) := by decide +kernel
theorem dL_prop_11 : decode cL_prop 11 = .ok (.lconst 1, 1) := by decide +kernel
theorem dL_prop_12 : decode cL_prop 12 = .ok (.goto 4, 3) := by decide +kernel
theorem dL_prop_15 : decode cL_prop 15 = .ok (.lconst 0, 1) := by decide +kernel
theorem dL_prop_16 : decode cL_prop 16 = .ok (.lastore, 1) := by decide +kernel
theorem dL_prop_17 : decode cL_prop 17 = .ok (.goto 7, 3) := by decide +kernel
theorem dL_prop_20 : decode cL_prop 20 = .ok (.astore 4, 2) := by decide +kernel
theorem dL_prop_22 : decode cL_prop 22 = .ok (.iconst 1, 1) := by decide +kernel
theorem dL_prop_23 : decode cL_prop 23 = .ok (.ireturn, 1) := by decide +kernel
theorem dL_prop_24 : decode cL_prop 24 = .ok (.iconst 0, 1) := by decide +kernel
theorem dL_prop_25 : decode cL_prop 25 = .ok (.ireturn, 1) := by decide +kernel
set_option maxRecDepth 20000 in
theorem ggL_mend_X11_mend : GoodIn wsL_mend wsX11_mend := goodIn_ca (goodIn_ca (goodIn_r _ [7, 8, 9, 10, 11, 12, 13, 14, 15, 16, 17, 6, 18, 19, 20, 21, 22, 23, 24, 25, 26, 27, 28, 29, 30, 31, 32, 33, 34, 35, 36, 37, 38, 39, 40, 41, 42, 43, 44, 45, 46, 47, 48, 49, 50, 51, 52, 53, 54, 55, 56, 57, 58, 59, 60, 61, 62, 63, 64, 65, 66, 67, 68, 69, 70, 71, 72, 73, 74, 75, 76, 77, 78, 79, 80, 81, 82, 83, 84, 85, 86, 87, 88, 89, 90, 91, 92, 93, 94, 95, 96, 97, 98, 99, 100, 101, 102, 103, 104, 105, 106, 107, 108, 109, 110, 111, 112, 113, 114, 115, 116, 117, 118, 119, 120, 121, 122, 123, 124, 125, 126, 127, 128, 129, 130, 131, 132, 133, 134, 135, 136] (by decide +kernel) (by decide +kernel)) (goodIn_sub (fun _ h => List.mem_cons_of_mem _ (List.mem_append_left _ (List.mem_append_right _ h))) (by decide +kernel))) (goodIn_sub (fun _ h => List.mem_cons_of_mem _ (List.mem_append_right _ h)) (by decide +kernel))
set_option maxRecDepth 20000 in
theorem gL_mend_X11_mend : GoodIn wsL_mend (wsV RL 46 RX11 yX11_mend wsX11_mend) := goodIn_app (goodIn_of _ (by decide +kernel)) ggL_mend_X11_mend
theorem dL_mend_0 : decode cL_mend 0 = .ok (.aload_n 2, 1) := by decide +kernel
theorem dL_mend_1 : decode cL_mend 1 = .ok (.iconst 0, 1) := by decide +kernel
theorem dL_mend_2 : decode cL_mend 2 = .ok (.aload_n 0, 1) := by decide +kernel
theorem dL_mend_3 : decode cL_mend 3 = .ok (.iload_n 1, 1) := by decide +kernel
theorem dL_mend_4 : decode cL_mend 4 = .ok (.invokevirtual 46, 3) := by decide +kernel
theorem dL_mend_7 : decode cL_mend 7 = .ok (.i2l, 1) := by decide +kernel
theorem dL_mend_8 : decode cL_mend 8 = .ok (.lastore, 1) := by decide +kernel
theorem dL_mend_9 : decode cL_mend 9 = .ok (.goto 9, 3) := by decide +kernel
theorem dL_mend_12 : decode cL_mend 12 = .ok (.astore_n 3, 1) := by decide +kernel
theorem dL_mend_13 : decode cL_mend 13 = .ok (.iconst 1, 1) := by decide +kernel
theorem dL_mend_14 : decode cL_mend 14 = .ok (.ireturn, 1) := by decide +kernel
theorem dL_mend_15 : decode cL_mend 15 = .ok (.astore_n 3, 1) := by decide +kernel
theorem dL_mend_16 : decode cL_mend 16 = .ok (.iconst 2, 1) := by decide +kernel
theorem dL_mend_17 : decode cL_mend 17 = .ok (.ireturn, 1) := by decide +kernel
theorem dL_mend_18 : decode cL_mend 18 = .ok (.iconst 0, 1) := by decide +kernel
theorem dL_mend_19 : decode cL_mend 19 = .ok (.ireturn, 1) := by decide +kernel
set_option maxRecDepth 20000 in
theorem ggL_give_X11_give : GoodIn wsL_give wsX11_give := goodIn_ca (goodIn_ca (goodIn_r _ [7, 8, 9, 10, 11, 12, 13, 14, 15, 16, 17, 18, 19, 20, 6, 21, 22, 23, 24, 25, 26, 27, 28, 29, 30, 31, 32, 33, 34, 35, 36, 37, 38, 39, 40, 41, 42, 43, 44, 45, 46, 47, 48, 49, 50, 51, 52, 53, 54, 55, 56, 57, 58, 59, 60, 61, 62, 63, 64, 65, 66, 67, 68, 69, 70, 71, 72, 73, 74, 75, 76, 77, 78, 79, 80, 81, 82, 83, 84, 85, 86, 87, 88, 89, 90, 91, 92, 93, 94, 95, 96, 97, 98, 99, 100, 101, 102, 103, 104, 105, 106, 107, 108, 109, 110, 111, 112, 113, 114, 115, 116, 117, 118, 119, 120, 121, 122] (by decide +kernel) (by decide +kernel)) (goodIn_sub (fun _ h => List.mem_cons_of_mem _ (List.mem_append_left _ (List.mem_append_right _ h))) (by decide +kernel))) (goodIn_sub (fun _ h => List.mem_cons_of_mem _ (List.mem_append_right _ h)) (by decide +kernel))
set_option maxRecDepth 20000 in
theorem gL_give_X11_give : GoodIn wsL_give (wsV RL 50 RX11 yX11_give wsX11_give) := goodIn_app (goodIn_of _ (by decide +kernel)) ggL_give_X11_give
theorem dL_give_0 : decode cL_give 0 = .ok (.aload 4, 2) := by decide +kernel
theorem dL_give_2 : decode cL_give 2 = .ok (.iconst 0, 1) := by decide +kernel
theorem dL_give_3 : decode cL_give 3 = .ok (.aload_n 0, 1) := by decide +kernel
theorem dL_give_4 : decode cL_give 4 = .ok (.iload_n 1, 1) := by decide +kernel
theorem dL_give_5 : decode cL_give 5 = .ok (.iload_n 2, 1) := by decide +kernel
theorem dL_give_6 : decode cL_give 6 = .ok (.iload_n 3, 1) := by decide +kernel
theorem dL_give_7 : decode cL_give 7 = .ok (.invokevirtual 50, 3) := by decide +kernel
theorem dL_give_10 : decode cL_give 10 = .ok (.i2l, 1) := by decide +kernel
theorem dL_give_11 : decode cL_give 11 = .ok (.lastore, 1) := by decide +kernel
theorem dL_give_12 : decode cL_give 12 = .ok (.goto 11, 3) := by decide +kernel
theorem dL_give_15 : decode cL_give 15 = .ok (.astore 5, 2) := by decide +kernel
theorem dL_give_17 : decode cL_give 17 = .ok (.iconst 1, 1) := by decide +kernel
theorem dL_give_18 : decode cL_give 18 = .ok (.ireturn, 1) := by decide +kernel
theorem dL_give_19 : decode cL_give 19 = .ok (.astore 5, 2) := by decide +kernel
theorem dL_give_21 : decode cL_give 21 = .ok (.iconst 2, 1) := by decide +kernel
theorem dL_give_22 : decode cL_give 22 = .ok (.ireturn, 1) := by decide +kernel
theorem dL_give_23 : decode cL_give 23 = .ok (.iconst 0, 1) := by decide +kernel
theorem dL_give_24 : decode cL_give 24 = .ok (.ireturn, 1) := by decide +kernel
set_option maxRecDepth 20000 in
theorem ggL_weeks_X11_weeks : GoodIn wsL_weeks wsX11_weeks := goodIn_ca (goodIn_r _ [6, 7, 8, 9, 10, 11, 12, 5, 13, 14, 15, 16, 17, 18, 19, 20, 21, 22, 23, 24, 25, 26, 27, 28, 29, 30, 31, 32, 33, 34, 35, 36, 37, 38, 39, 40, 41, 42, 43, 44, 45, 46, 47, 48, 49, 50, 51, 52, 53, 54, 55, 56, 57, 58, 59, 60, 61, 62, 63, 64, 65, 66, 67, 68, 69, 70, 71, 72, 73, 74, 75, 76, 77, 78, 79, 80, 81, 82, 83, 84, 85, 86, 87, 88, 89, 90, 91, 92, 93, 94, 95, 96, 97, 98, 99, 100, 101, 102, 103, 104, 105, 106, 107, 108, 109, 110, 111, 112, 113, 114, 115, 116, 117, 118, 119, 120, 121, 122, 123, 124, 125, 126, 127, 128, 129, 130, 131, 132, 133, 134, 135, 136, 137, 138, 139, 140, 141, 142, 143, 144, 145, 146, 147, 148, 149, 150, 151, 152, 153, 154, 155, 156, 157, 158, 159, 160, 161, 162, 163, 164, 165, 166, 167, 168, 169, 170, 171, 172, 173, 174, 175, 176, 177, 178, 179, 180, 181, 182, 183, 184, 185, 186, 187, 188, 189, 190, 191, 192, 193, 194, 195, 196, 197, 198, 199, 200, 201, 202, 203, 204, 205, 206, 207, 208, 209, 210, 211, 212, 213, 214, 215] (by decide +kernel) (by decide +kernel)) (goodIn_sub (fun _ h => List.mem_cons_of_mem _ (List.mem_append_right _ h)) (by decide +kernel))
set_option maxRecDepth 20000 in
theorem gL_weeks_X11_weeks : GoodIn wsL_weeks (wsV RL 54 RX11 yX11_weeks wsX11_weeks) := goodIn_app (goodIn_of _ (by decide +kernel)) ggL_weeks_X11_weeks
theorem dL_weeks_0 : decode cL_weeks 0 = .ok (.aload_n 2, 1) := by decide +kernel
theorem dL_weeks_1 : decode cL_weeks 1 = .ok (.iconst 0, 1) := by decide +kernel
theorem dL_weeks_2 : decode cL_weeks 2 = .ok (.aload_n 0, 1) := by decide +kernel
theorem dL_weeks_3 : decode cL_weeks 3 = .ok (.iload_n 1, 1) := by decide +kernel
theorem dL_weeks_4 : decode cL_weeks 4 = .ok (.invokevirtual 54, 3) := by decide +kernel
theorem dL_weeks_7 : decode cL_weeks 7 = .ok (.i2l, 1) := by decide +kernel
theorem dL_weeks_8 : decode cL_weeks 8 = .ok (.lastore, 1) := by decide +kernel
theorem dL_weeks_9 : decode cL_weeks 9 = .ok (.goto 6, 3) := by decide +kernel
theorem dL_weeks_12 : decode cL_weeks 12 = .ok (.astore_n 3, 1) := by decide +kernel
theorem dL_weeks_13 : decode cL_weeks 13 = .ok (.iconst 1, 1) := by decide +kernel
theorem dL_weeks_14 : decode cL_weeks 14 = .ok (.ireturn, 1) := by decide +kernel
theorem dL_weeks_15 : decode cL_weeks 15 = .ok (.iconst 0, 1) := by decide +kernel
theorem dL_weeks_16 : decode cL_weeks 16 = .ok (.ireturn, 1) := by decide +kernel
set_option maxRecDepth 20000 in
theorem ggL_best_X11_best : GoodIn wsL_best wsX11_best := goodIn_ca (goodIn_r _ [6, 7, 8, 9, 10, 5, 11, 12, 13, 14, 15, 16, 17, 18, 19, 20, 21, 22, 23, 24, 25, 26, 27, 28, 29, 30, 31, 32, 33, 34, 35, 36, 37, 38, 39, 40, 41, 42, 43, 44, 45, 46, 47, 48, 49, 50, 51, 52, 53, 54, 55, 56, 57, 58, 59, 60, 61, 62, 63, 64, 65, 66, 67, 68, 69] (by decide +kernel) (by decide +kernel)) (goodIn_sub (fun _ h => List.mem_cons_of_mem _ (List.mem_append_right _ h)) (by decide +kernel))
set_option maxRecDepth 20000 in
theorem gL_best_X11_best : GoodIn wsL_best (wsV RL 57 RX11 yX11_best wsX11_best) := goodIn_app (goodIn_of _ (by decide +kernel)) ggL_best_X11_best
theorem dL_best_0 : decode cL_best 0 = .ok (.aload_n 2, 1) := by decide +kernel
theorem dL_best_1 : decode cL_best 1 = .ok (.iconst 0, 1) := by decide +kernel
theorem dL_best_2 : decode cL_best 2 = .ok (.aload_n 0, 1) := by decide +kernel
theorem dL_best_3 : decode cL_best 3 = .ok (.iload_n 1, 1) := by decide +kernel
theorem dL_best_4 : decode cL_best 4 = .ok (.invokevirtual 57, 3) := by decide +kernel
theorem dL_best_7 : decode cL_best 7 = .ok (.i2l, 1) := by decide +kernel
theorem dL_best_8 : decode cL_best 8 = .ok (.lastore, 1) := by decide +kernel
theorem dL_best_9 : decode cL_best 9 = .ok (.goto 6, 3) := by decide +kernel
theorem dL_best_12 : decode cL_best 12 = .ok (.astore_n 3, 1) := by decide +kernel
theorem dL_best_13 : decode cL_best 13 = .ok (.iconst 1, 1) := by decide +kernel
theorem dL_best_14 : decode cL_best 14 = .ok (.ireturn, 1) := by decide +kernel
theorem dL_best_15 : decode cL_best 15 = .ok (.iconst 0, 1) := by decide +kernel
theorem dL_best_16 : decode cL_best 16 = .ok (.ireturn, 1) := by decide +kernel
set_option maxRecDepth 20000 in
theorem ggL_stand_X11_stand : GoodIn wsL_stand wsX11_stand := goodIn_ca (goodIn_ca (goodIn_r _ [7, 8, 9, 10, 11, 6, 12, 13, 14, 15, 16, 17, 18, 19, 20, 21, 22, 23, 24, 25, 26, 27, 28, 29, 30, 31, 32, 33, 34, 35, 36, 37, 38, 39, 40, 41, 42, 43, 44, 45, 46, 47, 48, 49, 50, 51, 52, 53, 54, 55, 56, 57, 58, 59, 60, 61, 62, 63, 64, 65, 66, 67, 68, 69, 70, 71, 72, 73, 74, 75, 76, 77, 78, 79, 80, 81, 82, 83, 84, 85, 86, 87, 88, 89, 90, 91, 92, 93, 94, 95, 96, 97, 98, 99, 100, 101, 102] (by decide +kernel) (by decide +kernel)) (goodIn_sub (fun _ h => List.mem_cons_of_mem _ (List.mem_append_left _ (List.mem_append_right _ h))) (by decide +kernel))) (goodIn_sub (fun _ h => List.mem_cons_of_mem _ (List.mem_append_right _ h)) (by decide +kernel))
set_option maxRecDepth 20000 in
theorem gL_stand_X11_stand : GoodIn wsL_stand (wsV RL 60 RX11 yX11_stand wsX11_stand) := goodIn_app (goodIn_of _ (by decide +kernel)) ggL_stand_X11_stand
theorem dL_stand_0 : decode cL_stand 0 = .ok (.aload_n 3, 1) := by decide +kernel
theorem dL_stand_1 : decode cL_stand 1 = .ok (.iconst 0, 1) := by decide +kernel
theorem dL_stand_2 : decode cL_stand 2 = .ok (.aload_n 0, 1) := by decide +kernel
theorem dL_stand_3 : decode cL_stand 3 = .ok (.iload_n 1, 1) := by decide +kernel
theorem dL_stand_4 : decode cL_stand 4 = .ok (.iload_n 2, 1) := by decide +kernel
theorem dL_stand_5 : decode cL_stand 5 = .ok (.invokevirtual 60, 3) := by decide +kernel
theorem dL_stand_8 : decode cL_stand 8 = .ok (.i2l, 1) := by decide +kernel
theorem dL_stand_9 : decode cL_stand 9 = .ok (.lastore, 1) := by decide +kernel
theorem dL_stand_10 : decode cL_stand 10 = .ok (.goto 11, 3) := by decide +kernel
theorem dL_stand_13 : decode cL_stand 13 = .ok (.astore 4, 2) := by decide +kernel
theorem dL_stand_15 : decode cL_stand 15 = .ok (.iconst 1, 1) := by decide +kernel
theorem dL_stand_16 : decode cL_stand 16 = .ok (.ireturn, 1) := by decide +kernel
theorem dL_stand_17 : decode cL_stand 17 = .ok (.astore 4, 2) := by decide +kernel
theorem dL_stand_19 : decode cL_stand 19 = .ok (.iconst 2, 1) := by decide +kernel
theorem dL_stand_20 : decode cL_stand 20 = .ok (.ireturn, 1) := by decide +kernel
theorem dL_stand_21 : decode cL_stand 21 = .ok (.iconst 0, 1) := by decide +kernel
theorem dL_stand_22 : decode cL_stand 22 = .ok (.ireturn, 1) := by decide +kernel
set_option maxRecDepth 20000 in
theorem ggL_heave_X11_heave : GoodIn wsL_heave wsX11_heave := goodIn_ca (goodIn_ca (goodIn_r _ [7, 8, 9, 10, 11, 6, 12, 13, 14, 15, 16, 17, 18, 19, 20, 21, 22, 23, 24, 25, 26, 27, 28, 29, 30, 31, 32, 33, 34, 35, 36, 37, 38, 39, 40, 41, 42, 43, 44, 45, 46, 47, 48, 49, 50, 51, 52, 53, 54, 55, 56, 57, 58, 59, 60, 61, 62, 63, 64, 65, 66, 67, 68, 69, 70, 71, 72, 73, 74, 75, 76, 77, 78, 79, 80, 81, 82, 83, 84, 85, 86, 87, 88, 89, 90, 91, 92, 93, 94, 95, 96, 97, 98, 99, 100, 101, 102, 103] (by decide +kernel) (by decide +kernel)) (goodIn_sub (fun _ h => List.mem_cons_of_mem _ (List.mem_append_left _ (List.mem_append_right _ h))) (by decide +kernel))) (goodIn_sub (fun _ h => List.mem_cons_of_mem _ (List.mem_append_right _ h)) (by decide +kernel))
set_option maxRecDepth 20000 in
theorem gL_heave_X11_heave : GoodIn wsL_heave (wsV RL 63 RX11 yX11_heave wsX11_heave) := goodIn_app (goodIn_of _ (by decide +kernel)) ggL_heave_X11_heave
theorem dL_heave_0 : decode cL_heave 0 = .ok (.aload 4, 2) := by decide +kernel
theorem dL_heave_2 : decode cL_heave 2 = .ok (.iconst 0, 1) := by decide +kernel
theorem dL_heave_3 : decode cL_heave 3 = .ok (.aload_n 0, 1) := by decide +kernel
theorem dL_heave_4 : decode cL_heave 4 = .ok (.iload_n 1, 1) := by decide +kernel
theorem dL_heave_5 : decode cL_heave 5 = .ok (.iload_n 2, 1) := by decide +kernel
theorem dL_heave_6 : decode cL_heave 6 = .ok (.iload_n 3, 1) := by decide +kernel
theorem dL_heave_7 : decode cL_heave 7 = .ok (.invokevirtual 63, 3) := by decide +kernel
theorem dL_heave_10 : decode cL_heave 10 = .ok (.i2l, 1) := by decide +kernel
theorem dL_heave_11 : decode cL_heave 11 = .ok (.lastore, 1) := by decide +kernel
theorem dL_heave_12 : decode cL_heave 12 = .ok (.goto 11, 3) := by decide +kernel
theorem dL_heave_15 : decode cL_heave 15 = .ok (.astore 5, 2) := by decide +kernel
theorem dL_heave_17 : decode cL_heave 17 = .ok (.iconst 1, 1) := by decide +kernel
theorem dL_heave_18 : decode cL_heave 18 = .ok (.ireturn, 1) := by decide +kernel
theorem dL_heave_19 : decode cL_heave 19 = .ok (.astore 5, 2) := by decide +kernel
theorem dL_heave_21 : decode cL_heave 21 = .ok (.iconst 2, 1) := by decide +kernel
theorem dL_heave_22 : decode cL_heave 22 = .ok (.ireturn, 1) := by decide +kernel
theorem dL_heave_23 : decode cL_heave 23 = .ok (.iconst 0, 1) := by decide +kernel
theorem dL_heave_24 : decode cL_heave 24 = .ok (.ireturn, 1) := by decide +kernel
set_option maxRecDepth 20000 in
theorem ggL_breaks_X11_breaks : GoodIn wsL_breaks wsX11_breaks := goodIn_ca (goodIn_r _ [6, 7, 8, 9, 5, 10, 11, 12, 13, 14, 15, 16, 17, 18, 19, 20, 21, 22, 23, 24, 25, 26, 27, 28, 29, 30, 31, 32, 33, 34, 35, 36, 37, 38, 39, 40, 41, 42, 43, 44, 45, 46, 47, 48, 49, 50, 51, 52, 53, 54, 55, 56, 57, 58, 59, 60, 61, 62, 63, 64, 65, 66, 67, 68, 69, 70, 71, 72, 73, 74, 75, 76, 77, 78, 79, 80, 81, 82, 83, 84, 85, 86, 87, 88, 89, 90, 91, 92, 93, 94, 95, 96, 97, 98, 99, 100, 101, 102, 103, 104, 105, 106, 107, 108, 109, 110, 111, 112, 113, 114, 115, 116, 117, 118, 119, 120, 121, 122, 123, 124, 125, 126, 127, 128, 129, 130, 131, 132, 133, 134, 135, 136, 137, 138, 139, 140, 141, 142, 143, 144, 145, 146, 147, 148, 149, 150, 151, 152, 153, 154, 155, 156, 157, 158, 159, 160, 161] (by decide +kernel) (by decide +kernel)) (goodIn_sub (fun _ h => List.mem_cons_of_mem _ (List.mem_append_right _ h)) (by decide +kernel))
set_option maxRecDepth 20000 in
theorem gL_breaks_X11_breaks : GoodIn wsL_breaks (wsV RL 67 RX11 yX11_breaks wsX11_breaks) := goodIn_app (goodIn_of _ (by decide +kernel)) ggL_breaks_X11_breaks
theorem dL_breaks_0 : decode cL_breaks 0 = .ok (.aload_n 2, 1) := by decide +kernel
theorem dL_breaks_1 : decode cL_breaks 1 = .ok (.iconst 0, 1) := by decide +kernel
theorem dL_breaks_2 : decode cL_breaks 2 = .ok (.aload_n 0, 1) := by decide +kernel
theorem dL_breaks_3 : decode cL_breaks 3 = .ok (.iload_n 1, 1) := by decide +kernel
theorem dL_breaks_4 : decode cL_breaks 4 = .ok (.invokevirtual 67, 3) := by decide +kernel
theorem dL_breaks_7 : decode cL_breaks 7 = .ok (.i2l, 1) := by decide +kernel
theorem dL_breaks_8 : decode cL_breaks 8 = .ok (.lastore, 1) := by decide +kernel
theorem dL_breaks_9 : decode cL_breaks 9 = .ok (.goto 6, 3) := by decide +kernel
theorem dL_breaks_12 : decode cL_breaks 12 = .ok (.astore_n 3, 1) := by decide +kernel
theorem dL_breaks_13 : decode cL_breaks 13 = .ok (.iconst 1, 1) := by decide +kernel
theorem dL_breaks_14 : decode cL_breaks 14 = .ok (.ireturn, 1) := by decide +kernel
theorem dL_breaks_15 : decode cL_breaks 15 = .ok (.iconst 0, 1) := by decide +kernel
theorem dL_breaks_16 : decode cL_breaks 16 = .ok (.ireturn, 1) := by decide +kernel
set_option maxRecDepth 20000 in
theorem ggL_more_X11_more : GoodIn wsL_more wsX11_more := goodIn_ca (goodIn_r _ [6, 7, 8, 9, 10, 11, 5, 12, 13, 14, 15, 16, 17, 18, 19, 20, 21, 22, 23, 24, 25, 26, 27, 28, 29, 30, 31, 32, 33, 34, 35, 36, 37, 38, 39, 40, 41, 42, 43, 44, 45, 46, 47, 48, 49, 50, 51, 52, 53, 54, 55, 56, 57, 58, 59, 60, 61, 62, 63] (by decide +kernel) (by decide +kernel)) (goodIn_sub (fun _ h => List.mem_cons_of_mem _ (List.mem_append_right _ h)) (by decide +kernel))
set_option maxRecDepth 20000 in
theorem gL_more_X11_more : GoodIn wsL_more (wsV RL 70 RX11 yX11_more wsX11_more) := goodIn_app (goodIn_of _ (by decide +kernel)) ggL_more_X11_more
theorem dL_more_0 : decode cL_more 0 = .ok (.aload_n 2, 1) := by decide +kernel
theorem dL_more_1 : decode cL_more 1 = .ok (.iconst 0, 1) := by decide +kernel
theorem dL_more_2 : decode cL_more 2 = .ok (.aload_n 0, 1) := by decide +kernel
theorem dL_more_3 : decode cL_more 3 = .ok (.iload_n 1, 1) := by decide +kernel
theorem dL_more_4 : decode cL_more 4 = .ok (.invokevirtual 70, 3) := by decide +kernel
theorem dL_more_7 : decode cL_more 7 = .ok (.i2l, 1) := by decide +kernel
theorem dL_more_8 : decode cL_more 8 = .ok (.lastore, 1) := by decide +kernel
theorem dL_more_9 : decode cL_more 9 = .ok (.goto 6, 3) := by decide +kernel
theorem dL_more_12 : decode cL_more 12 = .ok (.astore_n 3, 1) := by decide +kernel
theorem dL_more_13 : decode cL_more 13 = .ok (.iconst 1, 1) := by decide +kernel
theorem dL_more_14 : decode cL_more 14 = .ok (.ireturn, 1) := by decide +kernel
theorem dL_more_15 : decode cL_more 15 = .ok (.iconst 0, 1) := by decide +kernel
theorem dL_more_16 : decode cL_more 16 = .ok (.ireturn, 1) := by decide +kernel
set_option maxRecDepth 20000 in
theorem ggL_match_X11_match : GoodIn wsL_match wsX11_match := goodIn_ca (goodIn_r _ [6, 7, 8, 9, 10, 11, 5, 12, 13, 14, 15, 16, 17, 18, 19, 20, 21, 22, 23, 24, 25, 26, 27, 28, 29, 30, 31, 32, 33, 34, 35, 36, 37, 38, 39, 40, 41, 42, 43, 44, 45, 46, 47, 48, 49, 50, 51, 52, 53, 54, 55, 56, 57, 58, 59, 60, 61, 62, 63, 64, 65, 66, 67, 68, 69, 70, 71, 72, 73, 74, 75, 76, 77, 78, 79, 80, 81, 82, 83, 84, 85, 86, 87, 88, 89, 90] (by decide +kernel) (by decide +kernel)) (goodIn_sub (fun _ h => List.mem_cons_of_mem _ (List.mem_append_right _ h)) (by decide +kernel))
set_option maxRecDepth 20000 in
theorem gL_match_X11_match : GoodIn wsL_match (wsV RL 73 RX11 yX11_match wsX11_match) := goodIn_app (goodIn_of _ (by decide +kernel)) ggL_match_X11_match
theorem dL_match_0 : decode cL_match 0 = .ok (.aload_n 3, 1) := by decide +kernel
theorem dL_match_1 : decode cL_match 1 = .ok (.iconst 0, 1) := by decide +kernel
theorem dL_match_2 : decode cL_match 2 = .ok (.aload_n 0, 1) := by decide +kernel
theorem dL_match_3 : decode cL_match 3 = .ok (.iload_n 1, 1) := by decide +kernel
theorem dL_match_4 : decode cL_match 4 = .ok (.iload_n 2, 1) := by decide +kernel
theorem dL_match_5 : decode cL_match 5 = .ok (.invokevirtual 73, 3) := by decide +kernel
theorem dL_match_8 : decode cL_match 8 = .ok (.i2l, 1) := by decide +kernel
theorem dL_match_9 : decode cL_match 9 = .ok (.lastore, 1) := by decide +kernel
theorem dL_match_10 : decode cL_match 10 = .ok (.goto 7, 3) := by decide +kernel
theorem dL_match_13 : decode cL_match 13 = .ok (.astore 4, 2) := by decide +kernel
theorem dL_match_15 : decode cL_match 15 = .ok (.iconst 1, 1) := by decide +kernel
theorem dL_match_16 : decode cL_match 16 = .ok (.ireturn, 1) := by decide +kernel
theorem dL_match_17 : decode cL_match 17 = .ok (.iconst 0, 1) := by decide +kernel
theorem dL_match_18 : decode cL_match 18 = .ok (.ireturn, 1) := by decide +kernel
set_option maxRecDepth 20000 in
theorem ggL_has_X11_has : GoodIn wsL_has wsX11_has := goodIn_ca (goodIn_ca (goodIn_r _ [7, 8, 9, 10, 11, 12, 13, 6, 14, 15, 16, 17, 18, 19, 20, 21, 22, 23, 24, 25, 26, 27, 28, 29, 30, 31, 32, 33, 34, 35, 36, 37, 38, 39, 40, 41, 42, 43, 44, 45, 46, 47, 48, 49, 50, 51, 52, 53, 54, 55, 56, 57, 58, 59, 60, 61, 62, 63, 64, 65, 66, 67, 68, 69, 70, 71, 72, 73, 74, 75, 76, 77, 78, 79, 80, 81, 82, 83, 84, 85, 86, 87, 88, 89, 90, 91, 92, 93, 94, 95, 96, 97, 98, 99, 100, 101, 102, 103, 104, 105, 106, 107, 108, 109, 110, 111, 112, 113, 114, 115, 116, 117, 118, 119, 120] (by decide +kernel) (by decide +kernel)) (goodIn_sub (fun _ h => List.mem_cons_of_mem _ (List.mem_append_left _ (List.mem_append_right _ h))) (by decide +kernel))) (goodIn_sub (fun _ h => List.mem_cons_of_mem _ (List.mem_append_right _ h)) (by decide +kernel))
set_option maxRecDepth 20000 in
theorem gL_has_X11_has : GoodIn wsL_has (wsV RL 76 RX11 yX11_has wsX11_has) := goodIn_app (goodIn_of _ (by decide +kernel)) ggL_has_X11_has
theorem dL_has_0 : decode cL_has 0 = .ok (.aload_n 3, 1) := by decide +kernel
theorem dL_has_1 : decode cL_has 1 = .ok (.iconst 0, 1) := by decide +kernel
theorem dL_has_2 : decode cL_has 2 = .ok (.aload_n 0, 1) := by decide +kernel
theorem dL_has_3 : decode cL_has 3 = .ok (.iload_n 1, 1) := by decide +kernel
theorem dL_has_4 : decode cL_has 4 = .ok (.iload_n 2, 1) := by decide +kernel
theorem dL_has_5 : decode cL_has 5 = .ok (.invokevirtual 76, 3) := by decide +kernel
theorem dL_has_8 : decode cL_has 8 = .ok (.i2l, 1) := by decide +kernel
theorem dL_has_9 : decode cL_has 9 = .ok (.lastore, 1) := by decide +kernel
theorem dL_has_10 : decode cL_has 10 = .ok (.goto 11, 3) := by decide +kernel
theorem dL_has_13 : decode cL_has 13 = .ok (.astore 4, 2) := by decide +kernel
theorem dL_has_15 : decode cL_has 15 = .ok (.iconst 1, 1) := by decide +kernel
theorem dL_has_16 : decode cL_has 16 = .ok (.ireturn, 1) := by decide +kernel
theorem dL_has_17 : decode cL_has 17 = .ok (.astore 4, 2) := by decide +kernel
theorem dL_has_19 : decode cL_has 19 = .ok (.iconst 2, 1) := by decide +kernel
theorem dL_has_20 : decode cL_has 20 = .ok (.ireturn, 1) := by decide +kernel
theorem dL_has_21 : decode cL_has 21 = .ok (.iconst 0, 1) := by decide +kernel
theorem dL_has_22 : decode cL_has 22 = .ok (.ireturn, 1) := by decide +kernel
set_option maxRecDepth 20000 in
theorem ggL_ask_X11_ask : GoodIn wsL_ask wsX11_ask := goodIn_ca (goodIn_ca (goodIn_r _ [7, 8, 9, 10, 11, 12, 13, 6, 14, 15, 16, 17, 18, 19, 20, 21, 22, 23, 24, 25, 26, 27, 28, 29, 30, 31, 32, 33, 34, 35, 36, 37, 38, 39, 40, 41, 42, 43, 44, 45, 46, 47, 48, 49, 50, 51, 52, 53, 54, 55, 56, 57, 58, 59, 60, 61, 62, 63, 64, 65, 66, 67, 68, 69, 70, 71, 72, 73, 74, 75, 76, 77, 78, 79, 80, 81, 82, 83, 84, 85, 86, 87, 88, 89, 90, 91, 92, 93, 94, 95, 96, 97, 98, 99, 100, 101, 102, 103, 104, 105, 106, 107, 108, 109, 110, 111, 112, 113, 114, 115, 116, 117, 118, 119, 120, 121, 122, 123, 124, 125, 126, 127, 128, 129] (by decide +kernel) (by decide +kernel)) (goodIn_sub (fun _ h => List.mem_cons_of_mem _ (List.mem_append_left _ (List.mem_append_right _ h))) (by decide +kernel))) (goodIn_sub (fun _ h => List.mem_cons_of_mem _ (List.mem_append_right _ h)) (by decide +kernel))
set_option maxRecDepth 20000 in
theorem gL_ask_X11_ask : GoodIn wsL_ask (wsV RL 80 RX11 yX11_ask wsX11_ask) := goodIn_app (goodIn_of _ (by decide +kernel)) ggL_ask_X11_ask
theorem dL_ask_0 : decode cL_ask 0 = .ok (.aload_n 2, 1) := by decide +kernel
theorem dL_ask_1 : decode cL_ask 1 = .ok (.iconst 0, 1) := by decide +kernel
theorem dL_ask_2 : decode cL_ask 2 = .ok (.aload_n 0, 1) := by decide +kernel
theorem dL_ask_3 : decode cL_ask 3 = .ok (.iload_n 1, 1) := by decide +kernel
theorem dL_ask_4 : decode cL_ask 4 = .ok (.invokevirtual 80, 3) := by decide +kernel
theorem dL_ask_7 : decode cL_ask 7 = .ok (.i2l, 1) := by decide +kernel
theorem dL_ask_8 : decode cL_ask 8 = .ok (.lastore, 1) := by decide +kernel
theorem dL_ask_9 : decode cL_ask 9 = .ok (.goto 9, 3) := by decide +kernel
theorem dL_ask_12 : decode cL_ask 12 = .ok (.astore_n 3, 1) := by decide +kernel
theorem dL_ask_13 : decode cL_ask 13 = .ok (.iconst 1, 1) := by decide +kernel
theorem dL_ask_14 : decode cL_ask 14 = .ok (.ireturn, 1) := by decide +kernel
theorem dL_ask_15 : decode cL_ask 15 = .ok (.astore_n 3, 1) := by decide +kernel
theorem dL_ask_16 : decode cL_ask 16 = .ok (.iconst 2, 1) := by decide +kernel
theorem dL_ask_17 : decode cL_ask 17 = .ok (.ireturn, 1) := by decide +kernel
theorem dL_ask_18 : decode cL_ask 18 = .ok (.iconst 0, 1) := by decide +kernel
theorem dL_ask_19 : decode cL_ask 19 = .ok (.ireturn, 1) := by decide +kernel
set_option maxRecDepth 20000 in
theorem ggL_ballast_X11_ballast : GoodIn wsL_ballast wsX11_ballast := goodIn_ca (goodIn_r _ [6, 7, 8, 9, 10, 5, 11, 12, 13, 14, 15, 16, 17, 18, 19, 20, 21, 22, 23, 24, 25, 26, 27, 28, 29, 30, 31, 32, 33, 34, 35, 36, 37, 38, 39, 40, 41, 42, 43, 44, 45, 46, 47, 48, 49, 50, 51, 52, 53, 54, 55, 56, 57, 58, 59, 60, 61, 62, 63, 64, 65, 66, 67, 68, 69, 70, 71, 72, 73, 74, 75, 76, 77, 78, 79] (by decide +kernel) (by decide +kernel)) (goodIn_sub (fun _ h => List.mem_cons_of_mem _ (List.mem_append_right _ h)) (by decide +kernel))
set_option maxRecDepth 20000 in
theorem gL_ballast_X11_ballast : GoodIn wsL_ballast (wsV RL 83 RX11 yX11_ballast wsX11_ballast) := goodIn_app (goodIn_of _ (by decide +kernel)) ggL_ballast_X11_ballast
theorem dL_ballast_0 : decode cL_ballast 0 = .ok (.aload_n 2, 1) := by decide +kernel
theorem dL_ballast_1 : decode cL_ballast 1 = .ok (.iconst 0, 1) := by decide +kernel
theorem dL_ballast_2 : decode cL_ballast 2 = .ok (.aload_n 0, 1) := by decide +kernel
theorem dL_ballast_3 : decode cL_ballast 3 = .ok (.iload_n 1, 1) := by decide +kernel
theorem dL_ballast_4 : decode cL_ballast 4 = .ok (.invokevirtual 83, 3) := by decide +kernel
theorem dL_ballast_7 : decode cL_ballast 7 = .ok (.i2l, 1) := by decide +kernel
theorem dL_ballast_8 : decode cL_ballast 8 = .ok (.lastore, 1) := by decide +kernel
theorem dL_ballast_9 : decode cL_ballast 9 = .ok (.goto 6, 3) := by decide +kernel
theorem dL_ballast_12 : decode cL_ballast 12 = .ok (.astore_n 3, 1) := by decide +kernel
theorem dL_ballast_13 : decode cL_ballast 13 = .ok (.iconst 1, 1) := by decide +kernel
theorem dL_ballast_14 : decode cL_ballast 14 = .ok (.ireturn, 1) := by decide +kernel
theorem dL_ballast_15 : decode cL_ballast 15 = .ok (.iconst 0, 1) := by decide +kernel
theorem dL_ballast_16 : decode cL_ballast 16 = .ok (.ireturn, 1) := by decide +kernel
set_option maxRecDepth 20000 in
theorem ggL_guards_X11_guards : GoodIn wsL_guards wsX11_guards := goodIn_ca (goodIn_r _ [6, 7, 8, 9, 5, 10, 11, 12, 13, 14, 15, 16, 17, 18, 19, 20, 21, 22, 23, 24, 25, 26, 27, 28, 29, 30, 31, 32, 33, 34, 35, 36, 37, 38, 39, 40, 41, 42, 43, 44, 45, 46, 47, 48, 49, 50, 51, 52, 53, 54, 55, 56, 57, 58, 59, 60, 61, 62, 63, 64, 65, 66, 67, 68, 69, 70, 71, 72, 73, 74, 75, 76, 77, 78, 79, 80, 81, 82, 83, 84, 85, 86, 87, 88, 89, 90, 91, 92, 93, 94, 95, 96, 97, 98, 99, 100, 101, 102, 103, 104, 105, 106, 107, 108, 109, 110, 111, 112, 113, 114, 115, 116, 117, 118, 119, 120, 121, 122, 123, 124, 125, 126, 127, 128, 129, 130, 131, 132, 133, 134, 135, 136, 137, 138, 139, 140, 141, 142, 143, 144, 145, 146, 147, 148, 149, 150, 151, 152, 153, 154, 155, 156, 157, 158, 159, 160, 161, 162, 163, 164, 165, 166, 167, 168, 169, 170, 171] (by decide +kernel) (by decide +kernel)) (goodIn_sub (fun _ h => List.mem_cons_of_mem _ (List.mem_append_right _ h)) (by decide +kernel))
set_option maxRecDepth 20000 in
theorem gL_guards_X11_guards : GoodIn wsL_guards (wsV RL 86 RX11 yX11_guards wsX11_guards) := goodIn_app (goodIn_of _ (by decide +kernel)) ggL_guards_X11_guards
theorem dL_guards_0 : decode cL_guards 0 = .ok (.aload_n 3, 1) := by decide +kernel
theorem dL_guards_1 : decode cL_guards 1 = .ok (.iconst 0, 1) := by decide +kernel
theorem dL_guards_2 : decode cL_guards 2 = .ok (.aload_n 0, 1) := by decide +kernel
theorem dL_guards_3 : decode cL_guards 3 = .ok (.iload_n 1, 1) := by decide +kernel
theorem dL_guards_4 : decode cL_guards 4 = .ok (.iload_n 2, 1) := by decide +kernel
theorem dL_guards_5 : decode cL_guards 5 = .ok (.invokevirtual 86, 3) := by decide +kernel
theorem dL_guards_8 : decode cL_guards 8 = .ok (.i2l, 1) := by decide +kernel
theorem dL_guards_9 : decode cL_guards 9 = .ok (.lastore, 1) := by decide +kernel
theorem dL_guards_10 : decode cL_guards 10 = .ok (.goto 7, 3) := by decide +kernel
theorem dL_guards_13 : decode cL_guards 13 = .ok (.astore 4, 2) := by decide +kernel
theorem dL_guards_15 : decode cL_guards 15 = .ok (.iconst 1, 1) := by decide +kernel
theorem dL_guards_16 : decode cL_guards 16 = .ok (.ireturn, 1) := by decide +kernel
theorem dL_guards_17 : decode cL_guards 17 = .ok (.iconst 0, 1) := by decide +kernel
theorem dL_guards_18 : decode cL_guards 18 = .ok (.ireturn, 1) := by decide +kernel
set_option maxRecDepth 20000 in
theorem ggL_loot_X11_loot : GoodIn wsL_loot wsX11_loot := goodIn_ca (goodIn_r _ [6, 7, 8, 9, 10, 11, 12, 5, 13, 14, 15, 16, 17, 18, 19, 20, 21, 22, 23, 24, 25, 26, 27, 28, 29, 30, 31, 32, 33, 34, 35, 36, 37, 38, 39, 40, 41, 42, 43, 44, 45, 46, 47, 48, 49, 50, 51, 52, 53, 54, 55, 56, 57, 58, 59, 60, 61, 62, 63, 64, 65, 66, 67, 68, 69, 70, 71, 72, 73, 74, 75, 76, 77, 78, 79, 80, 81, 82, 83, 84, 85, 86, 87, 88, 89, 90, 91, 92, 93, 94, 95, 96, 97, 98, 99, 100, 101, 102, 103, 104, 105, 106, 107, 108, 109, 110, 111, 112, 113, 114, 115, 116, 117, 118, 119, 120, 121, 122, 123, 124, 125, 126, 127, 128, 129, 130, 131, 132, 133, 134, 135, 136, 137, 138, 139, 140, 141, 142, 143, 144, 145, 146, 147, 148, 149, 150, 151, 152, 153, 154, 155, 156, 157, 158, 159] (by decide +kernel) (by decide +kernel)) (goodIn_sub (fun _ h => List.mem_cons_of_mem _ (List.mem_append_right _ h)) (by decide +kernel))
set_option maxRecDepth 20000 in
theorem gL_loot_X11_loot : GoodIn wsL_loot (wsV RL 89 RX11 yX11_loot wsX11_loot) := goodIn_app (goodIn_of _ (by decide +kernel)) ggL_loot_X11_loot
theorem dL_loot_0 : decode cL_loot 0 = .ok (.aload_n 2, 1) := by decide +kernel
theorem dL_loot_1 : decode cL_loot 1 = .ok (.iconst 0, 1) := by decide +kernel
theorem dL_loot_2 : decode cL_loot 2 = .ok (.aload_n 0, 1) := by decide +kernel
theorem dL_loot_3 : decode cL_loot 3 = .ok (.iload_n 1, 1) := by decide +kernel
theorem dL_loot_4 : decode cL_loot 4 = .ok (.invokevirtual 89, 3) := by decide +kernel
theorem dL_loot_7 : decode cL_loot 7 = .ok (.i2l, 1) := by decide +kernel
theorem dL_loot_8 : decode cL_loot 8 = .ok (.lastore, 1) := by decide +kernel
theorem dL_loot_9 : decode cL_loot 9 = .ok (.goto 6, 3) := by decide +kernel
theorem dL_loot_12 : decode cL_loot 12 = .ok (.astore_n 3, 1) := by decide +kernel
theorem dL_loot_13 : decode cL_loot 13 = .ok (.iconst 1, 1) := by decide +kernel
theorem dL_loot_14 : decode cL_loot 14 = .ok (.ireturn, 1) := by decide +kernel
theorem dL_loot_15 : decode cL_loot 15 = .ok (.iconst 0, 1) := by decide +kernel
theorem dL_loot_16 : decode cL_loot 16 = .ok (.ireturn, 1) := by decide +kernel
set_option maxRecDepth 20000 in
theorem ggL_rent_X11_rent : GoodIn wsL_rent wsX11_rent := goodIn_ca (goodIn_ca (goodIn_r _ [7, 8, 9, 10, 11, 12, 13, 6, 14, 15, 16, 17, 18, 19, 20, 21, 22, 23, 24, 25, 26, 27, 28, 29, 30, 31, 32, 33, 34, 35, 36, 37, 38, 39, 40, 41, 42, 43, 44, 45, 46, 47, 48, 49, 50, 51, 52, 53, 54, 55, 56, 57, 58, 59, 60, 61, 62, 63, 64, 65, 66, 67, 68, 69, 70, 71, 72, 73, 74, 75, 76, 77, 78, 79, 80, 81, 82, 83, 84, 85, 86, 87, 88, 89, 90, 91, 92, 93, 94, 95, 96, 97, 98, 99, 100, 101, 102, 103, 104, 105, 106, 107, 108, 109, 110, 111, 112, 113, 114, 115, 116, 117, 118, 119, 120, 121, 122, 123, 124, 125, 126, 127, 128, 129, 130, 131, 132, 133, 134, 135, 136, 137, 138, 139, 140, 141, 142, 143, 144, 145, 146, 147, 148, 149, 150, 151, 152, 153, 154, 155, 156, 157, 158, 159, 160, 161, 162, 163, 164, 165, 166, 167, 168, 169, 170, 171, 172, 173, 174, 175, 176, 177, 178, 179] (by decide +kernel) (by decide +kernel)) (goodIn_sub (fun _ h => List.mem_cons_of_mem _ (List.mem_append_left _ (List.mem_append_right _ h))) (by decide +kernel))) (goodIn_sub (fun _ h => List.mem_cons_of_mem _ (List.mem_append_right _ h)) (by decide +kernel))
set_option maxRecDepth 20000 in
theorem gL_rent_X11_rent : GoodIn wsL_rent (wsV RL 92 RX11 yX11_rent wsX11_rent) := goodIn_app (goodIn_of _ (by decide +kernel)) ggL_rent_X11_rent
theorem dL_rent_0 : decode cL_rent 0 = .ok (.aload_n 3, 1) := by decide +kernel
theorem dL_rent_1 : decode cL_rent 1 = .ok (.iconst 0, 1) := by decide +kernel
theorem dL_rent_2 : decode cL_rent 2 = .ok (.aload_n 0, 1) := by decide +kernel
theorem dL_rent_3 : decode cL_rent 3 = .ok (.iload_n 1, 1) := by decide +kernel
theorem dL_rent_4 : decode cL_rent 4 = .ok (.iload_n 2, 1) := by decide +kernel
theorem dL_rent_5 : decode cL_rent 5 = .ok (.invokevirtual 92, 3) := by decide +kernel
theorem dL_rent_8 : decode cL_rent 8 = .ok (.i2l, 1) := by decide +kernel
theorem dL_rent_9 : decode cL_rent 9 = .ok (.lastore, 1) := by decide +kernel
theorem dL_rent_10 : decode cL_rent 10 = .ok (.goto 11, 3) := by decide +kernel
theorem dL_rent_13 : decode cL_rent 13 = .ok (.astore 4, 2) := by decide +kernel
theorem dL_rent_15 : decode cL_rent 15 = .ok (.iconst 1, 1) := by decide +kernel
theorem dL_rent_16 : decode cL_rent 16 = .ok (.ireturn, 1) := by decide +kernel
theorem dL_rent_17 : decode cL_rent 17 = .ok (.astore 4, 2) := by decide +kernel
theorem dL_rent_19 : decode cL_rent 19 = .ok (.iconst 2, 1) := by decide +kernel
theorem dL_rent_20 : decode cL_rent 20 = .ok (.ireturn, 1) := by decide +kernel
theorem dL_rent_21 : decode cL_rent 21 = .ok (.iconst 0, 1) := by decide +kernel
theorem dL_rent_22 : decode cL_rent 22 = .ok (.ireturn, 1) := by decide +kernel
set_option maxRecDepth 20000 in
theorem ggL_ahead_X11_ahead : GoodIn wsL_ahead wsX11_ahead := goodIn_ca (goodIn_ca (goodIn_r _ [7, 8, 9, 10, 11, 12, 13, 6, 14, 15, 16, 17, 18, 19, 20, 21, 22, 23, 24, 25, 26, 27, 28, 29, 30, 31, 32, 33, 34, 35, 36, 37, 38, 39, 40, 41, 42, 43, 44, 45, 46, 47, 48, 49, 50, 51, 52, 53, 54, 55, 56, 57, 58, 59, 60, 61, 62, 63, 64, 65, 66, 67, 68, 69, 70, 71, 72, 73, 74, 75, 76, 77, 78, 79, 80, 81, 82, 83, 84, 85, 86, 87, 88, 89, 90, 91, 92, 93, 94, 95, 96, 97, 98, 99, 100, 101, 102, 103, 104, 105, 106, 107, 108, 109, 110, 111, 112, 113, 114, 115, 116, 117, 118, 119, 120, 121, 122, 123, 124, 125, 126, 127, 128, 129, 130, 131, 132, 133, 134, 135, 136, 137, 138, 139, 140, 141, 142, 143, 144, 145, 146, 147, 148, 149, 150, 151, 152, 153, 154, 155, 156, 157, 158, 159, 160, 161, 162, 163, 164, 165, 166, 167, 168, 169, 170, 171, 172, 173, 174, 175, 176, 177, 178, 179, 180] (by decide +kernel) (by decide +kernel)) (goodIn_sub (fun _ h => List.mem_cons_of_mem _ (List.mem_append_left _ (List.mem_append_right _ h))) (by decide +kernel))) (goodIn_sub (fun _ h => List.mem_cons_of_mem _ (List.mem_append_right _ h)) (by decide +kernel))
set_option maxRecDepth 20000 in
theorem gL_ahead_X11_ahead : GoodIn wsL_ahead (wsV RL 95 RX11 yX11_ahead wsX11_ahead) := goodIn_app (goodIn_of _ (by decide +kernel)) ggL_ahead_X11_ahead
theorem dL_ahead_0 : decode cL_ahead 0 = .ok (.aload 4, 2) := by decide +kernel
theorem dL_ahead_2 : decode cL_ahead 2 = .ok (.iconst 0, 1) := by decide +kernel
theorem dL_ahead_3 : decode cL_ahead 3 = .ok (.aload_n 0, 1) := by decide +kernel
theorem dL_ahead_4 : decode cL_ahead 4 = .ok (.iload_n 1, 1) := by decide +kernel
theorem dL_ahead_5 : decode cL_ahead 5 = .ok (.iload_n 2, 1) := by decide +kernel
theorem dL_ahead_6 : decode cL_ahead 6 = .ok (.iload_n 3, 1) := by decide +kernel
theorem dL_ahead_7 : decode cL_ahead 7 = .ok (.invokevirtual 95, 3) := by decide +kernel
theorem dL_ahead_10 : decode cL_ahead 10 = .ok (.i2l, 1) := by decide +kernel
theorem dL_ahead_11 : decode cL_ahead 11 = .ok (.lastore, 1) := by decide +kernel
theorem dL_ahead_12 : decode cL_ahead 12 = .ok (.goto 11, 3) := by decide +kernel
theorem dL_ahead_15 : decode cL_ahead 15 = .ok (.astore 5, 2) := by decide +kernel
theorem dL_ahead_17 : decode cL_ahead 17 = .ok (.iconst 1, 1) := by decide +kernel
theorem dL_ahead_18 : decode cL_ahead 18 = .ok (.ireturn, 1) := by decide +kernel
theorem dL_ahead_19 : decode cL_ahead 19 = .ok (.astore 5, 2) := by decide +kernel
theorem dL_ahead_21 : decode cL_ahead 21 = .ok (.iconst 2, 1) := by decide +kernel
theorem dL_ahead_22 : decode cL_ahead 22 = .ok (.ireturn, 1) := by decide +kernel
theorem dL_ahead_23 : decode cL_ahead 23 = .ok (.iconst 0, 1) := by decide +kernel
theorem dL_ahead_24 : decode cL_ahead 24 = .ok (.ireturn, 1) := by decide +kernel
set_option maxRecDepth 20000 in
theorem ggL_trial_X11_trial : GoodIn wsL_trial wsX11_trial := goodIn_ca (goodIn_r _ [6, 7, 8, 9, 10, 11, 5, 12, 13, 14, 15, 16, 17, 18, 19, 20, 21, 22, 23, 24, 25, 26, 27, 28, 29, 30, 31, 32, 33, 34, 35, 36, 37, 38, 39, 40, 41, 42, 43, 44, 45, 46, 47, 48, 49, 50, 51, 52, 53, 54, 55, 56, 57, 58, 59, 60, 61, 62, 63, 64, 65, 66, 67, 68, 69, 70, 71, 72, 73, 74, 75, 76, 77, 78, 79, 80, 81, 82, 83, 84, 85, 86, 87, 88, 89, 90, 91, 92, 93, 94, 95, 96, 97, 98, 99, 100, 101, 102, 103, 104, 105, 106, 107, 108, 109, 110, 111, 112, 113, 114, 115, 116, 117, 118, 119, 120, 121, 122, 123, 124, 125, 126, 127, 128, 129, 130, 131, 132, 133, 134, 135, 136, 137, 138, 139, 140, 141, 142, 143, 144, 145, 146, 147, 148, 149, 150, 151, 152, 153, 154, 155, 156, 157, 158, 159, 160, 161, 162, 163, 164, 165, 166, 167, 168, 169, 170, 171, 172, 173, 174, 175, 176, 177, 178, 179, 180, 181, 182, 183, 184, 185, 186, 187, 188, 189, 190, 191, 192, 193, 194, 195, 196, 197, 198, 199, 200, 201, 202, 203, 204, 205, 206, 207, 208, 209, 210, 211, 212, 213, 214, 215, 216, 217, 218, 219, 220, 221, 222] (by decide +kernel) (by decide +kernel)) (goodIn_sub (fun _ h => List.mem_cons_of_mem _ (List.mem_append_right _ h)) (by decide +kernel))
set_option maxRecDepth 20000 in
theorem gL_trial_X11_trial : GoodIn wsL_trial (wsV RL 98 RX11 yX11_trial wsX11_trial) := goodIn_app (goodIn_of _ (by decide +kernel)) ggL_trial_X11_trial
theorem dL_trial_0 : decode cL_trial 0 = .ok (.aload_n 3, 1) := by decide +kernel
theorem dL_trial_1 : decode cL_trial 1 = .ok (.iconst 0, 1) := by decide +kernel
theorem dL_trial_2 : decode cL_trial 2 = .ok (.aload_n 0, 1) := by decide +kernel
theorem dL_trial_3 : decode cL_trial 3 = .ok (.iload_n 1, 1) := by decide +kernel
theorem dL_trial_4 : decode cL_trial 4 = .ok (.iload_n 2, 1) := by decide +kernel
theorem dL_trial_5 : decode cL_trial 5 = .ok (.invokevirtual 98, 3) := by decide +kernel
theorem dL_trial_8 : decode cL_trial 8 = .ok (.i2l, 1) := by decide +kernel
theorem dL_trial_9 : decode cL_trial 9 = .ok (.lastore, 1) := by decide +kernel
theorem dL_trial_10 : decode cL_trial 10 = .ok (.goto 7, 3) := by decide +kernel
theorem dL_trial_13 : decode cL_trial 13 = .ok (.astore 4, 2) := by decide +kernel
theorem dL_trial_15 : decode cL_trial 15 = .ok (.iconst 1, 1) := by decide +kernel
theorem dL_trial_16 : decode cL_trial 16 = .ok (.ireturn, 1) := by decide +kernel
theorem dL_trial_17 : decode cL_trial 17 = .ok (.iconst 0, 1) := by decide +kernel
theorem dL_trial_18 : decode cL_trial 18 = .ok (.ireturn, 1) := by decide +kernel
set_option maxRecDepth 20000 in
theorem ggL_span_X11_span : GoodIn wsL_span wsX11_span := goodIn_ca (goodIn_r _ [6, 7, 8, 9, 10, 11, 12, 13, 14, 15, 16, 5, 17, 18, 19, 20, 21, 22, 23, 24, 25, 26, 27, 28, 29, 30, 31, 32, 33, 34, 35, 36, 37, 38, 39, 40, 41, 42, 43, 44, 45, 46, 47, 48, 49, 50, 51, 52, 53, 54, 55, 56, 57, 58, 59, 60, 61, 62, 63, 64, 65, 66, 67, 68, 69, 70, 71, 72, 73, 74, 75, 76, 77, 78, 79, 80, 81, 82, 83, 84, 85, 86, 87, 88, 89, 90, 91, 92, 93, 94, 95, 96, 97, 98, 99, 100, 101, 102, 103, 104, 105, 106, 107, 108, 109, 110, 111, 112, 113, 114, 115, 116, 117, 118, 119, 120, 121, 122, 123, 124, 125, 126, 127, 128, 129, 130, 131, 132, 133, 134, 135, 136, 137, 138, 139, 140, 141, 142, 143, 144, 145, 146, 147, 148, 149, 150, 151, 152, 153, 154, 155, 156, 157, 158, 159, 160, 161, 162, 163, 164, 165, 166, 167, 168, 169, 170, 171, 172, 173, 174, 175, 176, 177, 178, 179, 180, 181, 182, 183, 184, 185, 186, 187, 188, 189, 190, 191, 192, 193, 194, 195, 196, 197, 198, 199, 200, 201, 202, 203, 204, 205, 206, 207, 208, 209, 210, 211, 212, 213, 214, 215, 216, 217, 218, 219, 220] (by decide +kernel) (by decide +kernel)) (goodIn_sub (fun _ h => List.mem_cons_of_mem _ (List.mem_append_right _ h)) (by decide +kernel))
set_option maxRecDepth 20000 in
theorem gL_span_X11_span : GoodIn wsL_span (wsV RL 101 RX11 yX11_span wsX11_span) := goodIn_app (goodIn_of _ (by decide +kernel)) ggL_span_X11_span
theorem dL_span_0 : decode cL_span 0 = .ok (.aload_n 3, 1) := by decide +kernel
theorem dL_span_1 : decode cL_span 1 = .ok (.iconst 0, 1) := by decide +kernel
theorem dL_span_2 : decode cL_span 2 = .ok (.aload_n 0, 1) := by decide +kernel
theorem dL_span_3 : decode cL_span 3 = .ok (.iload_n 1, 1) := by decide +kernel
theorem dL_span_4 : decode cL_span 4 = .ok (.iload_n 2, 1) := by decide +kernel
theorem dL_span_5 : decode cL_span 5 = .ok (.invokevirtual 101, 3) := by decide +kernel
theorem dL_span_8 : decode cL_span 8 = .ok (.i2l, 1) := by decide +kernel
theorem dL_span_9 : decode cL_span 9 = .ok (.lastore, 1) := by decide +kernel
theorem dL_span_10 : decode cL_span 10 = .ok (.goto 7, 3) := by decide +kernel
theorem dL_span_13 : decode cL_span 13 = .ok (.astore 4, 2) := by decide +kernel
theorem dL_span_15 : decode cL_span 15 = .ok (.iconst 1, 1) := by decide +kernel
theorem dL_span_16 : decode cL_span 16 = .ok (.ireturn, 1) := by decide +kernel
theorem dL_span_17 : decode cL_span 17 = .ok (.iconst 0, 1) := by decide +kernel
theorem dL_span_18 : decode cL_span 18 = .ok (.ireturn, 1) := by decide +kernel
set_option maxRecDepth 20000 in
theorem ggL_led_X11_led : GoodIn wsL_led wsX11_led := goodIn_ca (goodIn_r _ [6, 7, 8, 9, 10, 5, 11, 12, 13, 14, 15, 16, 17, 18, 19, 20, 21, 22, 23, 24, 25, 26, 27, 28, 29, 30, 31, 32, 33, 34, 35, 36, 37, 38, 39, 40, 41, 42, 43, 44, 45, 46, 47, 48, 49, 50, 51, 52, 53, 54, 55, 56, 57, 58, 59, 60, 61, 62, 63, 64, 65, 66, 67, 68, 69, 70, 71, 72] (by decide +kernel) (by decide +kernel)) (goodIn_sub (fun _ h => List.mem_cons_of_mem _ (List.mem_append_right _ h)) (by decide +kernel))
set_option maxRecDepth 20000 in
theorem gL_led_X11_led : GoodIn wsL_led (wsV RL 104 RX11 yX11_led wsX11_led) := goodIn_app (goodIn_of _ (by decide +kernel)) ggL_led_X11_led
theorem dL_led_0 : decode cL_led 0 = .ok (.aload_n 3, 1) := by decide +kernel
theorem dL_led_1 : decode cL_led 1 = .ok (.iconst 0, 1) := by decide +kernel
theorem dL_led_2 : decode cL_led 2 = .ok (.aload_n 0, 1) := by decide +kernel
theorem dL_led_3 : decode cL_led 3 = .ok (.iload_n 1, 1) := by decide +kernel
theorem dL_led_4 : decode cL_led 4 = .ok (.iload_n 2, 1) := by decide +kernel
theorem dL_led_5 : decode cL_led 5 = .ok (.invokevirtual 104, 3) := by decide +kernel
theorem dL_led_8 : decode cL_led 8 = .ok (.i2l, 1) := by decide +kernel
theorem dL_led_9 : decode cL_led 9 = .ok (.lastore, 1) := by decide +kernel
theorem dL_led_10 : decode cL_led 10 = .ok (.goto 7, 3) := by decide +kernel
theorem dL_led_13 : decode cL_led 13 = .ok (.astore 4, 2) := by decide +kernel
theorem dL_led_15 : decode cL_led 15 = .ok (.iconst 1, 1) := by decide +kernel
theorem dL_led_16 : decode cL_led 16 = .ok (.ireturn, 1) := by decide +kernel
theorem dL_led_17 : decode cL_led 17 = .ok (.iconst 0, 1) := by decide +kernel
theorem dL_led_18 : decode cL_led 18 = .ok (.ireturn, 1) := by decide +kernel
set_option maxRecDepth 20000 in
theorem ggL_log_X11_log : GoodIn wsL_log wsX11_log := goodIn_ca (goodIn_r _ [6, 7, 8, 9, 10, 11, 12, 13, 14, 15, 16, 17, 18, 19, 20, 21, 22, 23, 24, 25, 26, 27, 28, 29, 30, 31, 32, 33, 34, 35, 36, 37, 38] (by decide +kernel) (by decide +kernel)) (goodIn_sub (fun _ h => List.mem_cons_of_mem _ (List.mem_append_right _ h)) (by decide +kernel))
set_option maxRecDepth 20000 in
theorem gL_log_X11_log : GoodIn wsL_log (wsV RL 107 RX11 yX11_log wsX11_log) := goodIn_app (goodIn_of _ (by decide +kernel)) ggL_log_X11_log
theorem dL_log_0 : decode cL_log 0 = .ok (.aload_n 3, 1) := by decide +kernel
theorem dL_log_1 : decode cL_log 1 = .ok (.iconst 0, 1) := by decide +kernel
theorem dL_log_2 : decode cL_log 2 = .ok (.aload_n 0, 1) := by decide +kernel
theorem dL_log_3 : decode cL_log 3 = .ok (.iload_n 1, 1) := by decide +kernel
theorem dL_log_4 : decode cL_log 4 = .ok (.iload_n 2, 1) := by decide +kernel
theorem dL_log_5 : decode cL_log 5 = .ok (.invokevirtual 107, 3) := by decide +kernel
theorem dL_log_8 : decode cL_log 8 = .ok (.i2l, 1) := by decide +kernel
theorem dL_log_9 : decode cL_log 9 = .ok (.lastore, 1) := by decide +kernel
