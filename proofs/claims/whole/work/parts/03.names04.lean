theorem dX12_feed_82 : decode cX12_feed 82 = .ok (.iload 6, 2) := by decide +kernel
theorem dX12_feed_84 : decode cX12_feed 84 = .ok (.iconst 4, 1) := by decide +kernel
theorem dX12_feed_85 : decode cX12_feed 85 = .ok (.idiv, 1) := by decide +kernel
theorem dX12_feed_86 : decode cX12_feed 86 = .ok (.iaload, 1) := by decide +kernel
theorem dX12_feed_87 : decode cX12_feed 87 = .ok (.bipush 24, 2) := by decide +kernel
theorem dX12_feed_89 : decode cX12_feed 89 = .ok (.bipush 8, 2) := by decide +kernel
theorem dX12_feed_91 : decode cX12_feed 91 = .ok (.iload 6, 2) := by decide +kernel
theorem dX12_feed_93 : decode cX12_feed 93 = .ok (.iconst 4, 1) := by decide +kernel
theorem dX12_feed_94 : decode cX12_feed 94 = .ok (.irem, 1) := by decide +kernel
theorem dX12_feed_95 : decode cX12_feed 95 = .ok (.imul, 1) := by decide +kernel
theorem dX12_feed_96 : decode cX12_feed 96 = .ok (.isub, 1) := by decide +kernel
theorem dX12_feed_97 : decode cX12_feed 97 = .ok (.ishr, 1) := by decide +kernel
theorem dX12_feed_98 : decode cX12_feed 98 = .ok (.i2b, 1) := by decide +kernel
theorem dX12_feed_99 : decode cX12_feed 99 = .ok (.bastore, 1) := by decide +kernel
theorem dX12_feed_100 : decode cX12_feed 100 = .ok (.iinc 6 1, 3) := by decide +kernel
theorem dX12_feed_103 : decode cX12_feed 103 = .ok (.goto (-43), 3) := by decide +kernel
theorem dX12_feed_106 : decode cX12_feed 106 = .ok (.aload_n 0, 1) := by decide +kernel
theorem dX12_feed_107 : decode cX12_feed 107 = .ok (.dup, 1) := by decide +kernel
theorem dX12_feed_108 : decode cX12_feed 108 = .ok (.getfield 86, 3) := by decide +kernel
theorem dX12_feed_111 : decode cX12_feed 111 = .ok (.bipush 20, 2) := by decide +kernel
theorem dX12_feed_113 : decode cX12_feed 113 = .ok (.iadd, 1) := by decide +kernel
theorem dX12_feed_114 : decode cX12_feed 114 = .ok (.putfield 86, 3) := by decide +kernel
theorem dX12_feed_117 : decode cX12_feed 117 = .ok (.aload_n 0, 1) := by decide +kernel
theorem dX12_feed_118 : decode cX12_feed 118 = .ok (.getfield 86, 3) := by decide +kernel
theorem dX12_feed_121 : decode cX12_feed 121 = .ok (.ireturn, 1) := by decide +kernel
theorem dX12_end_0 : decode cX12_end 0 = .ok (.aload_n 0, 1) := by decide +kernel
theorem dX12_end_1 : decode cX12_end 1 = .ok (.iconst 0, 1) := by decide +kernel
theorem dX12_end_2 : decode cX12_end 2 = .ok (.putfield 3, 3) := by decide +kernel
theorem dX12_end_5 : decode cX12_end 5 = .ok (.iload_n 1, 1) := by decide +kernel
theorem dX12_end_6 : decode cX12_end 6 = .ok (.ifCond .lt 11, 3) := by decide +kernel
theorem dX12_end_9 : decode cX12_end 9 = .ok (.iload_n 1, 1) := by decide +kernel
theorem dX12_end_10 : decode cX12_end 10 = .ok (.aload_n 0, 1) := by decide +kernel
theorem dX12_end_11 : decode cX12_end 11 = .ok (.getfield 86, 3) := by decide +kernel
theorem dX12_end_14 : decode cX12_end 14 = .ok (.if_icmp .le 5, 3) := by decide +kernel
theorem dX12_end_17 : decode cX12_end 17 = .ok (.iconst 0, 1) := by decide +kernel
theorem dX12_end_18 : decode cX12_end 18 = .ok (.ireturn, 1) := by decide +kernel
theorem dX12_end_19 : decode cX12_end 19 = .ok (.aload_n 0, 1) := by decide +kernel
theorem dX12_end_20 : decode cX12_end 20 = .ok (.iload_n 1, 1) := by decide +kernel
theorem dX12_end_21 : decode cX12_end 21 = .ok (.putfield 86, 3) := by decide +kernel
theorem dX12_end_24 : decode cX12_end 24 = .ok (.iconst 1, 1) := by decide +kernel
theorem dX12_end_25 : decode cX12_end 25 = .ok (.ireturn, 1) := by decide +kernel
theorem dX12_isAt_0 : decode cX12_isAt 0 = .ok (.aload_n 0, 1) := by decide +kernel
theorem dX12_isAt_1 : decode cX12_isAt 1 = .ok (.getfield 89, 3) := by decide +kernel
theorem dX12_isAt_4 : decode cX12_isAt 4 = .ok (.aload_n 0, 1) := by decide +kernel
theorem dX12_isAt_5 : decode cX12_isAt 5 = .ok (.getfield 92, 3) := by decide +kernel
theorem dX12_isAt_8 : decode cX12_isAt 8 = .ok (.if_icmp .ge 33, 3) := by decide +kernel
theorem dX12_isAt_11 : decode cX12_isAt 11 = .ok (.aload_n 0, 1) := by decide +kernel
theorem dX12_isAt_12 : decode cX12_isAt 12 = .ok (.getfield 29, 3) := by decide +kernel
theorem dX12_isAt_15 : decode cX12_isAt 15 = .ok (.aload_n 0, 1) := by decide +kernel
theorem dX12_isAt_16 : decode cX12_isAt 16 = .ok (.getfield 89, 3) := by decide +kernel
theorem dX12_isAt_19 : decode cX12_isAt 19 = .ok (.baload, 1) := by decide +kernel
theorem dX12_isAt_20 : decode cX12_isAt 20 = .ok (.iload_n 1, 1) := by decide +kernel
theorem dX12_isAt_21 : decode cX12_isAt 21 = .ok (.if_icmp .lt 20, 3) := by decide +kernel
theorem dX12_isAt_24 : decode cX12_isAt 24 = .ok (.aload_n 0, 1) := by decide +kernel
theorem dX12_isAt_25 : decode cX12_isAt 25 = .ok (.getfield 29, 3) := by decide +kernel
theorem dX12_isAt_28 : decode cX12_isAt 28 = .ok (.aload_n 0, 1) := by decide +kernel
theorem dX12_isAt_29 : decode cX12_isAt 29 = .ok (.getfield 89, 3) := by decide +kernel
theorem dX12_isAt_32 : decode cX12_isAt 32 = .ok (.baload, 1) := by decide +kernel
theorem dX12_isAt_33 : decode cX12_isAt 33 = .ok (.iload_n 2, 1) := by decide +kernel
theorem dX12_isAt_34 : decode cX12_isAt 34 = .ok (.if_icmp .gt 7, 3) := by decide +kernel
theorem dX12_isAt_37 : decode cX12_isAt 37 = .ok (.iconst 1, 1) := by decide +kernel
theorem dX12_isAt_38 : decode cX12_isAt 38 = .ok (.goto 4, 3) := by decide +kernel
theorem dX12_isAt_41 : decode cX12_isAt 41 = .ok (.iconst 0, 1) := by decide +kernel
theorem dX12_isAt_42 : decode cX12_isAt 42 = .ok (.ireturn, 1) := by decide +kernel
set_option maxRecDepth 20000 in
theorem ggX12_blanks_X12_isAt : GoodIn wsX12_blanks wsX12_isAt := goodIn_r _ [7, 1, 8, 9, 10, 11, 12, 13, 14, 15, 16, 17, 18, 19, 20, 21, 22, 23, 24, 25, 26, 27, 28, 29] (by decide +kernel) (by decide +kernel)
set_option maxRecDepth 20000 in
theorem gX12_blanks_X12_isAt : GoodIn wsX12_blanks (wsV RX12 95 RX12 yX12_isAt wsX12_isAt) := goodIn_app (goodIn_of _ (by decide +kernel)) ggX12_blanks_X12_isAt
theorem dX12_blanks_0 : decode cX12_blanks 0 = .ok (.aload_n 0, 1) := by decide +kernel
theorem dX12_blanks_1 : decode cX12_blanks 1 = .ok (.bipush 32, 2) := by decide +kernel
theorem dX12_blanks_3 : decode cX12_blanks 3 = .ok (.bipush 32, 2) := by decide +kernel
theorem dX12_blanks_5 : decode cX12_blanks 5 = .ok (.invokevirtual 95, 3) := by decide +kernel
theorem dX12_blanks_8 : decode cX12_blanks 8 = .ok (.ifCond .eq 16, 3) := by decide +kernel
theorem dX12_blanks_11 : decode cX12_blanks 11 = .ok (.aload_n 0, 1) := by decide +kernel
theorem dX12_blanks_12 : decode cX12_blanks 12 = .ok (.dup, 1) := by decide +kernel
theorem dX12_blanks_13 : decode cX12_blanks 13 = .ok (.getfield 89, 3) := by decide +kernel
theorem dX12_blanks_16 : decode cX12_blanks 16 = .ok (.iconst 1, 1) := by decide +kernel
theorem dX12_blanks_17 : decode cX12_blanks 17 = .ok (.iadd, 1) := by decide +kernel
theorem dX12_blanks_18 : decode cX12_blanks 18 = .ok (.putfield 89, 3) := by decide +kernel
theorem dX12_blanks_21 : decode cX12_blanks 21 = .ok (.goto (-21), 3) := by decide +kernel
theorem dX12_blanks_24 : decode cX12_blanks 24 = .ok (.aload_n 0, 1) := by decide +kernel
theorem dX12_blanks_25 : decode cX12_blanks 25 = .ok (.aload_n 0, 1) := by decide +kernel
theorem dX12_blanks_26 : decode cX12_blanks 26 = .ok (.getfield 89, 3) := by decide +kernel
theorem dX12_blanks_29 : decode cX12_blanks 29 = .ok (.putfield 99, 3) := by decide +kernel
theorem dX12_blanks_32 : decode cX12_blanks 32 = .ok (.return_, 1) := by decide +kernel
set_option maxRecDepth 20000 in
theorem ggX12_letters_X12_blanks : GoodIn wsX12_letters wsX12_blanks := goodIn_r _ [6, 1, 7, 8, 9, 10, 5, 11, 12, 13, 14, 15, 16, 17, 18, 19, 20, 21, 22, 23, 24, 25, 26, 27, 28, 29, 30, 31, 32, 33] (by decide +kernel) (by decide +kernel)
set_option maxRecDepth 20000 in
theorem gX12_letters_X12_blanks : GoodIn wsX12_letters (wsV RX12 102 RX12 yX12_blanks wsX12_blanks) := goodIn_app (goodIn_of _ (by decide +kernel)) ggX12_letters_X12_blanks
set_option maxRecDepth 20000 in
theorem ggX12_letters_X12_isAt : GoodIn wsX12_letters wsX12_isAt := goodIn_r _ [11, 1, 12, 13, 14, 15, 16, 17, 18, 19, 20, 21, 22, 23, 24, 25, 26, 27, 28, 29, 30, 31, 32, 33] (by decide +kernel) (by decide +kernel)
set_option maxRecDepth 20000 in
theorem gX12_letters_X12_isAt : GoodIn wsX12_letters (wsV RX12 95 RX12 yX12_isAt wsX12_isAt) := goodIn_app (goodIn_of _ (by decide +kernel)) ggX12_letters_X12_isAt
theorem dX12_letters_0 : decode cX12_letters 0 = .ok (.aload_n 0, 1) := by decide +kernel
theorem dX12_letters_1 : decode cX12_letters 1 = .ok (.invokevirtual 102, 3) := by decide +kernel
theorem dX12_letters_4 : decode cX12_letters 4 = .ok (.aload_n 0, 1) := by decide +kernel
theorem dX12_letters_5 : decode cX12_letters 5 = .ok (.bipush 97, 2) := by decide +kernel
theorem dX12_letters_7 : decode cX12_letters 7 = .ok (.bipush 122, 2) := by decide +kernel
theorem dX12_letters_9 : decode cX12_letters 9 = .ok (.invokevirtual 95, 3) := by decide +kernel
theorem dX12_letters_12 : decode cX12_letters 12 = .ok (.ifCond .eq 16, 3) := by decide +kernel
theorem dX12_letters_15 : decode cX12_letters 15 = .ok (.aload_n 0, 1) := by decide +kernel
theorem dX12_letters_16 : decode cX12_letters 16 = .ok (.dup, 1) := by decide +kernel
theorem dX12_letters_17 : decode cX12_letters 17 = .ok (.getfield 89, 3) := by decide +kernel
theorem dX12_letters_20 : decode cX12_letters 20 = .ok (.iconst 1, 1) := by decide +kernel
theorem dX12_letters_21 : decode cX12_letters 21 = .ok (.iadd, 1) := by decide +kernel
theorem dX12_letters_22 : decode cX12_letters 22 = .ok (.putfield 89, 3) := by decide +kernel
theorem dX12_letters_25 : decode cX12_letters 25 = .ok (.goto (-21), 3) := by decide +kernel
theorem dX12_letters_28 : decode cX12_letters 28 = .ok (.return_, 1) := by decide +kernel
set_option maxRecDepth 20000 in
theorem ggX12_isWord_J0_length_8abf5 : GoodIn wsX12_isWord wsJ0_length_8abf5 := goodIn_r _ [8, 9, 10, 11, 12, 7, 13, 14, 15] (by decide +kernel) (by decide +kernel)
set_option maxRecDepth 20000 in
theorem gX12_isWord_J0_length_8abf5 : GoodIn wsX12_isWord (wsV RX12 105 RJ0 yJ0_length_8abf5 wsJ0_length_8abf5) := goodIn_app (goodIn_of _ (by decide +kernel)) ggX12_isWord_J0_length_8abf5
set_option maxRecDepth 20000 in
theorem ggX12_isWord_J0_charAt_5068e : GoodIn wsX12_isWord wsJ0_charAt_5068e := goodIn_r _ [19, 9, 20, 21, 22, 7, 23, 14, 15, 24, 25, 26, 27, 28, 29, 30, 31, 32, 33, 34, 35, 36, 37, 38, 39, 40, 41, 42, 43, 44, 45, 46, 47, 48, 49, 50, 51, 52] (by decide +kernel) (by decide +kernel)
set_option maxRecDepth 20000 in
theorem gX12_isWord_J0_charAt_5068e : GoodIn wsX12_isWord (wsV RX12 110 RJ0 yJ0_charAt_5068e wsJ0_charAt_5068e) := goodIn_app (goodIn_of _ (by decide +kernel)) ggX12_isWord_J0_charAt_5068e
theorem dX12_isWord_0 : decode cX12_isWord 0 = .ok (.aload_n 0, 1) := by decide +kernel
theorem dX12_isWord_1 : decode cX12_isWord 1 = .ok (.getfield 89, 3) := by decide +kernel
theorem dX12_isWord_4 : decode cX12_isWord 4 = .ok (.aload_n 0, 1) := by decide +kernel
theorem dX12_isWord_5 : decode cX12_isWord 5 = .ok (.getfield 99, 3) := by decide +kernel
theorem dX12_isWord_8 : decode cX12_isWord 8 = .ok (.isub, 1) := by decide +kernel
theorem dX12_isWord_9 : decode cX12_isWord 9 = .ok (.aload_n 1, 1) := by decide +kernel
theorem dX12_isWord_10 : decode cX12_isWord 10 = .ok (.invokevirtual 105, 3) := by decide +kernel
theorem dX12_isWord_13 : decode cX12_isWord 13 = .ok (.if_icmp .ne 7, 3) := by decide +kernel
theorem dX12_isWord_16 : decode cX12_isWord 16 = .ok (.iconst 1, 1) := by decide +kernel
theorem dX12_isWord_17 : decode cX12_isWord 17 = .ok (.goto 4, 3) := by decide +kernel
theorem dX12_isWord_20 : decode cX12_isWord 20 = .ok (.iconst 0, 1) := by decide +kernel
theorem dX12_isWord_21 : decode cX12_isWord 21 = .ok (.istore_n 2, 1) := by decide +kernel
theorem dX12_isWord_22 : decode cX12_isWord 22 = .ok (.iconst 0, 1) := by decide +kernel
theorem dX12_isWord_23 : decode cX12_isWord 23 = .ok (.istore_n 3, 1) := by decide +kernel
theorem dX12_isWord_24 : decode cX12_isWord 24 = .ok (.iload_n 2, 1) := by decide +kernel
theorem dX12_isWord_25 : decode cX12_isWord 25 = .ok (.ifCond .eq 42, 3) := by decide +kernel
theorem dX12_isWord_28 : decode cX12_isWord 28 = .ok (.iload_n 3, 1) := by decide +kernel
theorem dX12_isWord_29 : decode cX12_isWord 29 = .ok (.aload_n 1, 1) := by decide +kernel
theorem dX12_isWord_30 : decode cX12_isWord 30 = .ok (.invokevirtual 105, 3) := by decide +kernel
theorem dX12_isWord_33 : decode cX12_isWord 33 = .ok (.if_icmp .ge 34, 3) := by decide +kernel
theorem dX12_isWord_36 : decode cX12_isWord 36 = .ok (.aload_n 0, 1) := by decide +kernel
theorem dX12_isWord_37 : decode cX12_isWord 37 = .ok (.getfield 29, 3) := by decide +kernel
theorem dX12_isWord_40 : decode cX12_isWord 40 = .ok (.aload_n 0, 1) := by decide +kernel
theorem dX12_isWord_41 : decode cX12_isWord 41 = .ok (.getfield 99, 3) := by decide +kernel
theorem dX12_isWord_44 : decode cX12_isWord 44 = .ok (.iload_n 3, 1) := by decide +kernel
theorem dX12_isWord_45 : decode cX12_isWord 45 = .ok (.iadd, 1) := by decide +kernel
theorem dX12_isWord_46 : decode cX12_isWord 46 = .ok (.baload, 1) := by decide +kernel
theorem dX12_isWord_47 : decode cX12_isWord 47 = .ok (.aload_n 1, 1) := by decide +kernel
theorem dX12_isWord_48 : decode cX12_isWord 48 = .ok (.iload_n 3, 1) := by decide +kernel
theorem dX12_isWord_49 : decode cX12_isWord 49 = .ok (.invokevirtual 110, 3) := by decide +kernel
theorem dX12_isWord_52 : decode cX12_isWord 52 = .ok (.if_icmp .ne 7, 3) := by decide +kernel
theorem dX12_isWord_55 : decode cX12_isWord 55 = .ok (.iconst 1, 1) := by decide +kernel
theorem dX12_isWord_56 : decode cX12_isWord 56 = .ok (.goto 4, 3) := by decide +kernel
theorem dX12_isWord_59 : decode cX12_isWord 59 = .ok (.iconst 0, 1) := by decide +kernel
theorem dX12_isWord_60 : decode cX12_isWord 60 = .ok (.istore_n 2, 1) := by decide +kernel
theorem dX12_isWord_61 : decode cX12_isWord 61 = .ok (.iinc 3 1, 3) := by decide +kernel
theorem dX12_isWord_64 : decode cX12_isWord 64 = .ok (.goto (-40), 3) := by decide +kernel
theorem dX12_isWord_67 : decode cX12_isWord 67 = .ok (.iload_n 2, 1) := by decide +kernel
theorem dX12_isWord_68 : decode cX12_isWord 68 = .ok (.ireturn, 1) := by decide +kernel
set_option maxRecDepth 20000 in
theorem ggX12_passes_X12_letters : GoodIn wsX12_passes wsX12_letters := goodIn_r _ [7, 2, 8, 9, 10, 6, 11, 1, 12, 13, 14, 15, 16, 17, 71, 72, 73, 74, 75, 76, 77, 78, 79, 80, 81, 82, 83, 84, 85, 86, 87, 88, 89, 90] (by decide +kernel) (by decide +kernel)
set_option maxRecDepth 20000 in
theorem gX12_passes_X12_letters : GoodIn wsX12_passes (wsV RX12 114 RX12 yX12_letters wsX12_letters) := goodIn_app (goodIn_of _ (by decide +kernel)) ggX12_passes_X12_letters
set_option maxRecDepth 20000 in
theorem ggX12_passes_X12_isWord : GoodIn wsX12_passes wsX12_isWord := goodIn_r _ [21, 2, 1, 17, 22, 23, 24, 25, 26, 27, 28, 29, 30, 31, 32, 33, 34, 35, 36, 37, 38, 39, 40, 41, 42, 43, 44, 45, 46, 47, 48, 49, 50, 51, 52, 53, 54, 55, 56, 57, 58, 59, 60, 61, 62, 63, 64, 65, 66, 67, 68, 69, 70, 71, 72, 73, 74, 75, 76, 77, 78, 79, 80, 81, 82, 83, 84, 85, 86, 87, 88, 89, 90] (by decide +kernel) (by decide +kernel)
set_option maxRecDepth 20000 in
theorem gX12_passes_X12_isWord : GoodIn wsX12_passes (wsV RX12 117 RX12 yX12_isWord wsX12_isWord) := goodIn_app (goodIn_of _ (by decide +kernel)) ggX12_passes_X12_isWord
theorem dX12_passes_0 : decode cX12_passes 0 = .ok (.aload_n 0, 1) := by decide +kernel
theorem dX12_passes_1 : decode cX12_passes 1 = .ok (.invokevirtual 114, 3) := by decide +kernel
theorem dX12_passes_4 : decode cX12_passes 4 = .ok (.aload_n 0, 1) := by decide +kernel
theorem dX12_passes_5 : decode cX12_passes 5 = .ok (.aload_n 1, 1) := by decide +kernel
theorem dX12_passes_6 : decode cX12_passes 6 = .ok (.invokevirtual 117, 3) := by decide +kernel
theorem dX12_passes_9 : decode cX12_passes 9 = .ok (.ifCond .eq 5, 3) := by decide +kernel
theorem dX12_passes_12 : decode cX12_passes 12 = .ok (.iconst 1, 1) := by decide +kernel
theorem dX12_passes_13 : decode cX12_passes 13 = .ok (.ireturn, 1) := by decide +kernel
theorem dX12_passes_14 : decode cX12_passes 14 = .ok (.aload_n 0, 1) := by decide +kernel
theorem dX12_passes_15 : decode cX12_passes 15 = .ok (.aload_n 0, 1) := by decide +kernel
theorem dX12_passes_16 : decode cX12_passes 16 = .ok (.getfield 99, 3) := by decide +kernel
theorem dX12_passes_19 : decode cX12_passes 19 = .ok (.putfield 89, 3) := by decide +kernel
theorem dX12_passes_22 : decode cX12_passes 22 = .ok (.iconst 0, 1) := by decide +kernel
theorem dX12_passes_23 : decode cX12_passes 23 = .ok (.ireturn, 1) := by decide +kernel
set_option maxRecDepth 20000 in
theorem ggX12_sign_X12_blanks : GoodIn wsX12_sign wsX12_blanks := goodIn_r _ [6, 1, 7, 8, 9, 10, 5, 11, 12, 13, 14, 15, 16, 17, 18, 19, 20, 21, 22, 23, 24, 25, 26, 27, 28, 29, 30, 31, 32, 33] (by decide +kernel) (by decide +kernel)
set_option maxRecDepth 20000 in
theorem gX12_sign_X12_blanks : GoodIn wsX12_sign (wsV RX12 102 RX12 yX12_blanks wsX12_blanks) := goodIn_app (goodIn_of _ (by decide +kernel)) ggX12_sign_X12_blanks
set_option maxRecDepth 20000 in
theorem ggX12_sign_X12_isAt : GoodIn wsX12_sign wsX12_isAt := goodIn_r _ [11, 1, 12, 13, 14, 15, 16, 17, 18, 19, 20, 21, 22, 23, 24, 25, 26, 27, 28, 29, 30, 31, 32, 33] (by decide +kernel) (by decide +kernel)
set_option maxRecDepth 20000 in
theorem gX12_sign_X12_isAt : GoodIn wsX12_sign (wsV RX12 95 RX12 yX12_isAt wsX12_isAt) := goodIn_app (goodIn_of _ (by decide +kernel)) ggX12_sign_X12_isAt
theorem dX12_sign_0 : decode cX12_sign 0 = .ok (.aload_n 0, 1) := by decide +kernel
theorem dX12_sign_1 : decode cX12_sign 1 = .ok (.invokevirtual 102, 3) := by decide +kernel
theorem dX12_sign_4 : decode cX12_sign 4 = .ok (.aload_n 0, 1) := by decide +kernel
theorem dX12_sign_5 : decode cX12_sign 5 = .ok (.iload_n 1, 1) := by decide +kernel
theorem dX12_sign_6 : decode cX12_sign 6 = .ok (.iload_n 1, 1) := by decide +kernel
theorem dX12_sign_7 : decode cX12_sign 7 = .ok (.invokevirtual 95, 3) := by decide +kernel
theorem dX12_sign_10 : decode cX12_sign 10 = .ok (.ifCond .ne 5, 3) := by decide +kernel
theorem dX12_sign_13 : decode cX12_sign 13 = .ok (.iconst 0, 1) := by decide +kernel
theorem dX12_sign_14 : decode cX12_sign 14 = .ok (.ireturn, 1) := by decide +kernel
theorem dX12_sign_15 : decode cX12_sign 15 = .ok (.aload_n 0, 1) := by decide +kernel
theorem dX12_sign_16 : decode cX12_sign 16 = .ok (.dup, 1) := by decide +kernel
theorem dX12_sign_17 : decode cX12_sign 17 = .ok (.getfield 89, 3) := by decide +kernel
theorem dX12_sign_20 : decode cX12_sign 20 = .ok (.iconst 1, 1) := by decide +kernel
theorem dX12_sign_21 : decode cX12_sign 21 = .ok (.iadd, 1) := by decide +kernel
theorem dX12_sign_22 : decode cX12_sign 22 = .ok (.putfield 89, 3) := by decide +kernel
theorem dX12_sign_25 : decode cX12_sign 25 = .ok (.iconst 1, 1) := by decide +kernel
theorem dX12_sign_26 : decode cX12_sign 26 = .ok (.ireturn, 1) := by decide +kernel
set_option maxRecDepth 20000 in
theorem ggX12_number_X12_blanks : GoodIn wsX12_number wsX12_blanks := goodIn_r _ [8, 1, 2, 9, 10, 11, 7, 12, 13, 3, 14, 15, 16, 17, 18, 19, 20, 21, 22, 23, 24, 25, 26, 27, 28, 29, 30, 31, 32, 33] (by decide +kernel) (by decide +kernel)
set_option maxRecDepth 20000 in
theorem gX12_number_X12_blanks : GoodIn wsX12_number (wsV RX12 102 RX12 yX12_blanks wsX12_blanks) := goodIn_app (goodIn_of _ (by decide +kernel)) ggX12_number_X12_blanks
set_option maxRecDepth 20000 in
theorem ggX12_number_X12_isAt : GoodIn wsX12_number wsX12_isAt := goodIn_r _ [12, 1, 13, 3, 14, 15, 16, 17, 18, 19, 20, 21, 22, 23, 24, 25, 26, 27, 28, 29, 30, 31, 32, 33] (by decide +kernel) (by decide +kernel)
set_option maxRecDepth 20000 in
theorem gX12_number_X12_isAt : GoodIn wsX12_number (wsV RX12 95 RX12 yX12_isAt wsX12_isAt) := goodIn_app (goodIn_of _ (by decide +kernel)) ggX12_number_X12_isAt
theorem dX12_number_0 : decode cX12_number 0 = .ok (.aload_n 0, 1) := by decide +kernel
theorem dX12_number_1 : decode cX12_number 1 = .ok (.invokevirtual 102, 3) := by decide +kernel
theorem dX12_number_4 : decode cX12_number 4 = .ok (.iconst 0, 1) := by decide +kernel
theorem dX12_number_5 : decode cX12_number 5 = .ok (.istore_n 3, 1) := by decide +kernel
theorem dX12_number_6 : decode cX12_number 6 = .ok (.aload_n 0, 1) := by decide +kernel
theorem dX12_number_7 : decode cX12_number 7 = .ok (.bipush 48, 2) := by decide +kernel
theorem dX12_number_9 : decode cX12_number 9 = .ok (.bipush 57, 2) := by decide +kernel
theorem dX12_number_11 : decode cX12_number 11 = .ok (.invokevirtual 95, 3) := by decide +kernel
theorem dX12_number_14 : decode cX12_number 14 = .ok (.ifCond .eq 51, 3) := by decide +kernel
theorem dX12_number_17 : decode cX12_number 17 = .ok (.aload_n 0, 1) := by decide +kernel
theorem dX12_number_18 : decode cX12_number 18 = .ok (.getfield 89, 3) := by decide +kernel
theorem dX12_number_21 : decode cX12_number 21 = .ok (.aload_n 0, 1) := by decide +kernel
theorem dX12_number_22 : decode cX12_number 22 = .ok (.getfield 99, 3) := by decide +kernel
theorem dX12_number_25 : decode cX12_number 25 = .ok (.isub, 1) := by decide +kernel
theorem dX12_number_26 : decode cX12_number 26 = .ok (.iconst 3, 1) := by decide +kernel
theorem dX12_number_27 : decode cX12_number 27 = .ok (.if_icmp .ge 23, 3) := by decide +kernel
theorem dX12_number_30 : decode cX12_number 30 = .ok (.bipush 10, 2) := by decide +kernel
theorem dX12_number_32 : decode cX12_number 32 = .ok (.iload_n 3, 1) := by decide +kernel
theorem dX12_number_33 : decode cX12_number 33 = .ok (.imul, 1) := by decide +kernel
theorem dX12_number_34 : decode cX12_number 34 = .ok (.aload_n 0, 1) := by decide +kernel
theorem dX12_number_35 : decode cX12_number 35 = .ok (.getfield 29, 3) := by decide +kernel
theorem dX12_number_38 : decode cX12_number 38 = .ok (.aload_n 0, 1) := by decide +kernel
theorem dX12_number_39 : decode cX12_number 39 = .ok (.getfield 89, 3) := by decide +kernel
theorem dX12_number_42 : decode cX12_number 42 = .ok (.baload, 1) := by decide +kernel
theorem dX12_number_43 : decode cX12_number 43 = .ok (.iadd, 1) := by decide +kernel
theorem dX12_number_44 : decode cX12_number 44 = .ok (.bipush 48, 2) := by decide +kernel
theorem dX12_number_46 : decode cX12_number 46 = .ok (.isub, 1) := by decide +kernel
theorem dX12_number_47 : decode cX12_number 47 = .ok (.goto 4, 3) := by decide +kernel
theorem dX12_number_50 : decode cX12_number 50 = .ok (.iload_n 3, 1) := by decide +kernel
theorem dX12_number_51 : decode cX12_number 51 = .ok (.istore_n 3, 1) := by decide +kernel
theorem dX12_number_52 : decode cX12_number 52 = .ok (.aload_n 0, 1) := by decide +kernel
theorem dX12_number_53 : decode cX12_number 53 = .ok (.dup, 1) := by decide +kernel
theorem dX12_number_54 : decode cX12_number 54 = .ok (.getfield 89, 3) := by decide +kernel
theorem dX12_number_57 : decode cX12_number 57 = .ok (.iconst 1, 1) := by decide +kernel
theorem dX12_number_58 : decode cX12_number 58 = .ok (.iadd, 1) := by decide +kernel
theorem dX12_number_59 : decode cX12_number 59 = .ok (.putfield 89, 3) := by decide +kernel
theorem dX12_number_62 : decode cX12_number 62 = .ok (.goto (-56), 3) := by decide +kernel
theorem dX12_number_65 : decode cX12_number 65 = .ok (.aload_n 0, 1) := by decide +kernel
theorem dX12_number_66 : decode cX12_number 66 = .ok (.getfield 89, 3) := by decide +kernel
theorem dX12_number_69 : decode cX12_number 69 = .ok (.aload_n 0, 1) := by decide +kernel
theorem dX12_number_70 : decode cX12_number 70 = .ok (.getfield 99, 3) := by decide +kernel
theorem dX12_number_73 : decode cX12_number 73 = .ok (.if_icmp .eq 26, 3) := by decide +kernel
theorem dX12_number_76 : decode cX12_number 76 = .ok (.aload_n 0, 1) := by decide +kernel
theorem dX12_number_77 : decode cX12_number 77 = .ok (.getfield 89, 3) := by decide +kernel
theorem dX12_number_80 : decode cX12_number 80 = .ok (.aload_n 0, 1) := by decide +kernel
theorem dX12_number_81 : decode cX12_number 81 = .ok (.getfield 99, 3) := by decide +kernel
theorem dX12_number_84 : decode cX12_number 84 = .ok (.isub, 1) := by decide +kernel
theorem dX12_number_85 : decode cX12_number 85 = .ok (.iconst 3, 1) := by decide +kernel
theorem dX12_number_86 : decode cX12_number 86 = .ok (.if_icmp .gt 13, 3) := by decide +kernel
theorem dX12_number_89 : decode cX12_number 89 = .ok (.iload_n 3, 1) := by decide +kernel
theorem dX12_number_90 : decode cX12_number 90 = .ok (.iload_n 1, 1) := by decide +kernel
theorem dX12_number_91 : decode cX12_number 91 = .ok (.if_icmp .lt 8, 3) := by decide +kernel
theorem dX12_number_94 : decode cX12_number 94 = .ok (.iload_n 3, 1) := by decide +kernel
theorem dX12_number_95 : decode cX12_number 95 = .ok (.iload_n 2, 1) := by decide +kernel
theorem dX12_number_96 : decode cX12_number 96 = .ok (.if_icmp .le 7, 3) := by decide +kernel
theorem dX12_number_99 : decode cX12_number 99 = .ok (.iconst (-1), 1) := by decide +kernel
theorem dX12_number_100 : decode cX12_number 100 = .ok (.goto 4, 3) := by decide +kernel
theorem dX12_number_103 : decode cX12_number 103 = .ok (.iload_n 3, 1) := by decide +kernel
theorem dX12_number_104 : decode cX12_number 104 = .ok (.ireturn, 1) := by decide +kernel
set_option maxRecDepth 20000 in
theorem ggX12_after_X12_letters : GoodIn wsX12_after wsX12_letters := goodIn_r _ [5, 6, 7, 8, 9, 4, 10, 11, 12, 13, 14, 15, 16, 17, 75, 76, 77, 78, 79, 80, 81, 82, 83, 84, 85, 86, 87, 88, 89, 90, 91, 92, 93, 94] (by decide +kernel) (by decide +kernel)
set_option maxRecDepth 20000 in
theorem gX12_after_X12_letters : GoodIn wsX12_after (wsV RX12 114 RX12 yX12_letters wsX12_letters) := goodIn_app (goodIn_of _ (by decide +kernel)) ggX12_after_X12_letters
set_option maxRecDepth 20000 in
theorem ggX12_after_X12_isWord : GoodIn wsX12_after wsX12_isWord := goodIn_r _ [21, 6, 11, 17, 22, 23, 24, 25, 26, 27, 28, 29, 30, 31, 32, 33, 34, 35, 36, 37, 38, 39, 40, 41, 42, 43, 44, 45, 46, 47, 48, 49, 50, 51, 52, 53, 54, 55, 56, 57, 58, 59, 60, 61, 62, 63, 64, 65, 66, 67, 68, 69, 70, 75, 76, 77, 78, 79, 80, 81, 82, 83, 84, 85, 86, 87, 88, 89, 90, 91, 92, 93, 94] (by decide +kernel) (by decide +kernel)
set_option maxRecDepth 20000 in
theorem gX12_after_X12_isWord : GoodIn wsX12_after (wsV RX12 117 RX12 yX12_isWord wsX12_isWord) := goodIn_app (goodIn_of _ (by decide +kernel)) ggX12_after_X12_isWord
set_option maxRecDepth 20000 in
theorem ggX12_after_X12_number : GoodIn wsX12_after wsX12_number := goodIn_r _ [74, 6, 11, 17, 7, 8, 9, 4, 10, 12, 13, 14, 15, 16, 75, 76, 77, 78, 79, 80, 81, 82, 83, 84, 85, 86, 87, 88, 89, 90, 91, 92, 93, 94] (by decide +kernel) (by decide +kernel)
set_option maxRecDepth 20000 in
theorem gX12_after_X12_number : GoodIn wsX12_after (wsV RX12 121 RX12 yX12_number wsX12_number) := goodIn_app (goodIn_of _ (by decide +kernel)) ggX12_after_X12_number
theorem dX12_after_0 : decode cX12_after 0 = .ok (.aload_n 0, 1) := by decide +kernel
theorem dX12_after_1 : decode cX12_after 1 = .ok (.invokevirtual 114, 3) := by decide +kernel
theorem dX12_after_4 : decode cX12_after 4 = .ok (.aload_n 0, 1) := by decide +kernel
theorem dX12_after_5 : decode cX12_after 5 = .ok (.aload_n 1, 1) := by decide +kernel
theorem dX12_after_6 : decode cX12_after 6 = .ok (.invokevirtual 117, 3) := by decide +kernel
theorem dX12_after_9 : decode cX12_after 9 = .ok (.ifCond .eq 12, 3) := by decide +kernel
theorem dX12_after_12 : decode cX12_after 12 = .ok (.aload_n 0, 1) := by decide +kernel
theorem dX12_after_13 : decode cX12_after 13 = .ok (.iload_n 2, 1) := by decide +kernel
theorem dX12_after_14 : decode cX12_after 14 = .ok (.iload_n 3, 1) := by decide +kernel
theorem dX12_after_15 : decode cX12_after 15 = .ok (.invokevirtual 121, 3) := by decide +kernel
theorem dX12_after_18 : decode cX12_after 18 = .ok (.goto 4, 3) := by decide +kernel
theorem dX12_after_21 : decode cX12_after 21 = .ok (.iconst (-1), 1) := by decide +kernel
theorem dX12_after_22 : decode cX12_after 22 = .ok (.ireturn, 1) := by decide +kernel
theorem dX12_fault_0 : decode cX12_fault 0 = .ok (.aload_n 0, 1) := by decide +kernel
theorem dX12_fault_1 : decode cX12_fault 1 = .ok (.iconst 0, 1) := by decide +kernel
theorem dX12_fault_2 : decode cX12_fault 2 = .ok (.putfield 3, 3) := by decide +kernel
theorem dX12_fault_5 : decode cX12_fault 5 = .ok (.aload_n 0, 1) := by decide +kernel
theorem dX12_fault_6 : decode cX12_fault 6 = .ok (.getfield 33, 3) := by decide +kernel
theorem dX12_fault_9 : decode cX12_fault 9 = .ok (.ireturn, 1) := by decide +kernel
theorem dX12_uses_0 : decode cX12_uses 0 = .ok (.aload_n 0, 1) := by decide +kernel
theorem dX12_uses_1 : decode cX12_uses 1 = .ok (.iconst 0, 1) := by decide +kernel
theorem dX12_uses_2 : decode cX12_uses 2 = .ok (.putfield 3, 3) := by decide +kernel
theorem dX12_uses_5 : decode cX12_uses 5 = .ok (.aload_n 0, 1) := by decide +kernel
theorem dX12_uses_6 : decode cX12_uses 6 = .ok (.aload_n 0, 1) := by decide +kernel
theorem dX12_uses_7 : decode cX12_uses 7 = .ok (.getfield 86, 3) := by decide +kernel
theorem dX12_uses_10 : decode cX12_uses 10 = .ok (.putfield 92, 3) := by decide +kernel
theorem dX12_uses_13 : decode cX12_uses 13 = .ok (.aload_n 0, 1) := by decide +kernel
theorem dX12_uses_14 : decode cX12_uses 14 = .ok (.iconst 0, 1) := by decide +kernel
theorem dX12_uses_15 : decode cX12_uses 15 = .ok (.putfield 86, 3) := by decide +kernel
theorem dX12_uses_18 : decode cX12_uses 18 = .ok (.aload_n 0, 1) := by decide +kernel
theorem dX12_uses_19 : decode cX12_uses 19 = .ok (.iconst 0, 1) := by decide +kernel
theorem dX12_uses_20 : decode cX12_uses 20 = .ok (.putfield 89, 3) := by decide +kernel
theorem dX12_uses_23 : decode cX12_uses 23 = .ok (.return_, 1) := by decide +kernel
set_option maxRecDepth 20000 in
theorem ggX12_readNumber_X12_number : GoodIn wsX12_readNumber wsX12_number := goodIn_r _ [6, 7, 8, 9, 10, 11, 12, 5, 13, 14, 15, 16, 17, 18, 19, 20, 21, 22, 23, 24, 25, 26, 27, 28, 29, 30, 31, 32, 33, 34, 35, 36, 37, 38] (by decide +kernel) (by decide +kernel)
set_option maxRecDepth 20000 in
theorem gX12_readNumber_X12_number : GoodIn wsX12_readNumber (wsV RX12 121 RX12 yX12_number wsX12_number) := goodIn_app (goodIn_of _ (by decide +kernel)) ggX12_readNumber_X12_number
theorem dX12_readNumber_0 : decode cX12_readNumber 0 = .ok (.aload_n 0, 1) := by decide +kernel
theorem dX12_readNumber_1 : decode cX12_readNumber 1 = .ok (.iload_n 2, 1) := by decide +kernel
theorem dX12_readNumber_2 : decode cX12_readNumber 2 = .ok (.iload_n 3, 1) := by decide +kernel
theorem dX12_readNumber_3 : decode cX12_readNumber 3 = .ok (.invokevirtual 121, 3) := by decide +kernel
theorem dX12_readNumber_6 : decode cX12_readNumber 6 = .ok (.istore 4, 2) := by decide +kernel
theorem dX12_readNumber_8 : decode cX12_readNumber 8 = .ok (.aload_n 0, 1) := by decide +kernel
theorem dX12_readNumber_9 : decode cX12_readNumber 9 = .ok (.getfield 13, 3) := by decide +kernel
theorem dX12_readNumber_12 : decode cX12_readNumber 12 = .ok (.iload_n 1, 1) := by decide +kernel
theorem dX12_readNumber_13 : decode cX12_readNumber 13 = .ok (.iload 4, 2) := by decide +kernel
theorem dX12_readNumber_15 : decode cX12_readNumber 15 = .ok (.ifCond .ge 12, 3) := by decide +kernel
theorem dX12_readNumber_18 : decode cX12_readNumber 18 = .ok (.aload_n 0, 1) := by decide +kernel
theorem dX12_readNumber_19 : decode cX12_readNumber 19 = .ok (.getfield 13, 3) := by decide +kernel
theorem dX12_readNumber_22 : decode cX12_readNumber 22 = .ok (.iload_n 1, 1) := by decide +kernel
theorem dX12_readNumber_23 : decode cX12_readNumber 23 = .ok (.iaload, 1) := by decide +kernel
theorem dX12_readNumber_24 : decode cX12_readNumber 24 = .ok (.goto 5, 3) := by decide +kernel
theorem dX12_readNumber_27 : decode cX12_readNumber 27 = .ok (.iload 4, 2) := by decide +kernel
theorem dX12_readNumber_29 : decode cX12_readNumber 29 = .ok (.iastore, 1) := by decide +kernel
theorem dX12_readNumber_30 : decode cX12_readNumber 30 = .ok (.iload 4, 2) := by decide +kernel
theorem dX12_readNumber_32 : decode cX12_readNumber 32 = .ok (.ifCond .lt 7, 3) := by decide +kernel
theorem dX12_readNumber_35 : decode cX12_readNumber 35 = .ok (.iconst 1, 1) := by decide +kernel
theorem dX12_readNumber_36 : decode cX12_readNumber 36 = .ok (.goto 4, 3) := by decide +kernel
theorem dX12_readNumber_39 : decode cX12_readNumber 39 = .ok (.iconst 0, 1) := by decide +kernel
theorem dX12_readNumber_40 : decode cX12_readNumber 40 = .ok (.ireturn, 1) := by decide +kernel
set_option maxRecDepth 20000 in
theorem ggX12_readPlank_X12_planks : GoodIn wsX12_readPlank wsX12_planks := goodIn_r _ [6, 1, 90, 91, 92, 93, 94, 95, 96, 97, 98, 99, 100, 101, 102, 103, 104, 105, 106, 107, 108, 109] (by decide +kernel) (by decide +kernel)
set_option maxRecDepth 20000 in
theorem gX12_readPlank_X12_planks : GoodIn wsX12_readPlank (wsV RX12 55 RX12 yX12_planks wsX12_planks) := goodIn_app (goodIn_of _ (by decide +kernel)) ggX12_readPlank_X12_planks
set_option maxRecDepth 20000 in
theorem ggX12_readPlank_X12_number : GoodIn wsX12_readPlank wsX12_number := goodIn_r _ [10, 11, 12, 13, 14, 15, 16, 5, 17, 18, 19, 20, 21, 22, 90, 91, 92, 93, 94, 95, 96, 97, 98, 99, 100, 101, 102, 103, 104, 105, 106, 107, 108, 109] (by decide +kernel) (by decide +kernel)
set_option maxRecDepth 20000 in
theorem gX12_readPlank_X12_number : GoodIn wsX12_readPlank (wsV RX12 121 RX12 yX12_number wsX12_number) := goodIn_app (goodIn_of _ (by decide +kernel)) ggX12_readPlank_X12_number
set_option maxRecDepth 20000 in
theorem ggX12_readPlank_X12_passes : GoodIn wsX12_readPlank wsX12_passes := goodIn_r _ [26, 12, 11, 27, 28, 29, 5, 30, 14, 15, 16, 17, 18, 19, 20, 21, 22, 13, 31, 32, 33, 34, 35, 36, 37, 38, 39, 40, 41, 42, 43, 44, 45, 46, 47, 48, 49, 50, 51, 52, 53, 54, 55, 56, 57, 58, 59, 60, 61, 62, 63, 64, 65, 66, 67, 68, 69, 70, 71, 72, 73, 74, 75, 76, 77, 78, 79, 80, 81, 82, 83, 90, 91, 92, 93, 94, 95, 96, 97, 98, 99, 100, 101, 102, 103, 104, 105, 106, 107, 108, 109] (by decide +kernel) (by decide +kernel)
set_option maxRecDepth 20000 in
theorem gX12_readPlank_X12_passes : GoodIn wsX12_readPlank (wsV RX12 126 RX12 yX12_passes wsX12_passes) := goodIn_app (goodIn_of _ (by decide +kernel)) ggX12_readPlank_X12_passes
set_option maxRecDepth 20000 in
theorem ggX12_readPlank_X12_plankAt : GoodIn wsX12_readPlank wsX12_plankAt := goodIn_r _ [86] (by decide +kernel) (by decide +kernel)
set_option maxRecDepth 20000 in
theorem gX12_readPlank_X12_plankAt : GoodIn wsX12_readPlank (va_wsS RX12 59 yX12_plankAt wsX12_plankAt) := goodIn_app (goodIn_of _ (by decide +kernel)) ggX12_readPlank_X12_plankAt
set_option maxRecDepth 20000 in
theorem ggX12_readPlank_X12_houseAt : GoodIn wsX12_readPlank wsX12_houseAt := goodIn_r _ [89] (by decide +kernel) (by decide +kernel)
set_option maxRecDepth 20000 in
theorem gX12_readPlank_X12_houseAt : GoodIn wsX12_readPlank (va_wsS RX12 66 yX12_houseAt wsX12_houseAt) := goodIn_app (goodIn_of _ (by decide +kernel)) ggX12_readPlank_X12_houseAt
theorem dX12_readPlank_0 : decode cX12_readPlank 0 = .ok (.aload_n 0, 1) := by decide +kernel
theorem dX12_readPlank_1 : decode cX12_readPlank 1 = .ok (.invokevirtual 55, 3) := by decide +kernel
theorem dX12_readPlank_4 : decode cX12_readPlank 4 = .ok (.istore_n 1, 1) := by decide +kernel
theorem dX12_readPlank_5 : decode cX12_readPlank 5 = .ok (.iload_n 1, 1) := by decide +kernel
theorem dX12_readPlank_6 : decode cX12_readPlank 6 = .ok (.iconst 5, 1) := by decide +kernel
theorem dX12_readPlank_7 : decode cX12_readPlank 7 = .ok (.if_icmp .ne 5, 3) := by decide +kernel
theorem dX12_readPlank_10 : decode cX12_readPlank 10 = .ok (.iconst 0, 1) := by decide +kernel
theorem dX12_readPlank_11 : decode cX12_readPlank 11 = .ok (.ireturn, 1) := by decide +kernel
theorem dX12_readPlank_12 : decode cX12_readPlank 12 = .ok (.aload_n 0, 1) := by decide +kernel
theorem dX12_readPlank_13 : decode cX12_readPlank 13 = .ok (.bipush 10, 2) := by decide +kernel
theorem dX12_readPlank_15 : decode cX12_readPlank 15 = .ok (.sipush 400, 3) := by decide +kernel
theorem dX12_readPlank_18 : decode cX12_readPlank 18 = .ok (.invokevirtual 121, 3) := by decide +kernel
theorem dX12_readPlank_21 : decode cX12_readPlank 21 = .ok (.istore_n 2, 1) := by decide +kernel
theorem dX12_readPlank_22 : decode cX12_readPlank 22 = .ok (.iload_n 2, 1) := by decide +kernel
theorem dX12_readPlank_23 : decode cX12_readPlank 23 = .ok (.ifCond .ge 5, 3) := by decide +kernel
theorem dX12_readPlank_26 : decode cX12_readPlank 26 = .ok (.iconst 0, 1) := by decide +kernel
theorem dX12_readPlank_27 : decode cX12_readPlank 27 = .ok (.ireturn, 1) := by decide +kernel
theorem dX12_readPlank_28 : decode cX12_readPlank 28 = .ok (.aload_n 0, 1) := by decide +kernel
theorem dX12_readPlank_29 : decode cX12_readPlank 29 = .ok (.ldc 124, 2) := by decide +kernel
theorem dX12_readPlank_31 : decode cX12_readPlank 31 = .ok (.invokevirtual 126, 3) := by decide +kernel
theorem dX12_readPlank_34 : decode cX12_readPlank 34 = .ok (.ifCond .eq 13, 3) := by decide +kernel
theorem dX12_readPlank_37 : decode cX12_readPlank 37 = .ok (.aload_n 0, 1) := by decide +kernel
theorem dX12_readPlank_38 : decode cX12_readPlank 38 = .ok (.iconst 0, 1) := by decide +kernel
theorem dX12_readPlank_39 : decode cX12_readPlank 39 = .ok (.bipush 99, 2) := by decide +kernel
theorem dX12_readPlank_41 : decode cX12_readPlank 41 = .ok (.invokevirtual 121, 3) := by decide +kernel
theorem dX12_readPlank_44 : decode cX12_readPlank 44 = .ok (.goto 4, 3) := by decide +kernel
theorem dX12_readPlank_47 : decode cX12_readPlank 47 = .ok (.iconst 0, 1) := by decide +kernel
theorem dX12_readPlank_48 : decode cX12_readPlank 48 = .ok (.istore_n 3, 1) := by decide +kernel
theorem dX12_readPlank_49 : decode cX12_readPlank 49 = .ok (.iload_n 3, 1) := by decide +kernel
theorem dX12_readPlank_50 : decode cX12_readPlank 50 = .ok (.ifCond .ge 5, 3) := by decide +kernel
theorem dX12_readPlank_53 : decode cX12_readPlank 53 = .ok (.iconst 0, 1) := by decide +kernel
theorem dX12_readPlank_54 : decode cX12_readPlank 54 = .ok (.ireturn, 1) := by decide +kernel
theorem dX12_readPlank_55 : decode cX12_readPlank 55 = .ok (.aload_n 0, 1) := by decide +kernel
theorem dX12_readPlank_56 : decode cX12_readPlank 56 = .ok (.getfield 13, 3) := by decide +kernel
theorem dX12_readPlank_59 : decode cX12_readPlank 59 = .ok (.iload_n 1, 1) := by decide +kernel
theorem dX12_readPlank_60 : decode cX12_readPlank 60 = .ok (.iconst 0, 1) := by decide +kernel
theorem dX12_readPlank_61 : decode cX12_readPlank 61 = .ok (.invokestatic 59, 3) := by decide +kernel
theorem dX12_readPlank_64 : decode cX12_readPlank 64 = .ok (.iload_n 2, 1) := by decide +kernel
theorem dX12_readPlank_65 : decode cX12_readPlank 65 = .ok (.iastore, 1) := by decide +kernel
theorem dX12_readPlank_66 : decode cX12_readPlank 66 = .ok (.aload_n 0, 1) := by decide +kernel
theorem dX12_readPlank_67 : decode cX12_readPlank 67 = .ok (.getfield 13, 3) := by decide +kernel
theorem dX12_readPlank_70 : decode cX12_readPlank 70 = .ok (.iload_n 1, 1) := by decide +kernel
theorem dX12_readPlank_71 : decode cX12_readPlank 71 = .ok (.iconst 1, 1) := by decide +kernel
theorem dX12_readPlank_72 : decode cX12_readPlank 72 = .ok (.invokestatic 59, 3) := by decide +kernel
theorem dX12_readPlank_75 : decode cX12_readPlank 75 = .ok (.iload_n 3, 1) := by decide +kernel
theorem dX12_readPlank_76 : decode cX12_readPlank 76 = .ok (.iastore, 1) := by decide +kernel
theorem dX12_readPlank_77 : decode cX12_readPlank 77 = .ok (.aload_n 0, 1) := by decide +kernel
theorem dX12_readPlank_78 : decode cX12_readPlank 78 = .ok (.getfield 13, 3) := by decide +kernel
theorem dX12_readPlank_81 : decode cX12_readPlank 81 = .ok (.iload_n 1, 1) := by decide +kernel
theorem dX12_readPlank_82 : decode cX12_readPlank 82 = .ok (.iconst 2, 1) := by decide +kernel
theorem dX12_readPlank_83 : decode cX12_readPlank 83 = .ok (.invokestatic 59, 3) := by decide +kernel
theorem dX12_readPlank_86 : decode cX12_readPlank 86 = .ok (.iconst 0, 1) := by decide +kernel
theorem dX12_readPlank_87 : decode cX12_readPlank 87 = .ok (.iastore, 1) := by decide +kernel
theorem dX12_readPlank_88 : decode cX12_readPlank 88 = .ok (.aload_n 0, 1) := by decide +kernel
theorem dX12_readPlank_89 : decode cX12_readPlank 89 = .ok (.getfield 13, 3) := by decide +kernel
theorem dX12_readPlank_92 : decode cX12_readPlank 92 = .ok (.iload_n 1, 1) := by decide +kernel
theorem dX12_readPlank_93 : decode cX12_readPlank 93 = .ok (.iconst 3, 1) := by decide +kernel
theorem dX12_readPlank_94 : decode cX12_readPlank 94 = .ok (.invokestatic 59, 3) := by decide +kernel
theorem dX12_readPlank_97 : decode cX12_readPlank 97 = .ok (.iconst 0, 1) := by decide +kernel
theorem dX12_readPlank_98 : decode cX12_readPlank 98 = .ok (.iastore, 1) := by decide +kernel
theorem dX12_readPlank_99 : decode cX12_readPlank 99 = .ok (.iconst 2, 1) := by decide +kernel
theorem dX12_readPlank_100 : decode cX12_readPlank 100 = .ok (.iload_n 1, 1) := by decide +kernel
theorem dX12_readPlank_101 : decode cX12_readPlank 101 = .ok (.imul, 1) := by decide +kernel
theorem dX12_readPlank_102 : decode cX12_readPlank 102 = .ok (.istore 4, 2) := by decide +kernel
theorem dX12_readPlank_104 : decode cX12_readPlank 104 = .ok (.iload 4, 2) := by decide +kernel
theorem dX12_readPlank_106 : decode cX12_readPlank 106 = .ok (.iconst 2, 1) := by decide +kernel
theorem dX12_readPlank_107 : decode cX12_readPlank 107 = .ok (.iload_n 1, 1) := by decide +kernel
theorem dX12_readPlank_108 : decode cX12_readPlank 108 = .ok (.imul, 1) := by decide +kernel
theorem dX12_readPlank_109 : decode cX12_readPlank 109 = .ok (.iconst 1, 1) := by decide +kernel
theorem dX12_readPlank_110 : decode cX12_readPlank 110 = .ok (.iadd, 1) := by decide +kernel
theorem dX12_readPlank_111 : decode cX12_readPlank 111 = .ok (.if_icmp .gt 34, 3) := by decide +kernel
theorem dX12_readPlank_114 : decode cX12_readPlank 114 = .ok (.aload_n 0, 1) := by decide +kernel
theorem dX12_readPlank_115 : decode cX12_readPlank 115 = .ok (.getfield 13, 3) := by decide +kernel
theorem dX12_readPlank_118 : decode cX12_readPlank 118 = .ok (.iload 4, 2) := by decide +kernel
theorem dX12_readPlank_120 : decode cX12_readPlank 120 = .ok (.iconst 0, 1) := by decide +kernel
theorem dX12_readPlank_121 : decode cX12_readPlank 121 = .ok (.invokestatic 66, 3) := by decide +kernel
theorem dX12_readPlank_124 : decode cX12_readPlank 124 = .ok (.bipush 100, 2) := by decide +kernel
theorem dX12_readPlank_126 : decode cX12_readPlank 126 = .ok (.iastore, 1) := by decide +kernel
theorem dX12_readPlank_127 : decode cX12_readPlank 127 = .ok (.aload_n 0, 1) := by decide +kernel
theorem dX12_readPlank_128 : decode cX12_readPlank 128 = .ok (.getfield 13, 3) := by decide +kernel
theorem dX12_readPlank_131 : decode cX12_readPlank 131 = .ok (.iload 4, 2) := by decide +kernel
theorem dX12_readPlank_133 : decode cX12_readPlank 133 = .ok (.iconst 1, 1) := by decide +kernel
theorem dX12_readPlank_134 : decode cX12_readPlank 134 = .ok (.invokestatic 66, 3) := by decide +kernel
theorem dX12_readPlank_137 : decode cX12_readPlank 137 = .ok (.iconst 0, 1) := by decide +kernel
theorem dX12_readPlank_138 : decode cX12_readPlank 138 = .ok (.iastore, 1) := by decide +kernel
theorem dX12_readPlank_139 : decode cX12_readPlank 139 = .ok (.iinc 4 1, 3) := by decide +kernel
theorem dX12_readPlank_142 : decode cX12_readPlank 142 = .ok (.goto (-38), 3) := by decide +kernel
theorem dX12_readPlank_145 : decode cX12_readPlank 145 = .ok (.aload_n 0, 1) := by decide +kernel
theorem dX12_readPlank_146 : decode cX12_readPlank 146 = .ok (.getfield 13, 3) := by decide +kernel
theorem dX12_readPlank_149 : decode cX12_readPlank 149 = .ok (.iconst 0, 1) := by decide +kernel
theorem dX12_readPlank_150 : decode cX12_readPlank 150 = .ok (.dup2, 1) := by decide +kernel
theorem dX12_readPlank_151 : decode cX12_readPlank 151 = .ok (.iaload, 1) := by decide +kernel
theorem dX12_readPlank_152 : decode cX12_readPlank 152 = .ok (.iconst 1, 1) := by decide +kernel
theorem dX12_readPlank_153 : decode cX12_readPlank 153 = .ok (.iadd, 1) := by decide +kernel
theorem dX12_readPlank_154 : decode cX12_readPlank 154 = .ok (.iastore, 1) := by decide +kernel
theorem dX12_readPlank_155 : decode cX12_readPlank 155 = .ok (.iconst 1, 1) := by decide +kernel
theorem dX12_readPlank_156 : decode cX12_readPlank 156 = .ok (.ireturn, 1) := by decide +kernel
set_option maxRecDepth 20000 in
theorem ggX12_readHouse_X12_houses : GoodIn wsX12_readHouse wsX12_houses := goodIn_r _ [5, 6, 7, 8, 4, 9, 10, 34, 35, 36, 37, 38, 39, 40, 41, 42, 43, 44, 45, 46, 47, 48, 49, 50, 51, 52, 53] (by decide +kernel) (by decide +kernel)
set_option maxRecDepth 20000 in
theorem gX12_readHouse_X12_houses : GoodIn wsX12_readHouse (wsV RX12 79 RX12 yX12_houses wsX12_houses) := goodIn_app (goodIn_of _ (by decide +kernel)) ggX12_readHouse_X12_houses
set_option maxRecDepth 20000 in
theorem ggX12_readHouse_X12_number : GoodIn wsX12_readHouse wsX12_number := goodIn_r _ [14, 15, 16, 17, 18, 19, 20, 4, 21, 22, 23, 24, 25, 26, 34, 35, 36, 37, 38, 39, 40, 41, 42, 43, 44, 45, 46, 47, 48, 49, 50, 51, 52, 53] (by decide +kernel) (by decide +kernel)
set_option maxRecDepth 20000 in
theorem gX12_readHouse_X12_number : GoodIn wsX12_readHouse (wsV RX12 121 RX12 yX12_number wsX12_number) := goodIn_app (goodIn_of _ (by decide +kernel)) ggX12_readHouse_X12_number
set_option maxRecDepth 20000 in
theorem ggX12_readHouse_X12_houseAt : GoodIn wsX12_readHouse wsX12_houseAt := goodIn_r _ [29] (by decide +kernel) (by decide +kernel)
set_option maxRecDepth 20000 in
theorem gX12_readHouse_X12_houseAt : GoodIn wsX12_readHouse (va_wsS RX12 66 yX12_houseAt wsX12_houseAt) := goodIn_app (goodIn_of _ (by decide +kernel)) ggX12_readHouse_X12_houseAt
set_option maxRecDepth 20000 in
theorem ggX12_readHouse_X12_readNumber : GoodIn wsX12_readHouse wsX12_readNumber := goodIn_r _ [33, 10, 11, 12, 13, 4, 14, 15, 16, 17, 18, 19, 20, 21, 22, 23, 24, 25, 26, 34, 35, 36, 37, 38, 39, 40, 41, 42, 43, 44, 45, 46, 47, 48, 49, 50, 51, 52, 53] (by decide +kernel) (by decide +kernel)
set_option maxRecDepth 20000 in
theorem gX12_readHouse_X12_readNumber : GoodIn wsX12_readHouse (wsV RX12 129 RX12 yX12_readNumber wsX12_readNumber) := goodIn_app (goodIn_of _ (by decide +kernel)) ggX12_readHouse_X12_readNumber
theorem dX12_readHouse_0 : decode cX12_readHouse 0 = .ok (.aload_n 0, 1) := by decide +kernel
theorem dX12_readHouse_1 : decode cX12_readHouse 1 = .ok (.iconst 0, 1) := by decide +kernel
theorem dX12_readHouse_2 : decode cX12_readHouse 2 = .ok (.aload_n 0, 1) := by decide +kernel
theorem dX12_readHouse_3 : decode cX12_readHouse 3 = .ok (.invokevirtual 79, 3) := by decide +kernel
theorem dX12_readHouse_6 : decode cX12_readHouse 6 = .ok (.iconst 1, 1) := by decide +kernel
theorem dX12_readHouse_7 : decode cX12_readHouse 7 = .ok (.isub, 1) := by decide +kernel
theorem dX12_readHouse_8 : decode cX12_readHouse 8 = .ok (.invokevirtual 121, 3) := by decide +kernel
theorem dX12_readHouse_11 : decode cX12_readHouse 11 = .ok (.istore_n 3, 1) := by decide +kernel
theorem dX12_readHouse_12 : decode cX12_readHouse 12 = .ok (.iload_n 3, 1) := by decide +kernel
theorem dX12_readHouse_13 : decode cX12_readHouse 13 = .ok (.ifCond .lt 21, 3) := by decide +kernel
theorem dX12_readHouse_16 : decode cX12_readHouse 16 = .ok (.aload_n 0, 1) := by decide +kernel
theorem dX12_readHouse_17 : decode cX12_readHouse 17 = .ok (.iload_n 3, 1) := by decide +kernel
theorem dX12_readHouse_18 : decode cX12_readHouse 18 = .ok (.iload_n 1, 1) := by decide +kernel
theorem dX12_readHouse_19 : decode cX12_readHouse 19 = .ok (.invokestatic 66, 3) := by decide +kernel
theorem dX12_readHouse_22 : decode cX12_readHouse 22 = .ok (.iconst 0, 1) := by decide +kernel
theorem dX12_readHouse_23 : decode cX12_readHouse 23 = .ok (.iload_n 2, 1) := by decide +kernel
theorem dX12_readHouse_24 : decode cX12_readHouse 24 = .ok (.invokevirtual 129, 3) := by decide +kernel
theorem dX12_readHouse_27 : decode cX12_readHouse 27 = .ok (.ifCond .eq 7, 3) := by decide +kernel
theorem dX12_readHouse_30 : decode cX12_readHouse 30 = .ok (.iconst 1, 1) := by decide +kernel
theorem dX12_readHouse_31 : decode cX12_readHouse 31 = .ok (.goto 4, 3) := by decide +kernel
theorem dX12_readHouse_34 : decode cX12_readHouse 34 = .ok (.iconst 0, 1) := by decide +kernel
theorem dX12_readHouse_35 : decode cX12_readHouse 35 = .ok (.ireturn, 1) := by decide +kernel
set_option maxRecDepth 20000 in
theorem ggX12_readThing_X12_things : GoodIn wsX12_readThing wsX12_things := goodIn_r _ [6, 1, 95, 96, 97, 98, 99, 100, 101, 102, 103, 104, 105, 106, 107, 108, 109, 110, 111, 112, 113, 114] (by decide +kernel) (by decide +kernel)
set_option maxRecDepth 20000 in
theorem gX12_readThing_X12_things : GoodIn wsX12_readThing (wsV RX12 82 RX12 yX12_things wsX12_things) := goodIn_app (goodIn_of _ (by decide +kernel)) ggX12_readThing_X12_things
set_option maxRecDepth 20000 in
theorem ggX12_readThing_X12_number : GoodIn wsX12_readThing wsX12_number := goodIn_r _ [10, 11, 12, 13, 14, 15, 16, 5, 17, 18, 19, 20, 21, 22, 95, 96, 97, 98, 99, 100, 101, 102, 103, 104, 105, 106, 107, 108, 109, 110, 111, 112, 113, 114] (by decide +kernel) (by decide +kernel)
set_option maxRecDepth 20000 in
theorem gX12_readThing_X12_number : GoodIn wsX12_readThing (wsV RX12 121 RX12 yX12_number wsX12_number) := goodIn_app (goodIn_of _ (by decide +kernel)) ggX12_readThing_X12_number
set_option maxRecDepth 20000 in
theorem ggX12_readThing_X12_after : GoodIn wsX12_readThing wsX12_after := goodIn_r _ [26, 27, 28, 29, 5, 30, 11, 14, 15, 16, 17, 12, 18, 19, 20, 21, 22, 13, 31, 32, 33, 34, 35, 36, 37, 38, 39, 40, 41, 42, 43, 44, 45, 46, 47, 48, 49, 50, 51, 52, 53, 54, 55, 56, 57, 58, 59, 60, 61, 62, 63, 64, 65, 66, 67, 68, 69, 70, 71, 72, 73, 74, 75, 76, 77, 78, 79, 80, 81, 82, 83, 7, 8, 9, 10, 95, 96, 97, 98, 99, 100, 101, 102, 103, 104, 105, 106, 107, 108, 109, 110, 111, 112, 113, 114] (by decide +kernel) (by decide +kernel)
set_option maxRecDepth 20000 in
theorem gX12_readThing_X12_after : GoodIn wsX12_readThing (wsV RX12 134 RX12 yX12_after wsX12_after) := goodIn_app (goodIn_of _ (by decide +kernel)) ggX12_readThing_X12_after
set_option maxRecDepth 20000 in
theorem ggX12_readThing_X12_houses : GoodIn wsX12_readThing wsX12_houses := goodIn_r _ [87, 88, 89, 90, 5, 91, 1, 95, 96, 97, 98, 99, 100, 101, 102, 103, 104, 105, 106, 107, 108, 109, 110, 111, 112, 113, 114] (by decide +kernel) (by decide +kernel)
set_option maxRecDepth 20000 in
theorem gX12_readThing_X12_houses : GoodIn wsX12_readThing (wsV RX12 79 RX12 yX12_houses wsX12_houses) := goodIn_app (goodIn_of _ (by decide +kernel)) ggX12_readThing_X12_houses
set_option maxRecDepth 20000 in
theorem ggX12_readThing_X12_thingAt : GoodIn wsX12_readThing wsX12_thingAt := goodIn_r _ [94] (by decide +kernel) (by decide +kernel)
set_option maxRecDepth 20000 in
theorem gX12_readThing_X12_thingAt : GoodIn wsX12_readThing (va_wsS RX12 69 yX12_thingAt wsX12_thingAt) := goodIn_app (goodIn_of _ (by decide +kernel)) ggX12_readThing_X12_thingAt
theorem dX12_readThing_0 : decode cX12_readThing 0 = .ok (.aload_n 0, 1) := by decide +kernel
theorem dX12_readThing_1 : decode cX12_readThing 1 = .ok (.invokevirtual 82, 3) := by decide +kernel
theorem dX12_readThing_4 : decode cX12_readThing 4 = .ok (.istore_n 1, 1) := by decide +kernel
theorem dX12_readThing_5 : decode cX12_readThing 5 = .ok (.iload_n 1, 1) := by decide +kernel
theorem dX12_readThing_6 : decode cX12_readThing 6 = .ok (.bipush 10, 2) := by decide +kernel
theorem dX12_readThing_8 : decode cX12_readThing 8 = .ok (.if_icmp .ne 5, 3) := by decide +kernel
theorem dX12_readThing_11 : decode cX12_readThing 11 = .ok (.iconst 0, 1) := by decide +kernel
theorem dX12_readThing_12 : decode cX12_readThing 12 = .ok (.ireturn, 1) := by decide +kernel
theorem dX12_readThing_13 : decode cX12_readThing 13 = .ok (.aload_n 0, 1) := by decide +kernel
theorem dX12_readThing_14 : decode cX12_readThing 14 = .ok (.iconst 1, 1) := by decide +kernel
theorem dX12_readThing_15 : decode cX12_readThing 15 = .ok (.bipush 60, 2) := by decide +kernel
theorem dX12_readThing_17 : decode cX12_readThing 17 = .ok (.invokevirtual 121, 3) := by decide +kernel
theorem dX12_readThing_20 : decode cX12_readThing 20 = .ok (.istore_n 2, 1) := by decide +kernel
theorem dX12_readThing_21 : decode cX12_readThing 21 = .ok (.iload_n 2, 1) := by decide +kernel
theorem dX12_readThing_22 : decode cX12_readThing 22 = .ok (.ifCond .ge 7, 3) := by decide +kernel
theorem dX12_readThing_25 : decode cX12_readThing 25 = .ok (.iconst (-1), 1) := by decide +kernel
theorem dX12_readThing_26 : decode cX12_readThing 26 = .ok (.goto 12, 3) := by decide +kernel
theorem dX12_readThing_29 : decode cX12_readThing 29 = .ok (.aload_n 0, 1) := by decide +kernel
theorem dX12_readThing_30 : decode cX12_readThing 30 = .ok (.ldc 132, 2) := by decide +kernel
theorem dX12_readThing_32 : decode cX12_readThing 32 = .ok (.iconst 0, 1) := by decide +kernel
theorem dX12_readThing_33 : decode cX12_readThing 33 = .ok (.bipush 99, 2) := by decide +kernel
theorem dX12_readThing_35 : decode cX12_readThing 35 = .ok (.invokevirtual 134, 3) := by decide +kernel
theorem dX12_readThing_38 : decode cX12_readThing 38 = .ok (.istore_n 3, 1) := by decide +kernel
theorem dX12_readThing_39 : decode cX12_readThing 39 = .ok (.iload_n 3, 1) := by decide +kernel
theorem dX12_readThing_40 : decode cX12_readThing 40 = .ok (.ifCond .ge 7, 3) := by decide +kernel
theorem dX12_readThing_43 : decode cX12_readThing 43 = .ok (.iconst (-1), 1) := by decide +kernel
theorem dX12_readThing_44 : decode cX12_readThing 44 = .ok (.goto 16, 3) := by decide +kernel
theorem dX12_readThing_47 : decode cX12_readThing 47 = .ok (.aload_n 0, 1) := by decide +kernel
theorem dX12_readThing_48 : decode cX12_readThing 48 = .ok (.ldc 138, 2) := by decide +kernel
theorem dX12_readThing_50 : decode cX12_readThing 50 = .ok (.iconst 0, 1) := by decide +kernel
theorem dX12_readThing_51 : decode cX12_readThing 51 = .ok (.aload_n 0, 1) := by decide +kernel
theorem dX12_readThing_52 : decode cX12_readThing 52 = .ok (.invokevirtual 79, 3) := by decide +kernel
theorem dX12_readThing_55 : decode cX12_readThing 55 = .ok (.iconst 1, 1) := by decide +kernel
theorem dX12_readThing_56 : decode cX12_readThing 56 = .ok (.isub, 1) := by decide +kernel
theorem dX12_readThing_57 : decode cX12_readThing 57 = .ok (.invokevirtual 134, 3) := by decide +kernel
theorem dX12_readThing_60 : decode cX12_readThing 60 = .ok (.istore 4, 2) := by decide +kernel
theorem dX12_readThing_62 : decode cX12_readThing 62 = .ok (.iload 4, 2) := by decide +kernel
theorem dX12_readThing_64 : decode cX12_readThing 64 = .ok (.ifCond .ge 5, 3) := by decide +kernel
theorem dX12_readThing_67 : decode cX12_readThing 67 = .ok (.iconst 0, 1) := by decide +kernel
theorem dX12_readThing_68 : decode cX12_readThing 68 = .ok (.ireturn, 1) := by decide +kernel
theorem dX12_readThing_69 : decode cX12_readThing 69 = .ok (.aload_n 0, 1) := by decide +kernel
theorem dX12_readThing_70 : decode cX12_readThing 70 = .ok (.getfield 13, 3) := by decide +kernel
theorem dX12_readThing_73 : decode cX12_readThing 73 = .ok (.iload_n 1, 1) := by decide +kernel
theorem dX12_readThing_74 : decode cX12_readThing 74 = .ok (.iconst 0, 1) := by decide +kernel
theorem dX12_readThing_75 : decode cX12_readThing 75 = .ok (.invokestatic 69, 3) := by decide +kernel
theorem dX12_readThing_78 : decode cX12_readThing 78 = .ok (.iload_n 2, 1) := by decide +kernel
theorem dX12_readThing_79 : decode cX12_readThing 79 = .ok (.iastore, 1) := by decide +kernel
theorem dX12_readThing_80 : decode cX12_readThing 80 = .ok (.aload_n 0, 1) := by decide +kernel
theorem dX12_readThing_81 : decode cX12_readThing 81 = .ok (.getfield 13, 3) := by decide +kernel
theorem dX12_readThing_84 : decode cX12_readThing 84 = .ok (.iload_n 1, 1) := by decide +kernel
theorem dX12_readThing_85 : decode cX12_readThing 85 = .ok (.iconst 1, 1) := by decide +kernel
theorem dX12_readThing_86 : decode cX12_readThing 86 = .ok (.invokestatic 69, 3) := by decide +kernel
theorem dX12_readThing_89 : decode cX12_readThing 89 = .ok (.iload_n 3, 1) := by decide +kernel
theorem dX12_readThing_90 : decode cX12_readThing 90 = .ok (.iastore, 1) := by decide +kernel
theorem dX12_readThing_91 : decode cX12_readThing 91 = .ok (.aload_n 0, 1) := by decide +kernel
theorem dX12_readThing_92 : decode cX12_readThing 92 = .ok (.getfield 13, 3) := by decide +kernel
theorem dX12_readThing_95 : decode cX12_readThing 95 = .ok (.iload_n 1, 1) := by decide +kernel
theorem dX12_readThing_96 : decode cX12_readThing 96 = .ok (.iconst 2, 1) := by decide +kernel
theorem dX12_readThing_97 : decode cX12_readThing 97 = .ok (.invokestatic 69, 3) := by decide +kernel
theorem dX12_readThing_100 : decode cX12_readThing 100 = .ok (.iload 4, 2) := by decide +kernel
theorem dX12_readThing_102 : decode cX12_readThing 102 = .ok (.iastore, 1) := by decide +kernel
theorem dX12_readThing_103 : decode cX12_readThing 103 = .ok (.aload_n 0, 1) := by decide +kernel
theorem dX12_readThing_104 : decode cX12_readThing 104 = .ok (.getfield 13, 3) := by decide +kernel
theorem dX12_readThing_107 : decode cX12_readThing 107 = .ok (.iconst 1, 1) := by decide +kernel
theorem dX12_readThing_108 : decode cX12_readThing 108 = .ok (.dup2, 1) := by decide +kernel
theorem dX12_readThing_109 : decode cX12_readThing 109 = .ok (.iaload, 1) := by decide +kernel
theorem dX12_readThing_110 : decode cX12_readThing 110 = .ok (.iconst 1, 1) := by decide +kernel
theorem dX12_readThing_111 : decode cX12_readThing 111 = .ok (.iadd, 1) := by decide +kernel
theorem dX12_readThing_112 : decode cX12_readThing 112 = .ok (.iastore, 1) := by decide +kernel
theorem dX12_readThing_113 : decode cX12_readThing 113 = .ok (.iconst 1, 1) := by decide +kernel
theorem dX12_readThing_114 : decode cX12_readThing 114 = .ok (.ireturn, 1) := by decide +kernel
set_option maxRecDepth 20000 in
theorem ggX12_readHillLine_X12_isWord : GoodIn wsX12_readHillLine wsX12_isWord := goodIn_r _ [5, 6, 7, 8, 9, 10, 11, 12, 13, 14, 15, 16, 17, 18, 19, 20, 21, 22, 23, 24, 25, 26, 27, 28, 29, 30, 31, 32, 33, 34, 35, 36, 37, 38, 39, 40, 41, 42, 43, 44, 45, 46, 47, 48, 49, 50, 51, 52, 53, 54, 55, 56, 57, 121, 122, 123, 124, 125, 126, 127, 128, 129, 130, 131, 132, 133, 134, 135, 136, 137, 138, 139, 140] (by decide +kernel) (by decide +kernel)
set_option maxRecDepth 20000 in
theorem gX12_readHillLine_X12_isWord : GoodIn wsX12_readHillLine (wsV RX12 117 RX12 yX12_isWord wsX12_isWord) := goodIn_app (goodIn_of _ (by decide +kernel)) ggX12_readHillLine_X12_isWord
set_option maxRecDepth 20000 in
theorem ggX12_readHillLine_X12_readPlank : GoodIn wsX12_readHillLine wsX12_readPlank := goodIn_r _ [61, 62, 63, 64, 65, 4, 66, 67, 68, 69, 70, 6, 7, 8, 71, 72, 73, 74, 75, 76, 77, 78, 79, 80, 81, 82, 83, 84, 85, 86, 87, 1, 2, 3, 5, 9, 10, 11, 12, 13, 14, 15, 16, 17, 18, 19, 20, 21, 22, 23, 24, 25, 26, 27, 28, 29, 30, 31, 32, 33, 34, 35, 36, 37, 38, 39, 40, 41, 42, 43, 44, 45, 46, 47, 48, 49, 50, 51, 52, 53, 54, 55, 56, 57, 88, 89, 90, 91, 92, 93, 121, 122, 123, 124, 125, 126, 127, 128, 129, 130, 131, 132, 133, 134, 135, 136, 137, 138, 139, 140] (by decide +kernel) (by decide +kernel)
set_option maxRecDepth 20000 in
theorem gX12_readHillLine_X12_readPlank : GoodIn wsX12_readHillLine (wsV RX12 141 RX12 yX12_readPlank wsX12_readPlank) := goodIn_app (goodIn_of _ (by decide +kernel)) ggX12_readHillLine_X12_readPlank
set_option maxRecDepth 20000 in
theorem ggX12_readHillLine_X12_readHouse : GoodIn wsX12_readHillLine wsX12_readHouse := goodIn_r _ [97, 98, 99, 100, 4, 101, 63, 64, 65, 66, 62, 67, 68, 69, 70, 6, 7, 8, 71, 72, 73, 74, 75, 76, 77, 78, 79, 91, 92, 93, 102, 103, 104, 105, 121, 122, 123, 124, 125, 126, 127, 128, 129, 130, 131, 132, 133, 134, 135, 136, 137, 138, 139, 140] (by decide +kernel) (by decide +kernel)
set_option maxRecDepth 20000 in
theorem gX12_readHillLine_X12_readHouse : GoodIn wsX12_readHillLine (wsV RX12 147 RX12 yX12_readHouse wsX12_readHouse) := goodIn_app (goodIn_of _ (by decide +kernel)) ggX12_readHillLine_X12_readHouse
set_option maxRecDepth 20000 in
theorem ggX12_readHillLine_X12_readThing : GoodIn wsX12_readHillLine wsX12_readThing := goodIn_r _ [109, 62, 110, 111, 112, 4, 113, 67, 68, 69, 70, 6, 7, 8, 71, 72, 73, 74, 75, 76, 77, 78, 79, 114, 115, 116, 117, 84, 85, 86, 87, 1, 2, 3, 5, 9, 10, 11, 12, 13, 14, 15, 16, 17, 18, 19, 20, 21, 22, 23, 24, 25, 26, 27, 28, 29, 30, 31, 32, 33, 34, 35, 36, 37, 38, 39, 40, 41, 42, 43, 44, 45, 46, 47, 48, 49, 50, 51, 52, 53, 54, 55, 56, 57, 98, 99, 100, 101, 63, 64, 65, 66, 118, 119, 120, 121, 122, 123, 124, 125, 126, 127, 128, 129, 130, 131, 132, 133, 134, 135, 136, 137, 138, 139, 140] (by decide +kernel) (by decide +kernel)
set_option maxRecDepth 20000 in
theorem gX12_readHillLine_X12_readThing : GoodIn wsX12_readHillLine (wsV RX12 154 RX12 yX12_readThing wsX12_readThing) := goodIn_app (goodIn_of _ (by decide +kernel)) ggX12_readHillLine_X12_readThing
set_option maxRecDepth 20000 in
theorem ggX12_readHillLine_X12_readNumber : GoodIn wsX12_readHillLine wsX12_readNumber := goodIn_r _ [105, 62, 67, 68, 69, 4, 70, 6, 7, 8, 71, 72, 73, 74, 75, 76, 77, 78, 79, 121, 122, 123, 124, 125, 126, 127, 128, 129, 130, 131, 132, 133, 134, 135, 136, 137, 138, 139, 140] (by decide +kernel) (by decide +kernel)
set_option maxRecDepth 20000 in
theorem gX12_readHillLine_X12_readNumber : GoodIn wsX12_readHillLine (wsV RX12 129 RX12 yX12_readNumber wsX12_readNumber) := goodIn_app (goodIn_of _ (by decide +kernel)) ggX12_readHillLine_X12_readNumber
theorem dX12_readHillLine_0 : decode cX12_readHillLine 0 = .ok (.aload_n 0, 1) := by decide +kernel
theorem dX12_readHillLine_1 : decode cX12_readHillLine 1 = .ok (.ldc 139, 2) := by decide +kernel
theorem dX12_readHillLine_3 : decode cX12_readHillLine 3 = .ok (.invokevirtual 117, 3) := by decide +kernel
theorem dX12_readHillLine_6 : decode cX12_readHillLine 6 = .ok (.ifCond .eq 8, 3) := by decide +kernel
theorem dX12_readHillLine_9 : decode cX12_readHillLine 9 = .ok (.aload_n 0, 1) := by decide +kernel
theorem dX12_readHillLine_10 : decode cX12_readHillLine 10 = .ok (.invokevirtual 141, 3) := by decide +kernel
theorem dX12_readHillLine_13 : decode cX12_readHillLine 13 = .ok (.ireturn, 1) := by decide +kernel
theorem dX12_readHillLine_14 : decode cX12_readHillLine 14 = .ok (.aload_n 0, 1) := by decide +kernel
theorem dX12_readHillLine_15 : decode cX12_readHillLine 15 = .ok (.ldc 145, 2) := by decide +kernel
theorem dX12_readHillLine_17 : decode cX12_readHillLine 17 = .ok (.invokevirtual 117, 3) := by decide +kernel
theorem dX12_readHillLine_20 : decode cX12_readHillLine 20 = .ok (.ifCond .eq 12, 3) := by decide +kernel
theorem dX12_readHillLine_23 : decode cX12_readHillLine 23 = .ok (.aload_n 0, 1) := by decide +kernel
theorem dX12_readHillLine_24 : decode cX12_readHillLine 24 = .ok (.iconst 0, 1) := by decide +kernel
theorem dX12_readHillLine_25 : decode cX12_readHillLine 25 = .ok (.sipush 999, 3) := by decide +kernel
theorem dX12_readHillLine_28 : decode cX12_readHillLine 28 = .ok (.invokevirtual 147, 3) := by decide +kernel
theorem dX12_readHillLine_31 : decode cX12_readHillLine 31 = .ok (.ireturn, 1) := by decide +kernel
theorem dX12_readHillLine_32 : decode cX12_readHillLine 32 = .ok (.aload_n 0, 1) := by decide +kernel
theorem dX12_readHillLine_33 : decode cX12_readHillLine 33 = .ok (.ldc 150, 2) := by decide +kernel
theorem dX12_readHillLine_35 : decode cX12_readHillLine 35 = .ok (.invokevirtual 117, 3) := by decide +kernel
theorem dX12_readHillLine_38 : decode cX12_readHillLine 38 = .ok (.ifCond .eq 11, 3) := by decide +kernel
theorem dX12_readHillLine_41 : decode cX12_readHillLine 41 = .ok (.aload_n 0, 1) := by decide +kernel
theorem dX12_readHillLine_42 : decode cX12_readHillLine 42 = .ok (.iconst 1, 1) := by decide +kernel
theorem dX12_readHillLine_43 : decode cX12_readHillLine 43 = .ok (.bipush 9, 2) := by decide +kernel
theorem dX12_readHillLine_45 : decode cX12_readHillLine 45 = .ok (.invokevirtual 147, 3) := by decide +kernel
theorem dX12_readHillLine_48 : decode cX12_readHillLine 48 = .ok (.ireturn, 1) := by decide +kernel
theorem dX12_readHillLine_49 : decode cX12_readHillLine 49 = .ok (.aload_n 0, 1) := by decide +kernel
theorem dX12_readHillLine_50 : decode cX12_readHillLine 50 = .ok (.ldc 152, 2) := by decide +kernel
theorem dX12_readHillLine_52 : decode cX12_readHillLine 52 = .ok (.invokevirtual 117, 3) := by decide +kernel
theorem dX12_readHillLine_55 : decode cX12_readHillLine 55 = .ok (.ifCond .eq 8, 3) := by decide +kernel
theorem dX12_readHillLine_58 : decode cX12_readHillLine 58 = .ok (.aload_n 0, 1) := by decide +kernel
theorem dX12_readHillLine_59 : decode cX12_readHillLine 59 = .ok (.invokevirtual 154, 3) := by decide +kernel
theorem dX12_readHillLine_62 : decode cX12_readHillLine 62 = .ok (.ireturn, 1) := by decide +kernel
theorem dX12_readHillLine_63 : decode cX12_readHillLine 63 = .ok (.aload_n 0, 1) := by decide +kernel
theorem dX12_readHillLine_64 : decode cX12_readHillLine 64 = .ok (.ldc 157, 2) := by decide +kernel
theorem dX12_readHillLine_66 : decode cX12_readHillLine 66 = .ok (.invokevirtual 117, 3) := by decide +kernel
theorem dX12_readHillLine_69 : decode cX12_readHillLine 69 = .ok (.ifCond .eq 12, 3) := by decide +kernel
theorem dX12_readHillLine_72 : decode cX12_readHillLine 72 = .ok (.aload_n 0, 1) := by decide +kernel
theorem dX12_readHillLine_73 : decode cX12_readHillLine 73 = .ok (.iconst 5, 1) := by decide +kernel
theorem dX12_readHillLine_74 : decode cX12_readHillLine 74 = .ok (.iconst 0, 1) := by decide +kernel
theorem dX12_readHillLine_75 : decode cX12_readHillLine 75 = .ok (.bipush 99, 2) := by decide +kernel
theorem dX12_readHillLine_77 : decode cX12_readHillLine 77 = .ok (.invokevirtual 129, 3) := by decide +kernel
theorem dX12_readHillLine_80 : decode cX12_readHillLine 80 = .ok (.ireturn, 1) := by decide +kernel
theorem dX12_readHillLine_81 : decode cX12_readHillLine 81 = .ok (.aload_n 0, 1) := by decide +kernel
theorem dX12_readHillLine_82 : decode cX12_readHillLine 82 = .ok (.ldc 159, 2) := by decide +kernel
theorem dX12_readHillLine_84 : decode cX12_readHillLine 84 = .ok (.invokevirtual 117, 3) := by decide +kernel
theorem dX12_readHillLine_87 : decode cX12_readHillLine 87 = .ok (.ifCond .eq 13, 3) := by decide +kernel
theorem dX12_readHillLine_90 : decode cX12_readHillLine 90 = .ok (.aload_n 0, 1) := by decide +kernel
theorem dX12_readHillLine_91 : decode cX12_readHillLine 91 = .ok (.bipush 6, 2) := by decide +kernel
theorem dX12_readHillLine_93 : decode cX12_readHillLine 93 = .ok (.iconst 1, 1) := by decide +kernel
theorem dX12_readHillLine_94 : decode cX12_readHillLine 94 = .ok (.bipush 40, 2) := by decide +kernel
theorem dX12_readHillLine_96 : decode cX12_readHillLine 96 = .ok (.invokevirtual 129, 3) := by decide +kernel
theorem dX12_readHillLine_99 : decode cX12_readHillLine 99 = .ok (.ireturn, 1) := by decide +kernel
theorem dX12_readHillLine_100 : decode cX12_readHillLine 100 = .ok (.aload_n 0, 1) := by decide +kernel
theorem dX12_readHillLine_101 : decode cX12_readHillLine 101 = .ok (.ldc 161, 2) := by decide +kernel
theorem dX12_readHillLine_103 : decode cX12_readHillLine 103 = .ok (.invokevirtual 117, 3) := by decide +kernel
theorem dX12_readHillLine_106 : decode cX12_readHillLine 106 = .ok (.ifCond .eq 13, 3) := by decide +kernel
theorem dX12_readHillLine_109 : decode cX12_readHillLine 109 = .ok (.aload_n 0, 1) := by decide +kernel
theorem dX12_readHillLine_110 : decode cX12_readHillLine 110 = .ok (.bipush 7, 2) := by decide +kernel
theorem dX12_readHillLine_112 : decode cX12_readHillLine 112 = .ok (.iconst 0, 1) := by decide +kernel
theorem dX12_readHillLine_113 : decode cX12_readHillLine 113 = .ok (.bipush 100, 2) := by decide +kernel
theorem dX12_readHillLine_115 : decode cX12_readHillLine 115 = .ok (.invokevirtual 129, 3) := by decide +kernel
theorem dX12_readHillLine_118 : decode cX12_readHillLine 118 = .ok (.ireturn, 1) := by decide +kernel
theorem dX12_readHillLine_119 : decode cX12_readHillLine 119 = .ok (.aload_n 0, 1) := by decide +kernel
theorem dX12_readHillLine_120 : decode cX12_readHillLine 120 = .ok (.ldc 163, 2) := by decide +kernel
theorem dX12_readHillLine_122 : decode cX12_readHillLine 122 = .ok (.invokevirtual 117, 3) := by decide +kernel
theorem dX12_readHillLine_125 : decode cX12_readHillLine 125 = .ok (.ifCond .eq 13, 3) := by decide +kernel
theorem dX12_readHillLine_128 : decode cX12_readHillLine 128 = .ok (.aload_n 0, 1) := by decide +kernel
theorem dX12_readHillLine_129 : decode cX12_readHillLine 129 = .ok (.bipush 8, 2) := by decide +kernel
theorem dX12_readHillLine_131 : decode cX12_readHillLine 131 = .ok (.iconst 0, 1) := by decide +kernel
theorem dX12_readHillLine_132 : decode cX12_readHillLine 132 = .ok (.bipush 100, 2) := by decide +kernel
theorem dX12_readHillLine_134 : decode cX12_readHillLine 134 = .ok (.invokevirtual 129, 3) := by decide +kernel
theorem dX12_readHillLine_137 : decode cX12_readHillLine 137 = .ok (.ireturn, 1) := by decide +kernel
theorem dX12_readHillLine_138 : decode cX12_readHillLine 138 = .ok (.aload_n 0, 1) := by decide +kernel
theorem dX12_readHillLine_139 : decode cX12_readHillLine 139 = .ok (.ldc 165, 2) := by decide +kernel
theorem dX12_readHillLine_141 : decode cX12_readHillLine 141 = .ok (.invokevirtual 117, 3) := by decide +kernel
theorem dX12_readHillLine_144 : decode cX12_readHillLine 144 = .ok (.ifCond .eq 19, 3) := by decide +kernel
theorem dX12_readHillLine_147 : decode cX12_readHillLine 147 = .ok (.aload_n 0, 1) := by decide +kernel
theorem dX12_readHillLine_148 : decode cX12_readHillLine 148 = .ok (.bipush 9, 2) := by decide +kernel
theorem dX12_readHillLine_150 : decode cX12_readHillLine 150 = .ok (.iconst 0, 1) := by decide +kernel
theorem dX12_readHillLine_151 : decode cX12_readHillLine 151 = .ok (.bipush 99, 2) := by decide +kernel
theorem dX12_readHillLine_153 : decode cX12_readHillLine 153 = .ok (.invokevirtual 129, 3) := by decide +kernel
theorem dX12_readHillLine_156 : decode cX12_readHillLine 156 = .ok (.ifCond .eq 7, 3) := by decide +kernel
theorem dX12_readHillLine_159 : decode cX12_readHillLine 159 = .ok (.iconst 1, 1) := by decide +kernel
theorem dX12_readHillLine_160 : decode cX12_readHillLine 160 = .ok (.goto 4, 3) := by decide +kernel
theorem dX12_readHillLine_163 : decode cX12_readHillLine 163 = .ok (.iconst 0, 1) := by decide +kernel
theorem dX12_readHillLine_164 : decode cX12_readHillLine 164 = .ok (.ireturn, 1) := by decide +kernel
theorem dX12_emits_0 : decode cX12_emits 0 = .ok (.aload_n 0, 1) := by decide +kernel
theorem dX12_emits_1 : decode cX12_emits 1 = .ok (.getfield 13, 3) := by decide +kernel
theorem dX12_emits_4 : decode cX12_emits 4 = .ok (.sipush 1280, 3) := by decide +kernel
theorem dX12_emits_7 : decode cX12_emits 7 = .ok (.iconst 2, 1) := by decide +kernel
theorem dX12_emits_8 : decode cX12_emits 8 = .ok (.aload_n 0, 1) := by decide +kernel
theorem dX12_emits_9 : decode cX12_emits 9 = .ok (.getfield 167, 3) := by decide +kernel
theorem dX12_emits_12 : decode cX12_emits 12 = .ok (.imul, 1) := by decide +kernel
theorem dX12_emits_13 : decode cX12_emits 13 = .ok (.iadd, 1) := by decide +kernel
theorem dX12_emits_14 : decode cX12_emits 14 = .ok (.iload_n 1, 1) := by decide +kernel
theorem dX12_emits_15 : decode cX12_emits 15 = .ok (.iastore, 1) := by decide +kernel
theorem dX12_emits_16 : decode cX12_emits 16 = .ok (.aload_n 0, 1) := by decide +kernel
theorem dX12_emits_17 : decode cX12_emits 17 = .ok (.getfield 13, 3) := by decide +kernel
theorem dX12_emits_20 : decode cX12_emits 20 = .ok (.sipush 1280, 3) := by decide +kernel
theorem dX12_emits_23 : decode cX12_emits 23 = .ok (.iconst 2, 1) := by decide +kernel
theorem dX12_emits_24 : decode cX12_emits 24 = .ok (.aload_n 0, 1) := by decide +kernel
theorem dX12_emits_25 : decode cX12_emits 25 = .ok (.getfield 167, 3) := by decide +kernel
theorem dX12_emits_28 : decode cX12_emits 28 = .ok (.imul, 1) := by decide +kernel
theorem dX12_emits_29 : decode cX12_emits 29 = .ok (.iadd, 1) := by decide +kernel
theorem dX12_emits_30 : decode cX12_emits 30 = .ok (.iconst 1, 1) := by decide +kernel
theorem dX12_emits_31 : decode cX12_emits 31 = .ok (.iadd, 1) := by decide +kernel
theorem dX12_emits_32 : decode cX12_emits 32 = .ok (.iload_n 2, 1) := by decide +kernel
theorem dX12_emits_33 : decode cX12_emits 33 = .ok (.iastore, 1) := by decide +kernel
theorem dX12_emits_34 : decode cX12_emits 34 = .ok (.aload_n 0, 1) := by decide +kernel
theorem dX12_emits_35 : decode cX12_emits 35 = .ok (.dup, 1) := by decide +kernel
theorem dX12_emits_36 : decode cX12_emits 36 = .ok (.getfield 167, 3) := by decide +kernel
theorem dX12_emits_39 : decode cX12_emits 39 = .ok (.iconst 1, 1) := by decide +kernel
theorem dX12_emits_40 : decode cX12_emits 40 = .ok (.iadd, 1) := by decide +kernel
theorem dX12_emits_41 : decode cX12_emits 41 = .ok (.putfield 167, 3) := by decide +kernel
theorem dX12_emits_44 : decode cX12_emits 44 = .ok (.return_, 1) := by decide +kernel
set_option maxRecDepth 20000 in
theorem ggX12_readPart_X12_letters : GoodIn wsX12_readPart wsX12_letters := goodIn_r _ [7, 1, 8, 9, 10, 6, 11, 2, 12, 13, 14, 15, 16, 17, 81, 82, 83, 84, 85, 86, 87, 88, 89, 90, 91, 92, 93, 94, 95, 96, 97, 98, 99, 100] (by decide +kernel) (by decide +kernel)
set_option maxRecDepth 20000 in
theorem gX12_readPart_X12_letters : GoodIn wsX12_readPart (wsV RX12 114 RX12 yX12_letters wsX12_letters) := goodIn_app (goodIn_of _ (by decide +kernel)) ggX12_readPart_X12_letters
set_option maxRecDepth 20000 in
theorem ggX12_readPart_X12_number : GoodIn wsX12_readPart wsX12_number := goodIn_r _ [21, 1, 2, 17, 8, 9, 10, 6, 11, 12, 13, 14, 15, 16, 81, 82, 83, 84, 85, 86, 87, 88, 89, 90, 91, 92, 93, 94, 95, 96, 97, 98, 99, 100] (by decide +kernel) (by decide +kernel)
set_option maxRecDepth 20000 in
theorem gX12_readPart_X12_number : GoodIn wsX12_readPart (wsV RX12 121 RX12 yX12_number wsX12_number) := goodIn_app (goodIn_of _ (by decide +kernel)) ggX12_readPart_X12_number
set_option maxRecDepth 20000 in
theorem ggX12_readPart_X12_emits : GoodIn wsX12_readPart wsX12_emits := goodIn_r _ [25, 26, 27, 81, 82, 83, 84, 85, 86, 87, 88, 89, 90, 91, 92, 93, 94, 95, 96, 97, 98, 99, 100] (by decide +kernel) (by decide +kernel)
set_option maxRecDepth 20000 in
theorem gX12_readPart_X12_emits : GoodIn wsX12_readPart (wsV RX12 170 RX12 yX12_emits wsX12_emits) := goodIn_app (goodIn_of _ (by decide +kernel)) ggX12_readPart_X12_emits
set_option maxRecDepth 20000 in
theorem ggX12_readPart_X12_isWord : GoodIn wsX12_readPart wsX12_isWord := goodIn_r _ [31, 1, 2, 17, 32, 33, 34, 35, 36, 37, 38, 39, 40, 41, 42, 43, 44, 45, 46, 47, 48, 49, 50, 51, 52, 53, 54, 55, 56, 57, 58, 59, 60, 61, 62, 63, 64, 65, 66, 67, 68, 69, 70, 71, 72, 73, 74, 75, 76, 77, 78, 79, 80, 81, 82, 83, 84, 85, 86, 87, 88, 89, 90, 91, 92, 93, 94, 95, 96, 97, 98, 99, 100] (by decide +kernel) (by decide +kernel)
set_option maxRecDepth 20000 in
theorem gX12_readPart_X12_isWord : GoodIn wsX12_readPart (wsV RX12 117 RX12 yX12_isWord wsX12_isWord) := goodIn_app (goodIn_of _ (by decide +kernel)) ggX12_readPart_X12_isWord
theorem dX12_readPart_0 : decode cX12_readPart 0 = .ok (.aload_n 0, 1) := by decide +kernel
theorem dX12_readPart_1 : decode cX12_readPart 1 = .ok (.invokevirtual 114, 3) := by decide +kernel
theorem dX12_readPart_4 : decode cX12_readPart 4 = .ok (.aload_n 0, 1) := by decide +kernel
theorem dX12_readPart_5 : decode cX12_readPart 5 = .ok (.getfield 89, 3) := by decide +kernel
theorem dX12_readPart_8 : decode cX12_readPart 8 = .ok (.aload_n 0, 1) := by decide +kernel
theorem dX12_readPart_9 : decode cX12_readPart 9 = .ok (.getfield 99, 3) := by decide +kernel
theorem dX12_readPart_12 : decode cX12_readPart 12 = .ok (.if_icmp .ne 22, 3) := by decide +kernel
theorem dX12_readPart_15 : decode cX12_readPart 15 = .ok (.aload_n 0, 1) := by decide +kernel
theorem dX12_readPart_16 : decode cX12_readPart 16 = .ok (.iconst 0, 1) := by decide +kernel
theorem dX12_readPart_17 : decode cX12_readPart 17 = .ok (.sipush 999, 3) := by decide +kernel
theorem dX12_readPart_20 : decode cX12_readPart 20 = .ok (.invokevirtual 121, 3) := by decide +kernel
theorem dX12_readPart_23 : decode cX12_readPart 23 = .ok (.istore_n 1, 1) := by decide +kernel
theorem dX12_readPart_24 : decode cX12_readPart 24 = .ok (.aload_n 0, 1) := by decide +kernel
theorem dX12_readPart_25 : decode cX12_readPart 25 = .ok (.bipush 8, 2) := by decide +kernel
theorem dX12_readPart_27 : decode cX12_readPart 27 = .ok (.iload_n 1, 1) := by decide +kernel
theorem dX12_readPart_28 : decode cX12_readPart 28 = .ok (.invokevirtual 170, 3) := by decide +kernel
theorem dX12_readPart_31 : decode cX12_readPart 31 = .ok (.goto 89, 3) := by decide +kernel
theorem dX12_readPart_34 : decode cX12_readPart 34 = .ok (.aload_n 0, 1) := by decide +kernel
theorem dX12_readPart_35 : decode cX12_readPart 35 = .ok (.ldc 174, 2) := by decide +kernel
theorem dX12_readPart_37 : decode cX12_readPart 37 = .ok (.invokevirtual 117, 3) := by decide +kernel
theorem dX12_readPart_40 : decode cX12_readPart 40 = .ok (.ifCond .eq 7, 3) := by decide +kernel
theorem dX12_readPart_43 : decode cX12_readPart 43 = .ok (.iconst 0, 1) := by decide +kernel
theorem dX12_readPart_44 : decode cX12_readPart 44 = .ok (.goto 69, 3) := by decide +kernel
theorem dX12_readPart_47 : decode cX12_readPart 47 = .ok (.aload_n 0, 1) := by decide +kernel
theorem dX12_readPart_48 : decode cX12_readPart 48 = .ok (.ldc 176, 2) := by decide +kernel
theorem dX12_readPart_50 : decode cX12_readPart 50 = .ok (.invokevirtual 117, 3) := by decide +kernel
theorem dX12_readPart_53 : decode cX12_readPart 53 = .ok (.ifCond .eq 7, 3) := by decide +kernel
theorem dX12_readPart_56 : decode cX12_readPart 56 = .ok (.iconst 1, 1) := by decide +kernel
theorem dX12_readPart_57 : decode cX12_readPart 57 = .ok (.goto 56, 3) := by decide +kernel
theorem dX12_readPart_60 : decode cX12_readPart 60 = .ok (.aload_n 0, 1) := by decide +kernel
theorem dX12_readPart_61 : decode cX12_readPart 61 = .ok (.ldc 178, 2) := by decide +kernel
theorem dX12_readPart_63 : decode cX12_readPart 63 = .ok (.invokevirtual 117, 3) := by decide +kernel
theorem dX12_readPart_66 : decode cX12_readPart 66 = .ok (.ifCond .eq 7, 3) := by decide +kernel
theorem dX12_readPart_69 : decode cX12_readPart 69 = .ok (.iconst 2, 1) := by decide +kernel
theorem dX12_readPart_70 : decode cX12_readPart 70 = .ok (.goto 43, 3) := by decide +kernel
theorem dX12_readPart_73 : decode cX12_readPart 73 = .ok (.aload_n 0, 1) := by decide +kernel
theorem dX12_readPart_74 : decode cX12_readPart 74 = .ok (.ldc 150, 2) := by decide +kernel
theorem dX12_readPart_76 : decode cX12_readPart 76 = .ok (.invokevirtual 117, 3) := by decide +kernel
theorem dX12_readPart_79 : decode cX12_readPart 79 = .ok (.ifCond .eq 7, 3) := by decide +kernel
theorem dX12_readPart_82 : decode cX12_readPart 82 = .ok (.iconst 3, 1) := by decide +kernel
theorem dX12_readPart_83 : decode cX12_readPart 83 = .ok (.goto 30, 3) := by decide +kernel
theorem dX12_readPart_86 : decode cX12_readPart 86 = .ok (.aload_n 0, 1) := by decide +kernel
theorem dX12_readPart_87 : decode cX12_readPart 87 = .ok (.ldc 180, 2) := by decide +kernel
theorem dX12_readPart_89 : decode cX12_readPart 89 = .ok (.invokevirtual 117, 3) := by decide +kernel
theorem dX12_readPart_92 : decode cX12_readPart 92 = .ok (.ifCond .eq 7, 3) := by decide +kernel
theorem dX12_readPart_95 : decode cX12_readPart 95 = .ok (.iconst 4, 1) := by decide +kernel
theorem dX12_readPart_96 : decode cX12_readPart 96 = .ok (.goto 17, 3) := by decide +kernel
theorem dX12_readPart_99 : decode cX12_readPart 99 = .ok (.aload_n 0, 1) := by decide +kernel
theorem dX12_readPart_100 : decode cX12_readPart 100 = .ok (.ldc 182, 2) := by decide +kernel
theorem dX12_readPart_102 : decode cX12_readPart 102 = .ok (.invokevirtual 117, 3) := by decide +kernel
theorem dX12_readPart_105 : decode cX12_readPart 105 = .ok (.ifCond .eq 7, 3) := by decide +kernel
theorem dX12_readPart_108 : decode cX12_readPart 108 = .ok (.iconst 5, 1) := by decide +kernel
theorem dX12_readPart_109 : decode cX12_readPart 109 = .ok (.goto 4, 3) := by decide +kernel
theorem dX12_readPart_112 : decode cX12_readPart 112 = .ok (.iconst (-1), 1) := by decide +kernel
theorem dX12_readPart_113 : decode cX12_readPart 113 = .ok (.istore_n 1, 1) := by decide +kernel
theorem dX12_readPart_114 : decode cX12_readPart 114 = .ok (.aload_n 0, 1) := by decide +kernel
theorem dX12_readPart_115 : decode cX12_readPart 115 = .ok (.iload_n 1, 1) := by decide +kernel
theorem dX12_readPart_116 : decode cX12_readPart 116 = .ok (.iconst 0, 1) := by decide +kernel
theorem dX12_readPart_117 : decode cX12_readPart 117 = .ok (.invokevirtual 170, 3) := by decide +kernel
theorem dX12_readPart_120 : decode cX12_readPart 120 = .ok (.iload_n 1, 1) := by decide +kernel
theorem dX12_readPart_121 : decode cX12_readPart 121 = .ok (.ifCond .lt 7, 3) := by decide +kernel
theorem dX12_readPart_124 : decode cX12_readPart 124 = .ok (.iconst 1, 1) := by decide +kernel
theorem dX12_readPart_125 : decode cX12_readPart 125 = .ok (.goto 4, 3) := by decide +kernel
theorem dX12_readPart_128 : decode cX12_readPart 128 = .ok (.iconst 0, 1) := by decide +kernel
theorem dX12_readPart_129 : decode cX12_readPart 129 = .ok (.ireturn, 1) := by decide +kernel
set_option maxRecDepth 20000 in
theorem ggX12_readSum_X12_readPart : GoodIn wsX12_readSum wsX12_readPart := goodIn_r _ [5, 6, 7, 8, 9, 10, 4, 11, 12, 13, 14, 15, 16, 17, 18, 19, 20, 21, 22, 23, 24, 25, 26, 27, 28, 29, 30, 31, 32, 33, 34, 35, 36, 37, 38, 39, 40, 41, 42, 43, 44, 45, 46, 47, 48, 49, 50, 51, 52, 53, 54, 55, 56, 57, 58, 59, 60, 61, 62, 63, 64, 65, 66, 67, 68, 69, 70, 71, 72, 73, 74, 75, 76, 77, 78, 79, 80, 81, 82, 83, 84, 89, 90, 91, 92, 93, 94, 95, 96, 97, 98, 99, 100, 101, 102, 103, 104, 105, 106, 107, 108] (by decide +kernel) (by decide +kernel)
set_option maxRecDepth 20000 in
theorem gX12_readSum_X12_readPart : GoodIn wsX12_readSum (wsV RX12 184 RX12 yX12_readPart wsX12_readPart) := goodIn_app (goodIn_of _ (by decide +kernel)) ggX12_readSum_X12_readPart
set_option maxRecDepth 20000 in
theorem ggX12_readSum_X12_sign : GoodIn wsX12_readSum wsX12_sign := goodIn_r _ [88, 6, 12, 13, 14, 4, 15, 7, 16, 17, 18, 19, 20, 21, 89, 90, 91, 92, 93, 94, 95, 96, 97, 98, 99, 100, 101, 102, 103, 104, 105, 106, 107, 108] (by decide +kernel) (by decide +kernel)
set_option maxRecDepth 20000 in
theorem gX12_readSum_X12_sign : GoodIn wsX12_readSum (wsV RX12 187 RX12 yX12_sign wsX12_sign) := goodIn_app (goodIn_of _ (by decide +kernel)) ggX12_readSum_X12_sign
set_option maxRecDepth 20000 in
theorem ggX12_readSum_X12_emits : GoodIn wsX12_readSum wsX12_emits := goodIn_r _ [29, 30, 31, 89, 90, 91, 92, 93, 94, 95, 96, 97, 98, 99, 100, 101, 102, 103, 104, 105, 106, 107, 108] (by decide +kernel) (by decide +kernel)
set_option maxRecDepth 20000 in
theorem gX12_readSum_X12_emits : GoodIn wsX12_readSum (wsV RX12 170 RX12 yX12_emits wsX12_emits) := goodIn_app (goodIn_of _ (by decide +kernel)) ggX12_readSum_X12_emits
theorem dX12_readSum_0 : decode cX12_readSum 0 = .ok (.aload_n 0, 1) := by decide +kernel
theorem dX12_readSum_1 : decode cX12_readSum 1 = .ok (.invokevirtual 184, 3) := by decide +kernel
theorem dX12_readSum_4 : decode cX12_readSum 4 = .ok (.ifCond .ne 5, 3) := by decide +kernel
theorem dX12_readSum_7 : decode cX12_readSum 7 = .ok (.iconst 0, 1) := by decide +kernel
theorem dX12_readSum_8 : decode cX12_readSum 8 = .ok (.ireturn, 1) := by decide +kernel
theorem dX12_readSum_9 : decode cX12_readSum 9 = .ok (.aload_n 0, 1) := by decide +kernel
theorem dX12_readSum_10 : decode cX12_readSum 10 = .ok (.bipush 43, 2) := by decide +kernel
theorem dX12_readSum_12 : decode cX12_readSum 12 = .ok (.invokevirtual 187, 3) := by decide +kernel
theorem dX12_readSum_15 : decode cX12_readSum 15 = .ok (.ifCond .eq 22, 3) := by decide +kernel
theorem dX12_readSum_18 : decode cX12_readSum 18 = .ok (.aload_n 0, 1) := by decide +kernel
theorem dX12_readSum_19 : decode cX12_readSum 19 = .ok (.invokevirtual 184, 3) := by decide +kernel
theorem dX12_readSum_22 : decode cX12_readSum 22 = .ok (.ifCond .ne 5, 3) := by decide +kernel
theorem dX12_readSum_25 : decode cX12_readSum 25 = .ok (.iconst 0, 1) := by decide +kernel
theorem dX12_readSum_26 : decode cX12_readSum 26 = .ok (.ireturn, 1) := by decide +kernel
theorem dX12_readSum_27 : decode cX12_readSum 27 = .ok (.aload_n 0, 1) := by decide +kernel
theorem dX12_readSum_28 : decode cX12_readSum 28 = .ok (.bipush 9, 2) := by decide +kernel
theorem dX12_readSum_30 : decode cX12_readSum 30 = .ok (.iconst 0, 1) := by decide +kernel
theorem dX12_readSum_31 : decode cX12_readSum 31 = .ok (.invokevirtual 170, 3) := by decide +kernel
theorem dX12_readSum_34 : decode cX12_readSum 34 = .ok (.goto (-25), 3) := by decide +kernel
theorem dX12_readSum_37 : decode cX12_readSum 37 = .ok (.iconst 1, 1) := by decide +kernel
theorem dX12_readSum_38 : decode cX12_readSum 38 = .ok (.ireturn, 1) := by decide +kernel
set_option maxRecDepth 20000 in
theorem ggX12_readTag_X12_letters : GoodIn wsX12_readTag wsX12_letters := goodIn_r _ [7, 2, 8, 9, 10, 6, 11, 1, 12, 13, 14, 15, 16, 17, 77, 78, 79, 80, 81, 82, 83, 84, 85, 86, 87, 88, 89, 90, 91, 92, 93, 94, 95, 96] (by decide +kernel) (by decide +kernel)
set_option maxRecDepth 20000 in
theorem gX12_readTag_X12_letters : GoodIn wsX12_readTag (wsV RX12 114 RX12 yX12_letters wsX12_letters) := goodIn_app (goodIn_of _ (by decide +kernel)) ggX12_readTag_X12_letters
set_option maxRecDepth 20000 in
theorem ggX12_readTag_X12_isWord : GoodIn wsX12_readTag wsX12_isWord := goodIn_r _ [21, 2, 1, 17, 22, 23, 24, 25, 26, 27, 28, 29, 30, 31, 32, 33, 34, 35, 36, 37, 38, 39, 40, 41, 42, 43, 44, 45, 46, 47, 48, 49, 50, 51, 52, 53, 54, 55, 56, 57, 58, 59, 60, 61, 62, 63, 64, 65, 66, 67, 68, 69, 70, 77, 78, 79, 80, 81, 82, 83, 84, 85, 86, 87, 88, 89, 90, 91, 92, 93, 94, 95, 96] (by decide +kernel) (by decide +kernel)
set_option maxRecDepth 20000 in
theorem gX12_readTag_X12_isWord : GoodIn wsX12_readTag (wsV RX12 117 RX12 yX12_isWord wsX12_isWord) := goodIn_app (goodIn_of _ (by decide +kernel)) ggX12_readTag_X12_isWord
set_option maxRecDepth 20000 in
theorem ggX12_readTag_X12_emits : GoodIn wsX12_readTag wsX12_emits := goodIn_r _ [74, 75, 76, 77, 78, 79, 80, 81, 82, 83, 84, 85, 86, 87, 88, 89, 90, 91, 92, 93, 94, 95, 96] (by decide +kernel) (by decide +kernel)
set_option maxRecDepth 20000 in
theorem gX12_readTag_X12_emits : GoodIn wsX12_readTag (wsV RX12 170 RX12 yX12_emits wsX12_emits) := goodIn_app (goodIn_of _ (by decide +kernel)) ggX12_readTag_X12_emits
theorem dX12_readTag_0 : decode cX12_readTag 0 = .ok (.aload_n 0, 1) := by decide +kernel
theorem dX12_readTag_1 : decode cX12_readTag 1 = .ok (.invokevirtual 114, 3) := by decide +kernel
theorem dX12_readTag_4 : decode cX12_readTag 4 = .ok (.aload_n 0, 1) := by decide +kernel
theorem dX12_readTag_5 : decode cX12_readTag 5 = .ok (.ldc 191, 2) := by decide +kernel
theorem dX12_readTag_7 : decode cX12_readTag 7 = .ok (.invokevirtual 117, 3) := by decide +kernel
theorem dX12_readTag_10 : decode cX12_readTag 10 = .ok (.ifCond .eq 8, 3) := by decide +kernel
theorem dX12_readTag_13 : decode cX12_readTag 13 = .ok (.bipush 6, 2) := by decide +kernel
theorem dX12_readTag_15 : decode cX12_readTag 15 = .ok (.goto 18, 3) := by decide +kernel
theorem dX12_readTag_18 : decode cX12_readTag 18 = .ok (.aload_n 0, 1) := by decide +kernel
theorem dX12_readTag_19 : decode cX12_readTag 19 = .ok (.ldc 193, 2) := by decide +kernel
theorem dX12_readTag_21 : decode cX12_readTag 21 = .ok (.invokevirtual 117, 3) := by decide +kernel
theorem dX12_readTag_24 : decode cX12_readTag 24 = .ok (.ifCond .eq 8, 3) := by decide +kernel
theorem dX12_readTag_27 : decode cX12_readTag 27 = .ok (.bipush 7, 2) := by decide +kernel
theorem dX12_readTag_29 : decode cX12_readTag 29 = .ok (.goto 4, 3) := by decide +kernel
theorem dX12_readTag_32 : decode cX12_readTag 32 = .ok (.iconst (-1), 1) := by decide +kernel
theorem dX12_readTag_33 : decode cX12_readTag 33 = .ok (.istore_n 1, 1) := by decide +kernel
theorem dX12_readTag_34 : decode cX12_readTag 34 = .ok (.iload_n 1, 1) := by decide +kernel
theorem dX12_readTag_35 : decode cX12_readTag 35 = .ok (.ifCond .lt 12, 3) := by decide +kernel
theorem dX12_readTag_38 : decode cX12_readTag 38 = .ok (.aload_n 0, 1) := by decide +kernel
theorem dX12_readTag_39 : decode cX12_readTag 39 = .ok (.iload_n 1, 1) := by decide +kernel
theorem dX12_readTag_40 : decode cX12_readTag 40 = .ok (.iconst 0, 1) := by decide +kernel
theorem dX12_readTag_41 : decode cX12_readTag 41 = .ok (.invokevirtual 170, 3) := by decide +kernel
theorem dX12_readTag_44 : decode cX12_readTag 44 = .ok (.goto 11, 3) := by decide +kernel
theorem dX12_readTag_47 : decode cX12_readTag 47 = .ok (.aload_n 0, 1) := by decide +kernel
theorem dX12_readTag_48 : decode cX12_readTag 48 = .ok (.aload_n 0, 1) := by decide +kernel
theorem dX12_readTag_49 : decode cX12_readTag 49 = .ok (.getfield 99, 3) := by decide +kernel
theorem dX12_readTag_52 : decode cX12_readTag 52 = .ok (.putfield 89, 3) := by decide +kernel
theorem dX12_readTag_55 : decode cX12_readTag 55 = .ok (.iload_n 1, 1) := by decide +kernel
theorem dX12_readTag_56 : decode cX12_readTag 56 = .ok (.ifCond .lt 7, 3) := by decide +kernel
theorem dX12_readTag_59 : decode cX12_readTag 59 = .ok (.iconst 1, 1) := by decide +kernel
theorem dX12_readTag_60 : decode cX12_readTag 60 = .ok (.goto 4, 3) := by decide +kernel
theorem dX12_readTag_63 : decode cX12_readTag 63 = .ok (.iconst 0, 1) := by decide +kernel
theorem dX12_readTag_64 : decode cX12_readTag 64 = .ok (.ireturn, 1) := by decide +kernel
set_option maxRecDepth 20000 in
theorem ggX12_readAtom_X12_sign : GoodIn wsX12_readAtom wsX12_sign := goodIn_r _ [6, 7, 8, 9, 10, 5, 11, 12, 13, 14, 15, 16, 17, 18, 113, 114, 115, 116, 117, 118, 119, 120, 121, 122, 123, 124, 125, 126, 127, 128, 129, 130, 131, 132] (by decide +kernel) (by decide +kernel)
set_option maxRecDepth 20000 in
theorem gX12_readAtom_X12_sign : GoodIn wsX12_readAtom (wsV RX12 187 RX12 yX12_sign wsX12_sign) := goodIn_app (goodIn_of _ (by decide +kernel)) ggX12_readAtom_X12_sign
set_option maxRecDepth 20000 in
theorem ggX12_readAtom_X12_readCond : GoodIn wsX12_readAtom wsX12_readCond := goodIn_r _ [109, 110, 111, 112, 5, 22, 23, 24, 25, 12, 7, 26, 27, 28, 29, 8, 9, 10, 11, 13, 14, 15, 16, 17, 18, 30, 31, 32, 33, 34, 35, 36, 37, 38, 39, 40, 41, 42, 43, 44, 45, 46, 47, 48, 49, 50, 51, 52, 53, 54, 55, 56, 57, 58, 59, 60, 61, 62, 63, 64, 65, 66, 67, 68, 69, 70, 71, 72, 73, 74, 75, 76, 77, 78, 79, 80, 81, 82, 86, 87, 88, 89, 90, 91, 108, 83, 84, 85, 0, 1, 2, 3, 4, 6, 19, 20, 21, 92, 93, 94, 95, 96, 97, 98, 99, 100, 101, 102, 103, 104, 105, 106, 107, 113, 114, 115, 116, 117, 118, 119, 120, 121, 122, 123, 124, 125, 126, 127, 128, 129, 130, 131, 132] (by decide +kernel) (by decide +kernel)
set_option maxRecDepth 20000 in
theorem gX12_readAtom_X12_readCond : GoodIn wsX12_readAtom (wsV RX12 198 RX12 yX12_readCond wsX12_readCond) := goodIn_app (goodIn_of _ (by decide +kernel)) ggX12_readAtom_X12_readCond
set_option maxRecDepth 20000 in
theorem ggX12_readAtom_X12_passes : GoodIn wsX12_readAtom wsX12_passes := goodIn_r _ [25, 12, 7, 26, 27, 28, 5, 29, 8, 9, 10, 11, 13, 14, 15, 16, 17, 18, 30, 31, 32, 33, 34, 35, 36, 37, 38, 39, 40, 41, 42, 43, 44, 45, 46, 47, 48, 49, 50, 51, 52, 53, 54, 55, 56, 57, 58, 59, 60, 61, 62, 63, 64, 65, 66, 67, 68, 69, 70, 71, 72, 73, 74, 75, 76, 77, 78, 79, 80, 81, 82, 113, 114, 115, 116, 117, 118, 119, 120, 121, 122, 123, 124, 125, 126, 127, 128, 129, 130, 131, 132] (by decide +kernel) (by decide +kernel)
set_option maxRecDepth 20000 in
theorem gX12_readAtom_X12_passes : GoodIn wsX12_readAtom (wsV RX12 126 RX12 yX12_passes wsX12_passes) := goodIn_app (goodIn_of _ (by decide +kernel)) ggX12_readAtom_X12_passes
set_option maxRecDepth 20000 in
theorem ggX12_readAtom_X12_readAtom : GoodIn wsX12_readAtom wsX12_readAtom := goodIn_r _ [0, 1, 2, 3, 4, 5, 6, 7, 8, 9, 10, 11, 12, 13, 14, 15, 16, 17, 18, 19, 20, 21, 22, 23, 24, 25, 26, 27, 28, 29, 30, 31, 32, 33, 34, 35, 36, 37, 38, 39, 40, 41, 42, 43, 44, 45, 46, 47, 48, 49, 50, 51, 52, 53, 54, 55, 56, 57, 58, 59, 60, 61, 62, 63, 64, 65, 66, 67, 68, 69, 70, 71, 72, 73, 74, 75, 76, 77, 78, 79, 80, 81, 82, 83, 84, 85, 86, 87, 88, 89, 90, 91, 92, 93, 94, 95, 96, 97, 98, 99, 100, 101, 102, 103, 104, 105, 106, 107, 108, 109, 110, 111, 112, 113, 114, 115, 116, 117, 118, 119, 120, 121, 122, 123, 124, 125, 126, 127, 128, 129, 130, 131, 132] (by decide +kernel) (by decide +kernel)
set_option maxRecDepth 20000 in
theorem gX12_readAtom_X12_readAtom : GoodIn wsX12_readAtom (wsV RX12 203 RX12 yX12_readAtom wsX12_readAtom) := goodIn_app (goodIn_of _ (by decide +kernel)) ggX12_readAtom_X12_readAtom
set_option maxRecDepth 20000 in
theorem ggX12_readAtom_X12_emits : GoodIn wsX12_readAtom wsX12_emits := goodIn_r _ [89, 90, 91, 113, 114, 115, 116, 117, 118, 119, 120, 121, 122, 123, 124, 125, 126, 127, 128, 129, 130, 131, 132] (by decide +kernel) (by decide +kernel)
set_option maxRecDepth 20000 in
theorem gX12_readAtom_X12_emits : GoodIn wsX12_readAtom (wsV RX12 170 RX12 yX12_emits wsX12_emits) := goodIn_app (goodIn_of _ (by decide +kernel)) ggX12_readAtom_X12_emits
set_option maxRecDepth 20000 in
theorem ggX12_readAtom_X12_readTag : GoodIn wsX12_readAtom wsX12_readTag := goodIn_r _ [95, 12, 7, 26, 27, 28, 5, 29, 8, 9, 10, 11, 13, 14, 15, 16, 17, 18, 30, 31, 32, 33, 34, 35, 36, 37, 38, 39, 40, 41, 42, 43, 44, 45, 46, 47, 48, 49, 50, 51, 52, 53, 54, 55, 56, 57, 58, 59, 60, 61, 62, 63, 64, 65, 66, 67, 68, 69, 70, 71, 72, 73, 74, 75, 76, 77, 78, 79, 80, 81, 82, 86, 87, 88, 89, 90, 91, 113, 114, 115, 116, 117, 118, 119, 120, 121, 122, 123, 124, 125, 126, 127, 128, 129, 130, 131, 132] (by decide +kernel) (by decide +kernel)
set_option maxRecDepth 20000 in
theorem gX12_readAtom_X12_readTag : GoodIn wsX12_readAtom (wsV RX12 206 RX12 yX12_readTag wsX12_readTag) := goodIn_app (goodIn_of _ (by decide +kernel)) ggX12_readAtom_X12_readTag
set_option maxRecDepth 20000 in
theorem ggX12_readAtom_X12_readSum : GoodIn wsX12_readAtom wsX12_readSum := goodIn_r _ [99, 100, 101, 102, 5, 103, 7, 12, 26, 27, 28, 29, 8, 9, 10, 11, 13, 14, 15, 16, 17, 18, 104, 105, 106, 107, 86, 87, 88, 89, 90, 91, 30, 31, 32, 33, 34, 35, 36, 37, 38, 39, 40, 41, 42, 43, 44, 45, 46, 47, 48, 49, 50, 51, 52, 53, 54, 55, 56, 57, 58, 59, 60, 61, 62, 63, 64, 65, 66, 67, 68, 69, 70, 71, 72, 73, 74, 75, 76, 77, 78, 79, 80, 81, 82, 2, 3, 4, 6, 113, 114, 115, 116, 117, 118, 119, 120, 121, 122, 123, 124, 125, 126, 127, 128, 129, 130, 131, 132] (by decide +kernel) (by decide +kernel)
set_option maxRecDepth 20000 in
theorem gX12_readAtom_X12_readSum : GoodIn wsX12_readAtom (wsV RX12 209 RX12 yX12_readSum wsX12_readSum) := goodIn_app (goodIn_of _ (by decide +kernel)) ggX12_readAtom_X12_readSum
theorem dX12_readAtom_0 : decode cX12_readAtom 0 = .ok (.aload_n 0, 1) := by decide +kernel
theorem dX12_readAtom_1 : decode cX12_readAtom 1 = .ok (.bipush 40, 2) := by decide +kernel
theorem dX12_readAtom_3 : decode cX12_readAtom 3 = .ok (.invokevirtual 187, 3) := by decide +kernel
theorem dX12_readAtom_6 : decode cX12_readAtom 6 = .ok (.ifCond .eq 50, 3) := by decide +kernel
theorem dX12_readAtom_9 : decode cX12_readAtom 9 = .ok (.aload_n 0, 1) := by decide +kernel
theorem dX12_readAtom_10 : decode cX12_readAtom 10 = .ok (.getfield 195, 3) := by decide +kernel
theorem dX12_readAtom_13 : decode cX12_readAtom 13 = .ok (.bipush 6, 2) := by decide +kernel
theorem dX12_readAtom_15 : decode cX12_readAtom 15 = .ok (.if_icmp .ne 5, 3) := by decide +kernel
theorem dX12_readAtom_18 : decode cX12_readAtom 18 = .ok (.iconst 0, 1) := by decide +kernel
theorem dX12_readAtom_19 : decode cX12_readAtom 19 = .ok (.ireturn, 1) := by decide +kernel
theorem dX12_readAtom_20 : decode cX12_readAtom 20 = .ok (.aload_n 0, 1) := by decide +kernel
theorem dX12_readAtom_21 : decode cX12_readAtom 21 = .ok (.dup, 1) := by decide +kernel
theorem dX12_readAtom_22 : decode cX12_readAtom 22 = .ok (.getfield 195, 3) := by decide +kernel
theorem dX12_readAtom_25 : decode cX12_readAtom 25 = .ok (.iconst 1, 1) := by decide +kernel
theorem dX12_readAtom_26 : decode cX12_readAtom 26 = .ok (.iadd, 1) := by decide +kernel
theorem dX12_readAtom_27 : decode cX12_readAtom 27 = .ok (.putfield 195, 3) := by decide +kernel
theorem dX12_readAtom_30 : decode cX12_readAtom 30 = .ok (.aload_n 0, 1) := by decide +kernel
theorem dX12_readAtom_31 : decode cX12_readAtom 31 = .ok (.invokevirtual 198, 3) := by decide +kernel
theorem dX12_readAtom_34 : decode cX12_readAtom 34 = .ok (.ifCond .ne 5, 3) := by decide +kernel
theorem dX12_readAtom_37 : decode cX12_readAtom 37 = .ok (.iconst 0, 1) := by decide +kernel
theorem dX12_readAtom_38 : decode cX12_readAtom 38 = .ok (.ireturn, 1) := by decide +kernel
theorem dX12_readAtom_39 : decode cX12_readAtom 39 = .ok (.aload_n 0, 1) := by decide +kernel
theorem dX12_readAtom_40 : decode cX12_readAtom 40 = .ok (.dup, 1) := by decide +kernel
theorem dX12_readAtom_41 : decode cX12_readAtom 41 = .ok (.getfield 195, 3) := by decide +kernel
theorem dX12_readAtom_44 : decode cX12_readAtom 44 = .ok (.iconst 1, 1) := by decide +kernel
theorem dX12_readAtom_45 : decode cX12_readAtom 45 = .ok (.isub, 1) := by decide +kernel
theorem dX12_readAtom_46 : decode cX12_readAtom 46 = .ok (.putfield 195, 3) := by decide +kernel
theorem dX12_readAtom_49 : decode cX12_readAtom 49 = .ok (.aload_n 0, 1) := by decide +kernel
theorem dX12_readAtom_50 : decode cX12_readAtom 50 = .ok (.bipush 41, 2) := by decide +kernel
theorem dX12_readAtom_52 : decode cX12_readAtom 52 = .ok (.invokevirtual 187, 3) := by decide +kernel
theorem dX12_readAtom_55 : decode cX12_readAtom 55 = .ok (.ireturn, 1) := by decide +kernel
theorem dX12_readAtom_56 : decode cX12_readAtom 56 = .ok (.aload_n 0, 1) := by decide +kernel
theorem dX12_readAtom_57 : decode cX12_readAtom 57 = .ok (.ldc 201, 2) := by decide +kernel
theorem dX12_readAtom_59 : decode cX12_readAtom 59 = .ok (.invokevirtual 126, 3) := by decide +kernel
theorem dX12_readAtom_62 : decode cX12_readAtom 62 = .ok (.ifCond .eq 52, 3) := by decide +kernel
theorem dX12_readAtom_65 : decode cX12_readAtom 65 = .ok (.aload_n 0, 1) := by decide +kernel
theorem dX12_readAtom_66 : decode cX12_readAtom 66 = .ok (.getfield 195, 3) := by decide +kernel
theorem dX12_readAtom_69 : decode cX12_readAtom 69 = .ok (.bipush 6, 2) := by decide +kernel
theorem dX12_readAtom_71 : decode cX12_readAtom 71 = .ok (.if_icmp .ne 5, 3) := by decide +kernel
theorem dX12_readAtom_74 : decode cX12_readAtom 74 = .ok (.iconst 0, 1) := by decide +kernel
theorem dX12_readAtom_75 : decode cX12_readAtom 75 = .ok (.ireturn, 1) := by decide +kernel
theorem dX12_readAtom_76 : decode cX12_readAtom 76 = .ok (.aload_n 0, 1) := by decide +kernel
theorem dX12_readAtom_77 : decode cX12_readAtom 77 = .ok (.dup, 1) := by decide +kernel
theorem dX12_readAtom_78 : decode cX12_readAtom 78 = .ok (.getfield 195, 3) := by decide +kernel
theorem dX12_readAtom_81 : decode cX12_readAtom 81 = .ok (.iconst 1, 1) := by decide +kernel
theorem dX12_readAtom_82 : decode cX12_readAtom 82 = .ok (.iadd, 1) := by decide +kernel
theorem dX12_readAtom_83 : decode cX12_readAtom 83 = .ok (.putfield 195, 3) := by decide +kernel
theorem dX12_readAtom_86 : decode cX12_readAtom 86 = .ok (.aload_n 0, 1) := by decide +kernel
theorem dX12_readAtom_87 : decode cX12_readAtom 87 = .ok (.invokevirtual 203, 3) := by decide +kernel
theorem dX12_readAtom_90 : decode cX12_readAtom 90 = .ok (.ifCond .ne 5, 3) := by decide +kernel
theorem dX12_readAtom_93 : decode cX12_readAtom 93 = .ok (.iconst 0, 1) := by decide +kernel
theorem dX12_readAtom_94 : decode cX12_readAtom 94 = .ok (.ireturn, 1) := by decide +kernel
theorem dX12_readAtom_95 : decode cX12_readAtom 95 = .ok (.aload_n 0, 1) := by decide +kernel
theorem dX12_readAtom_96 : decode cX12_readAtom 96 = .ok (.dup, 1) := by decide +kernel
theorem dX12_readAtom_97 : decode cX12_readAtom 97 = .ok (.getfield 195, 3) := by decide +kernel
theorem dX12_readAtom_100 : decode cX12_readAtom 100 = .ok (.iconst 1, 1) := by decide +kernel
theorem dX12_readAtom_101 : decode cX12_readAtom 101 = .ok (.isub, 1) := by decide +kernel
theorem dX12_readAtom_102 : decode cX12_readAtom 102 = .ok (.putfield 195, 3) := by decide +kernel
theorem dX12_readAtom_105 : decode cX12_readAtom 105 = .ok (.aload_n 0, 1) := by decide +kernel
theorem dX12_readAtom_106 : decode cX12_readAtom 106 = .ok (.bipush 12, 2) := by decide +kernel
theorem dX12_readAtom_108 : decode cX12_readAtom 108 = .ok (.iconst 0, 1) := by decide +kernel
theorem dX12_readAtom_109 : decode cX12_readAtom 109 = .ok (.invokevirtual 170, 3) := by decide +kernel
theorem dX12_readAtom_112 : decode cX12_readAtom 112 = .ok (.iconst 1, 1) := by decide +kernel
theorem dX12_readAtom_113 : decode cX12_readAtom 113 = .ok (.ireturn, 1) := by decide +kernel
theorem dX12_readAtom_114 : decode cX12_readAtom 114 = .ok (.aload_n 0, 1) := by decide +kernel
theorem dX12_readAtom_115 : decode cX12_readAtom 115 = .ok (.invokevirtual 206, 3) := by decide +kernel
theorem dX12_readAtom_118 : decode cX12_readAtom 118 = .ok (.ifCond .eq 5, 3) := by decide +kernel
theorem dX12_readAtom_121 : decode cX12_readAtom 121 = .ok (.iconst 1, 1) := by decide +kernel
theorem dX12_readAtom_122 : decode cX12_readAtom 122 = .ok (.ireturn, 1) := by decide +kernel
theorem dX12_readAtom_123 : decode cX12_readAtom 123 = .ok (.aload_n 0, 1) := by decide +kernel
theorem dX12_readAtom_124 : decode cX12_readAtom 124 = .ok (.invokevirtual 209, 3) := by decide +kernel
theorem dX12_readAtom_127 : decode cX12_readAtom 127 = .ok (.ifCond .ne 5, 3) := by decide +kernel
theorem dX12_readAtom_130 : decode cX12_readAtom 130 = .ok (.iconst 0, 1) := by decide +kernel
theorem dX12_readAtom_131 : decode cX12_readAtom 131 = .ok (.ireturn, 1) := by decide +kernel
theorem dX12_readAtom_132 : decode cX12_readAtom 132 = .ok (.aload_n 0, 1) := by decide +kernel
theorem dX12_readAtom_133 : decode cX12_readAtom 133 = .ok (.bipush 60, 2) := by decide +kernel
theorem dX12_readAtom_135 : decode cX12_readAtom 135 = .ok (.invokevirtual 187, 3) := by decide +kernel
theorem dX12_readAtom_138 : decode cX12_readAtom 138 = .ok (.istore_n 1, 1) := by decide +kernel
theorem dX12_readAtom_139 : decode cX12_readAtom 139 = .ok (.iload_n 1, 1) := by decide +kernel
theorem dX12_readAtom_140 : decode cX12_readAtom 140 = .ok (.ifCond .ne 12, 3) := by decide +kernel
theorem dX12_readAtom_143 : decode cX12_readAtom 143 = .ok (.aload_n 0, 1) := by decide +kernel
theorem dX12_readAtom_144 : decode cX12_readAtom 144 = .ok (.bipush 62, 2) := by decide +kernel
theorem dX12_readAtom_146 : decode cX12_readAtom 146 = .ok (.invokevirtual 187, 3) := by decide +kernel
theorem dX12_readAtom_149 : decode cX12_readAtom 149 = .ok (.ifCond .eq 10, 3) := by decide +kernel
theorem dX12_readAtom_152 : decode cX12_readAtom 152 = .ok (.aload_n 0, 1) := by decide +kernel
theorem dX12_readAtom_153 : decode cX12_readAtom 153 = .ok (.invokevirtual 209, 3) := by decide +kernel
theorem dX12_readAtom_156 : decode cX12_readAtom 156 = .ok (.ifCond .ne 5, 3) := by decide +kernel
theorem dX12_readAtom_159 : decode cX12_readAtom 159 = .ok (.iconst 0, 1) := by decide +kernel
theorem dX12_readAtom_160 : decode cX12_readAtom 160 = .ok (.ireturn, 1) := by decide +kernel
theorem dX12_readAtom_161 : decode cX12_readAtom 161 = .ok (.aload_n 0, 1) := by decide +kernel
theorem dX12_readAtom_162 : decode cX12_readAtom 162 = .ok (.iload_n 1, 1) := by decide +kernel
theorem dX12_readAtom_163 : decode cX12_readAtom 163 = .ok (.ifCond .eq 8, 3) := by decide +kernel
theorem dX12_readAtom_166 : decode cX12_readAtom 166 = .ok (.bipush 10, 2) := by decide +kernel
theorem dX12_readAtom_168 : decode cX12_readAtom 168 = .ok (.goto 5, 3) := by decide +kernel
theorem dX12_readAtom_171 : decode cX12_readAtom 171 = .ok (.bipush 11, 2) := by decide +kernel
theorem dX12_readAtom_173 : decode cX12_readAtom 173 = .ok (.iconst 0, 1) := by decide +kernel
theorem dX12_readAtom_174 : decode cX12_readAtom 174 = .ok (.invokevirtual 170, 3) := by decide +kernel
theorem dX12_readAtom_177 : decode cX12_readAtom 177 = .ok (.iconst 1, 1) := by decide +kernel
theorem dX12_readAtom_178 : decode cX12_readAtom 178 = .ok (.ireturn, 1) := by decide +kernel
set_option maxRecDepth 20000 in
theorem ggX12_readAllOf_X12_readAtom : GoodIn wsX12_readAllOf wsX12_readAtom := goodIn_r _ [84, 85, 86, 87, 88, 4, 89, 10, 15, 16, 17, 18, 9, 19, 20, 21, 22, 23, 24, 90, 91, 92, 5, 6, 7, 8, 11, 12, 13, 14, 25, 26, 27, 28, 29, 30, 31, 32, 33, 34, 35, 36, 37, 38, 39, 40, 41, 42, 43, 44, 45, 46, 47, 48, 49, 50, 51, 52, 53, 54, 55, 56, 57, 58, 59, 60, 61, 62, 63, 64, 65, 66, 67, 68, 69, 70, 71, 72, 73, 74, 75, 76, 77, 1, 2, 3, 78, 79, 80, 81, 82, 83, 93, 94, 95, 96, 97, 98, 99, 100, 101, 102, 103, 104, 105, 106, 107, 108, 0, 109, 110, 111, 112, 113, 114, 115, 116, 117, 118, 119, 120, 121, 122, 123, 124, 125, 126, 127, 128, 129, 130, 131, 132] (by decide +kernel) (by decide +kernel)
set_option maxRecDepth 20000 in
theorem gX12_readAllOf_X12_readAtom : GoodIn wsX12_readAllOf (wsV RX12 203 RX12 yX12_readAtom wsX12_readAtom) := goodIn_app (goodIn_of _ (by decide +kernel)) ggX12_readAllOf_X12_readAtom
set_option maxRecDepth 20000 in
theorem ggX12_readAllOf_X12_passes : GoodIn wsX12_readAllOf wsX12_passes := goodIn_r _ [8, 9, 10, 11, 12, 13, 4, 14, 15, 16, 17, 18, 19, 20, 21, 22, 23, 24, 25, 26, 27, 28, 29, 30, 31, 32, 33, 34, 35, 36, 37, 38, 39, 40, 41, 42, 43, 44, 45, 46, 47, 48, 49, 50, 51, 52, 53, 54, 55, 56, 57, 58, 59, 60, 61, 62, 63, 64, 65, 66, 67, 68, 69, 70, 71, 72, 73, 74, 75, 76, 77, 113, 114, 115, 116, 117, 118, 119, 120, 121, 122, 123, 124, 125, 126, 127, 128, 129, 130, 131, 132] (by decide +kernel) (by decide +kernel)
set_option maxRecDepth 20000 in
theorem gX12_readAllOf_X12_passes : GoodIn wsX12_readAllOf (wsV RX12 126 RX12 yX12_passes wsX12_passes) := goodIn_app (goodIn_of _ (by decide +kernel)) ggX12_readAllOf_X12_passes
set_option maxRecDepth 20000 in
theorem ggX12_readAllOf_X12_emits : GoodIn wsX12_readAllOf wsX12_emits := goodIn_r _ [81, 82, 83, 113, 114, 115, 116, 117, 118, 119, 120, 121, 122, 123, 124, 125, 126, 127, 128, 129, 130, 131, 132] (by decide +kernel) (by decide +kernel)
set_option maxRecDepth 20000 in
theorem gX12_readAllOf_X12_emits : GoodIn wsX12_readAllOf (wsV RX12 170 RX12 yX12_emits wsX12_emits) := goodIn_app (goodIn_of _ (by decide +kernel)) ggX12_readAllOf_X12_emits
theorem dX12_readAllOf_0 : decode cX12_readAllOf 0 = .ok (.aload_n 0, 1) := by decide +kernel
theorem dX12_readAllOf_1 : decode cX12_readAllOf 1 = .ok (.invokevirtual 203, 3) := by decide +kernel
theorem dX12_readAllOf_4 : decode cX12_readAllOf 4 = .ok (.ifCond .ne 5, 3) := by decide +kernel
theorem dX12_readAllOf_7 : decode cX12_readAllOf 7 = .ok (.iconst 0, 1) := by decide +kernel
theorem dX12_readAllOf_8 : decode cX12_readAllOf 8 = .ok (.ireturn, 1) := by decide +kernel
theorem dX12_readAllOf_9 : decode cX12_readAllOf 9 = .ok (.aload_n 0, 1) := by decide +kernel
theorem dX12_readAllOf_10 : decode cX12_readAllOf 10 = .ok (.ldc 212, 2) := by decide +kernel
theorem dX12_readAllOf_12 : decode cX12_readAllOf 12 = .ok (.invokevirtual 126, 3) := by decide +kernel
theorem dX12_readAllOf_15 : decode cX12_readAllOf 15 = .ok (.ifCond .eq 22, 3) := by decide +kernel
theorem dX12_readAllOf_18 : decode cX12_readAllOf 18 = .ok (.aload_n 0, 1) := by decide +kernel
theorem dX12_readAllOf_19 : decode cX12_readAllOf 19 = .ok (.invokevirtual 203, 3) := by decide +kernel
theorem dX12_readAllOf_22 : decode cX12_readAllOf 22 = .ok (.ifCond .ne 5, 3) := by decide +kernel
theorem dX12_readAllOf_25 : decode cX12_readAllOf 25 = .ok (.iconst 0, 1) := by decide +kernel
theorem dX12_readAllOf_26 : decode cX12_readAllOf 26 = .ok (.ireturn, 1) := by decide +kernel
theorem dX12_readAllOf_27 : decode cX12_readAllOf 27 = .ok (.aload_n 0, 1) := by decide +kernel
theorem dX12_readAllOf_28 : decode cX12_readAllOf 28 = .ok (.bipush 13, 2) := by decide +kernel
theorem dX12_readAllOf_30 : decode cX12_readAllOf 30 = .ok (.iconst 0, 1) := by decide +kernel
theorem dX12_readAllOf_31 : decode cX12_readAllOf 31 = .ok (.invokevirtual 170, 3) := by decide +kernel
theorem dX12_readAllOf_34 : decode cX12_readAllOf 34 = .ok (.goto (-25), 3) := by decide +kernel
theorem dX12_readAllOf_37 : decode cX12_readAllOf 37 = .ok (.iconst 1, 1) := by decide +kernel
theorem dX12_readAllOf_38 : decode cX12_readAllOf 38 = .ok (.ireturn, 1) := by decide +kernel
set_option maxRecDepth 20000 in
theorem ggX12_readCond_X12_readAllOf : GoodIn wsX12_readCond wsX12_readAllOf := goodIn_r _ [84, 85, 86, 87, 4, 5, 6, 7, 8, 9, 10, 11, 12, 13, 14, 15, 16, 17, 18, 19, 20, 21, 22, 23, 24, 25, 26, 27, 28, 29, 30, 31, 32, 33, 34, 35, 36, 37, 38, 39, 40, 41, 42, 43, 44, 45, 46, 47, 48, 49, 50, 51, 52, 53, 54, 55, 56, 57, 58, 59, 60, 61, 62, 63, 64, 65, 66, 67, 68, 69, 70, 71, 72, 73, 74, 75, 76, 77, 78, 79, 80, 81, 82, 83, 88, 89, 90, 91, 92, 93, 94, 95, 96, 97, 98, 99, 100, 101, 102, 103, 104, 105, 106, 107, 108, 109, 110, 111, 112, 0, 1, 2, 3, 113, 114, 115, 116, 117, 118, 119, 120, 121, 122, 123, 124, 125, 126, 127, 128, 129, 130, 131, 132] (by decide +kernel) (by decide +kernel)
set_option maxRecDepth 20000 in
theorem gX12_readCond_X12_readAllOf : GoodIn wsX12_readCond (wsV RX12 214 RX12 yX12_readAllOf wsX12_readAllOf) := goodIn_app (goodIn_of _ (by decide +kernel)) ggX12_readCond_X12_readAllOf
set_option maxRecDepth 20000 in
theorem ggX12_readCond_X12_passes : GoodIn wsX12_readCond wsX12_passes := goodIn_r _ [8, 9, 10, 11, 12, 13, 4, 14, 15, 16, 17, 18, 19, 20, 21, 22, 23, 24, 25, 26, 27, 28, 29, 30, 31, 32, 33, 34, 35, 36, 37, 38, 39, 40, 41, 42, 43, 44, 45, 46, 47, 48, 49, 50, 51, 52, 53, 54, 55, 56, 57, 58, 59, 60, 61, 62, 63, 64, 65, 66, 67, 68, 69, 70, 71, 72, 73, 74, 75, 76, 77, 113, 114, 115, 116, 117, 118, 119, 120, 121, 122, 123, 124, 125, 126, 127, 128, 129, 130, 131, 132] (by decide +kernel) (by decide +kernel)
set_option maxRecDepth 20000 in
theorem gX12_readCond_X12_passes : GoodIn wsX12_readCond (wsV RX12 126 RX12 yX12_passes wsX12_passes) := goodIn_app (goodIn_of _ (by decide +kernel)) ggX12_readCond_X12_passes
set_option maxRecDepth 20000 in
theorem ggX12_readCond_X12_emits : GoodIn wsX12_readCond wsX12_emits := goodIn_r _ [81, 82, 83, 113, 114, 115, 116, 117, 118, 119, 120, 121, 122, 123, 124, 125, 126, 127, 128, 129, 130, 131, 132] (by decide +kernel) (by decide +kernel)
set_option maxRecDepth 20000 in
theorem gX12_readCond_X12_emits : GoodIn wsX12_readCond (wsV RX12 170 RX12 yX12_emits wsX12_emits) := goodIn_app (goodIn_of _ (by decide +kernel)) ggX12_readCond_X12_emits
theorem dX12_readCond_0 : decode cX12_readCond 0 = .ok (.aload_n 0, 1) := by decide +kernel
theorem dX12_readCond_1 : decode cX12_readCond 1 = .ok (.invokevirtual 214, 3) := by decide +kernel
theorem dX12_readCond_4 : decode cX12_readCond 4 = .ok (.ifCond .ne 5, 3) := by decide +kernel
theorem dX12_readCond_7 : decode cX12_readCond 7 = .ok (.iconst 0, 1) := by decide +kernel
theorem dX12_readCond_8 : decode cX12_readCond 8 = .ok (.ireturn, 1) := by decide +kernel
theorem dX12_readCond_9 : decode cX12_readCond 9 = .ok (.aload_n 0, 1) := by decide +kernel
theorem dX12_readCond_10 : decode cX12_readCond 10 = .ok (.ldc 217, 2) := by decide +kernel
theorem dX12_readCond_12 : decode cX12_readCond 12 = .ok (.invokevirtual 126, 3) := by decide +kernel
theorem dX12_readCond_15 : decode cX12_readCond 15 = .ok (.ifCond .eq 22, 3) := by decide +kernel
theorem dX12_readCond_18 : decode cX12_readCond 18 = .ok (.aload_n 0, 1) := by decide +kernel
theorem dX12_readCond_19 : decode cX12_readCond 19 = .ok (.invokevirtual 214, 3) := by decide +kernel
theorem dX12_readCond_22 : decode cX12_readCond 22 = .ok (.ifCond .ne 5, 3) := by decide +kernel
theorem dX12_readCond_25 : decode cX12_readCond 25 = .ok (.iconst 0, 1) := by decide +kernel
theorem dX12_readCond_26 : decode cX12_readCond 26 = .ok (.ireturn, 1) := by decide +kernel
theorem dX12_readCond_27 : decode cX12_readCond 27 = .ok (.aload_n 0, 1) := by decide +kernel
theorem dX12_readCond_28 : decode cX12_readCond 28 = .ok (.bipush 14, 2) := by decide +kernel
theorem dX12_readCond_30 : decode cX12_readCond 30 = .ok (.iconst 0, 1) := by decide +kernel
theorem dX12_readCond_31 : decode cX12_readCond 31 = .ok (.invokevirtual 170, 3) := by decide +kernel
theorem dX12_readCond_34 : decode cX12_readCond 34 = .ok (.goto (-25), 3) := by decide +kernel
theorem dX12_readCond_37 : decode cX12_readCond 37 = .ok (.iconst 1, 1) := by decide +kernel
theorem dX12_readCond_38 : decode cX12_readCond 38 = .ok (.ireturn, 1) := by decide +kernel
set_option maxRecDepth 20000 in
theorem ggX12_readLawLine_X12_isWord : GoodIn wsX12_readLawLine wsX12_isWord := goodIn_r _ [8, 9, 10, 11, 12, 13, 14, 15, 16, 17, 18, 19, 20, 21, 22, 23, 24, 25, 26, 27, 28, 29, 30, 31, 32, 33, 34, 35, 36, 37, 38, 39, 40, 41, 42, 43, 44, 45, 46, 47, 48, 49, 50, 51, 52, 53, 54, 55, 56, 57, 58, 59, 60, 114, 115, 116, 117, 118, 119, 120, 121, 122, 123, 124, 125, 126, 127, 128, 129, 130, 131, 132, 133] (by decide +kernel) (by decide +kernel)
set_option maxRecDepth 20000 in
theorem gX12_readLawLine_X12_isWord : GoodIn wsX12_readLawLine (wsV RX12 117 RX12 yX12_isWord wsX12_isWord) := goodIn_app (goodIn_of _ (by decide +kernel)) ggX12_readLawLine_X12_isWord
set_option maxRecDepth 20000 in
theorem ggX12_readLawLine_X12_number : GoodIn wsX12_readLawLine wsX12_number := goodIn_r _ [64, 9, 10, 11, 65, 66, 67, 7, 68, 69, 70, 71, 72, 73, 114, 115, 116, 117, 118, 119, 120, 121, 122, 123, 124, 125, 126, 127, 128, 129, 130, 131, 132, 133] (by decide +kernel) (by decide +kernel)
set_option maxRecDepth 20000 in
theorem gX12_readLawLine_X12_number : GoodIn wsX12_readLawLine (wsV RX12 121 RX12 yX12_number wsX12_number) := goodIn_app (goodIn_of _ (by decide +kernel)) ggX12_readLawLine_X12_number
set_option maxRecDepth 20000 in
theorem ggX12_readLawLine_X12_passes : GoodIn wsX12_readLawLine wsX12_passes := goodIn_r _ [77, 10, 9, 78, 79, 80, 7, 81, 65, 66, 67, 68, 69, 70, 71, 72, 73, 11, 4, 5, 6, 8, 12, 13, 14, 15, 16, 17, 18, 19, 20, 21, 22, 23, 24, 25, 26, 27, 28, 29, 30, 31, 32, 33, 34, 35, 36, 37, 38, 39, 40, 41, 42, 43, 44, 45, 46, 47, 48, 49, 50, 51, 52, 53, 54, 55, 56, 57, 58, 59, 60, 114, 115, 116, 117, 118, 119, 120, 121, 122, 123, 124, 125, 126, 127, 128, 129, 130, 131, 132, 133] (by decide +kernel) (by decide +kernel)
set_option maxRecDepth 20000 in
theorem gX12_readLawLine_X12_passes : GoodIn wsX12_readLawLine (wsV RX12 126 RX12 yX12_passes wsX12_passes) := goodIn_app (goodIn_of _ (by decide +kernel)) ggX12_readLawLine_X12_passes
set_option maxRecDepth 20000 in
theorem ggX12_readLawLine_X12_readCond : GoodIn wsX12_readLawLine wsX12_readCond := goodIn_r _ [85, 86, 87, 88, 7, 74, 75, 76, 77, 10, 9, 78, 79, 80, 81, 65, 66, 67, 68, 69, 70, 71, 72, 73, 11, 4, 5, 6, 8, 12, 13, 14, 15, 16, 17, 18, 19, 20, 21, 22, 23, 24, 25, 26, 27, 28, 29, 30, 31, 32, 33, 34, 35, 36, 37, 38, 39, 40, 41, 42, 43, 44, 45, 46, 47, 48, 49, 50, 51, 52, 53, 54, 55, 56, 57, 58, 59, 60, 89, 90, 91, 92, 1, 2, 93, 94, 95, 96, 97, 3, 98, 99, 100, 101, 82, 83, 84, 102, 103, 104, 105, 106, 107, 108, 109, 110, 111, 112, 113, 61, 62, 63, 64, 114, 115, 116, 117, 118, 119, 120, 121, 122, 123, 124, 125, 126, 127, 128, 129, 130, 131, 132, 133] (by decide +kernel) (by decide +kernel)
set_option maxRecDepth 20000 in
theorem gX12_readLawLine_X12_readCond : GoodIn wsX12_readLawLine (wsV RX12 198 RX12 yX12_readCond wsX12_readCond) := goodIn_app (goodIn_of _ (by decide +kernel)) ggX12_readLawLine_X12_readCond
theorem dX12_readLawLine_0 : decode cX12_readLawLine 0 = .ok (.sipush 1232, 3) := by decide +kernel
theorem dX12_readLawLine_3 : decode cX12_readLawLine 3 = .ok (.iconst 4, 1) := by decide +kernel
theorem dX12_readLawLine_4 : decode cX12_readLawLine 4 = .ok (.iload_n 1, 1) := by decide +kernel
theorem dX12_readLawLine_5 : decode cX12_readLawLine 5 = .ok (.imul, 1) := by decide +kernel
theorem dX12_readLawLine_6 : decode cX12_readLawLine 6 = .ok (.iadd, 1) := by decide +kernel
theorem dX12_readLawLine_7 : decode cX12_readLawLine 7 = .ok (.istore_n 2, 1) := by decide +kernel
theorem dX12_readLawLine_8 : decode cX12_readLawLine 8 = .ok (.aload_n 0, 1) := by decide +kernel
theorem dX12_readLawLine_9 : decode cX12_readLawLine 9 = .ok (.getfield 13, 3) := by decide +kernel
theorem dX12_readLawLine_12 : decode cX12_readLawLine 12 = .ok (.iload_n 2, 1) := by decide +kernel
theorem dX12_readLawLine_13 : decode cX12_readLawLine 13 = .ok (.aload_n 0, 1) := by decide +kernel
theorem dX12_readLawLine_14 : decode cX12_readLawLine 14 = .ok (.ldc 219, 2) := by decide +kernel
theorem dX12_readLawLine_16 : decode cX12_readLawLine 16 = .ok (.invokevirtual 117, 3) := by decide +kernel
theorem dX12_readLawLine_19 : decode cX12_readLawLine 19 = .ok (.ifCond .eq 7, 3) := by decide +kernel
theorem dX12_readLawLine_22 : decode cX12_readLawLine 22 = .ok (.iconst 0, 1) := by decide +kernel
theorem dX12_readLawLine_23 : decode cX12_readLawLine 23 = .ok (.goto 30, 3) := by decide +kernel
theorem dX12_readLawLine_26 : decode cX12_readLawLine 26 = .ok (.aload_n 0, 1) := by decide +kernel
theorem dX12_readLawLine_27 : decode cX12_readLawLine 27 = .ok (.ldc 221, 2) := by decide +kernel
theorem dX12_readLawLine_29 : decode cX12_readLawLine 29 = .ok (.invokevirtual 117, 3) := by decide +kernel
theorem dX12_readLawLine_32 : decode cX12_readLawLine 32 = .ok (.ifCond .eq 7, 3) := by decide +kernel
theorem dX12_readLawLine_35 : decode cX12_readLawLine 35 = .ok (.iconst 1, 1) := by decide +kernel
theorem dX12_readLawLine_36 : decode cX12_readLawLine 36 = .ok (.goto 17, 3) := by decide +kernel
theorem dX12_readLawLine_39 : decode cX12_readLawLine 39 = .ok (.aload_n 0, 1) := by decide +kernel
theorem dX12_readLawLine_40 : decode cX12_readLawLine 40 = .ok (.ldc 124, 2) := by decide +kernel
theorem dX12_readLawLine_42 : decode cX12_readLawLine 42 = .ok (.invokevirtual 117, 3) := by decide +kernel
theorem dX12_readLawLine_45 : decode cX12_readLawLine 45 = .ok (.ifCond .eq 7, 3) := by decide +kernel
theorem dX12_readLawLine_48 : decode cX12_readLawLine 48 = .ok (.iconst 2, 1) := by decide +kernel
theorem dX12_readLawLine_49 : decode cX12_readLawLine 49 = .ok (.goto 4, 3) := by decide +kernel
theorem dX12_readLawLine_52 : decode cX12_readLawLine 52 = .ok (.iconst (-1), 1) := by decide +kernel
theorem dX12_readLawLine_53 : decode cX12_readLawLine 53 = .ok (.iastore, 1) := by decide +kernel
theorem dX12_readLawLine_54 : decode cX12_readLawLine 54 = .ok (.aload_n 0, 1) := by decide +kernel
theorem dX12_readLawLine_55 : decode cX12_readLawLine 55 = .ok (.getfield 13, 3) := by decide +kernel
theorem dX12_readLawLine_58 : decode cX12_readLawLine 58 = .ok (.iload_n 2, 1) := by decide +kernel
theorem dX12_readLawLine_59 : decode cX12_readLawLine 59 = .ok (.iaload, 1) := by decide +kernel
theorem dX12_readLawLine_60 : decode cX12_readLawLine 60 = .ok (.ifCond .ge 5, 3) := by decide +kernel
theorem dX12_readLawLine_63 : decode cX12_readLawLine 63 = .ok (.iconst 0, 1) := by decide +kernel
theorem dX12_readLawLine_64 : decode cX12_readLawLine 64 = .ok (.ireturn, 1) := by decide +kernel
theorem dX12_readLawLine_65 : decode cX12_readLawLine 65 = .ok (.aload_n 0, 1) := by decide +kernel
theorem dX12_readLawLine_66 : decode cX12_readLawLine 66 = .ok (.getfield 13, 3) := by decide +kernel
theorem dX12_readLawLine_69 : decode cX12_readLawLine 69 = .ok (.iload_n 2, 1) := by decide +kernel
theorem dX12_readLawLine_70 : decode cX12_readLawLine 70 = .ok (.iconst 1, 1) := by decide +kernel
theorem dX12_readLawLine_71 : decode cX12_readLawLine 71 = .ok (.iadd, 1) := by decide +kernel
theorem dX12_readLawLine_72 : decode cX12_readLawLine 72 = .ok (.aload_n 0, 1) := by decide +kernel
theorem dX12_readLawLine_73 : decode cX12_readLawLine 73 = .ok (.iconst 0, 1) := by decide +kernel
theorem dX12_readLawLine_74 : decode cX12_readLawLine 74 = .ok (.bipush 60, 2) := by decide +kernel
theorem dX12_readLawLine_76 : decode cX12_readLawLine 76 = .ok (.invokevirtual 121, 3) := by decide +kernel
theorem dX12_readLawLine_79 : decode cX12_readLawLine 79 = .ok (.iastore, 1) := by decide +kernel
theorem dX12_readLawLine_80 : decode cX12_readLawLine 80 = .ok (.aload_n 0, 1) := by decide +kernel
theorem dX12_readLawLine_81 : decode cX12_readLawLine 81 = .ok (.getfield 13, 3) := by decide +kernel
theorem dX12_readLawLine_84 : decode cX12_readLawLine 84 = .ok (.iload_n 2, 1) := by decide +kernel
theorem dX12_readLawLine_85 : decode cX12_readLawLine 85 = .ok (.iconst 1, 1) := by decide +kernel
theorem dX12_readLawLine_86 : decode cX12_readLawLine 86 = .ok (.iadd, 1) := by decide +kernel
theorem dX12_readLawLine_87 : decode cX12_readLawLine 87 = .ok (.iaload, 1) := by decide +kernel
theorem dX12_readLawLine_88 : decode cX12_readLawLine 88 = .ok (.ifCond .ge 5, 3) := by decide +kernel
theorem dX12_readLawLine_91 : decode cX12_readLawLine 91 = .ok (.iconst 0, 1) := by decide +kernel
theorem dX12_readLawLine_92 : decode cX12_readLawLine 92 = .ok (.ireturn, 1) := by decide +kernel
theorem dX12_readLawLine_93 : decode cX12_readLawLine 93 = .ok (.aload_n 0, 1) := by decide +kernel
theorem dX12_readLawLine_94 : decode cX12_readLawLine 94 = .ok (.getfield 13, 3) := by decide +kernel
theorem dX12_readLawLine_97 : decode cX12_readLawLine 97 = .ok (.iload_n 2, 1) := by decide +kernel
theorem dX12_readLawLine_98 : decode cX12_readLawLine 98 = .ok (.iconst 2, 1) := by decide +kernel
theorem dX12_readLawLine_99 : decode cX12_readLawLine 99 = .ok (.iadd, 1) := by decide +kernel
theorem dX12_readLawLine_100 : decode cX12_readLawLine 100 = .ok (.aload_n 0, 1) := by decide +kernel
theorem dX12_readLawLine_101 : decode cX12_readLawLine 101 = .ok (.getfield 167, 3) := by decide +kernel
theorem dX12_readLawLine_104 : decode cX12_readLawLine 104 = .ok (.iastore, 1) := by decide +kernel
theorem dX12_readLawLine_105 : decode cX12_readLawLine 105 = .ok (.aload_n 0, 1) := by decide +kernel
theorem dX12_readLawLine_106 : decode cX12_readLawLine 106 = .ok (.iconst 0, 1) := by decide +kernel
theorem dX12_readLawLine_107 : decode cX12_readLawLine 107 = .ok (.putfield 195, 3) := by decide +kernel
theorem dX12_readLawLine_110 : decode cX12_readLawLine 110 = .ok (.aload_n 0, 1) := by decide +kernel
theorem dX12_readLawLine_111 : decode cX12_readLawLine 111 = .ok (.ldc 223, 2) := by decide +kernel
theorem dX12_readLawLine_113 : decode cX12_readLawLine 113 = .ok (.invokevirtual 126, 3) := by decide +kernel
theorem dX12_readLawLine_116 : decode cX12_readLawLine 116 = .ok (.ifCond .eq 12, 3) := by decide +kernel
theorem dX12_readLawLine_119 : decode cX12_readLawLine 119 = .ok (.aload_n 0, 1) := by decide +kernel
theorem dX12_readLawLine_120 : decode cX12_readLawLine 120 = .ok (.invokevirtual 198, 3) := by decide +kernel
theorem dX12_readLawLine_123 : decode cX12_readLawLine 123 = .ok (.ifCond .ne 5, 3) := by decide +kernel
theorem dX12_readLawLine_126 : decode cX12_readLawLine 126 = .ok (.iconst 0, 1) := by decide +kernel
theorem dX12_readLawLine_127 : decode cX12_readLawLine 127 = .ok (.ireturn, 1) := by decide +kernel
theorem dX12_readLawLine_128 : decode cX12_readLawLine 128 = .ok (.aload_n 0, 1) := by decide +kernel
theorem dX12_readLawLine_129 : decode cX12_readLawLine 129 = .ok (.getfield 13, 3) := by decide +kernel
theorem dX12_readLawLine_132 : decode cX12_readLawLine 132 = .ok (.iload_n 2, 1) := by decide +kernel
theorem dX12_readLawLine_133 : decode cX12_readLawLine 133 = .ok (.iconst 3, 1) := by decide +kernel
theorem dX12_readLawLine_134 : decode cX12_readLawLine 134 = .ok (.iadd, 1) := by decide +kernel
theorem dX12_readLawLine_135 : decode cX12_readLawLine 135 = .ok (.aload_n 0, 1) := by decide +kernel
theorem dX12_readLawLine_136 : decode cX12_readLawLine 136 = .ok (.getfield 167, 3) := by decide +kernel
theorem dX12_readLawLine_139 : decode cX12_readLawLine 139 = .ok (.iastore, 1) := by decide +kernel
theorem dX12_readLawLine_140 : decode cX12_readLawLine 140 = .ok (.iconst 1, 1) := by decide +kernel
theorem dX12_readLawLine_141 : decode cX12_readLawLine 141 = .ok (.ireturn, 1) := by decide +kernel
set_option maxRecDepth 20000 in
theorem ggX12_readLine_X12_letters : GoodIn wsX12_readLine wsX12_letters := goodIn_r _ [5, 6, 7, 8, 9, 4, 10, 11, 12, 13, 14, 15, 16, 17, 163, 164, 165, 166, 167, 168, 169, 170, 171, 172, 173, 174, 175, 176, 177, 178, 179, 180, 181, 182] (by decide +kernel) (by decide +kernel)
set_option maxRecDepth 20000 in
theorem gX12_readLine_X12_letters : GoodIn wsX12_readLine (wsV RX12 114 RX12 yX12_letters wsX12_letters) := goodIn_app (goodIn_of _ (by decide +kernel)) ggX12_readLine_X12_letters
set_option maxRecDepth 20000 in
theorem ggX12_readLine_X12_readHillLine : GoodIn wsX12_readLine wsX12_readHillLine := goodIn_r _ [21, 22, 23, 24, 4, 25, 6, 11, 17, 26, 27, 28, 29, 30, 31, 32, 33, 34, 35, 36, 37, 38, 39, 40, 41, 42, 43, 44, 45, 46, 47, 48, 49, 50, 51, 52, 53, 54, 55, 56, 57, 58, 59, 60, 61, 62, 63, 64, 65, 66, 67, 68, 69, 70, 71, 72, 73, 74, 75, 76, 77, 78, 79, 80, 81, 82, 83, 84, 85, 86, 87, 7, 8, 9, 10, 12, 13, 14, 15, 16, 88, 89, 90, 91, 1, 2, 3, 5, 92, 93, 94, 95, 96, 97, 98, 99, 100, 101, 102, 103, 104, 105, 106, 107, 108, 109, 110, 111, 112, 113, 114, 115, 116, 117, 118, 119, 120, 121, 122, 123, 124, 163, 164, 165, 166, 167, 168, 169, 170, 171, 172, 173, 174, 175, 176, 177, 178, 179, 180, 181, 182] (by decide +kernel) (by decide +kernel)
set_option maxRecDepth 20000 in
theorem gX12_readLine_X12_readHillLine : GoodIn wsX12_readLine (wsV RX12 225 RX12 yX12_readHillLine wsX12_readHillLine) := goodIn_app (goodIn_of _ (by decide +kernel)) ggX12_readLine_X12_readHillLine
set_option maxRecDepth 20000 in
theorem ggX12_readLine_X12_readLawLine : GoodIn wsX12_readLine wsX12_readLawLine := goodIn_r _ [128, 79, 129, 130, 22, 23, 24, 4, 25, 6, 11, 17, 26, 27, 28, 29, 30, 31, 32, 33, 34, 35, 36, 37, 38, 39, 40, 41, 42, 43, 44, 45, 46, 47, 48, 49, 50, 51, 52, 53, 54, 55, 56, 57, 58, 59, 60, 61, 62, 63, 64, 65, 66, 67, 68, 69, 70, 71, 72, 73, 74, 84, 85, 86, 87, 7, 8, 9, 10, 12, 13, 14, 15, 16, 88, 89, 90, 91, 1, 2, 3, 5, 131, 132, 133, 134, 135, 136, 137, 138, 139, 140, 141, 142, 143, 144, 145, 146, 147, 148, 149, 150, 151, 152, 153, 154, 155, 156, 157, 158, 159, 160, 161, 162, 163, 164, 165, 166, 167, 168, 169, 170, 171, 172, 173, 174, 175, 176, 177, 178, 179, 180, 181, 182] (by decide +kernel) (by decide +kernel)
set_option maxRecDepth 20000 in
theorem gX12_readLine_X12_readLawLine : GoodIn wsX12_readLine (wsV RX12 228 RX12 yX12_readLawLine wsX12_readLawLine) := goodIn_app (goodIn_of _ (by decide +kernel)) ggX12_readLine_X12_readLawLine
theorem dX12_readLine_0 : decode cX12_readLine 0 = .ok (.aload_n 0, 1) := by decide +kernel
theorem dX12_readLine_1 : decode cX12_readLine 1 = .ok (.invokevirtual 114, 3) := by decide +kernel
theorem dX12_readLine_4 : decode cX12_readLine 4 = .ok (.iload_n 2, 1) := by decide +kernel
theorem dX12_readLine_5 : decode cX12_readLine 5 = .ok (.iload_n 1, 1) := by decide +kernel
theorem dX12_readLine_6 : decode cX12_readLine 6 = .ok (.ifCond .eq 8, 3) := by decide +kernel
theorem dX12_readLine_9 : decode cX12_readLine 9 = .ok (.bipush 14, 2) := by decide +kernel
theorem dX12_readLine_11 : decode cX12_readLine 11 = .ok (.goto 5, 3) := by decide +kernel
theorem dX12_readLine_14 : decode cX12_readLine 14 = .ok (.bipush 12, 2) := by decide +kernel
theorem dX12_readLine_16 : decode cX12_readLine 16 = .ok (.if_icmp .ge 29, 3) := by decide +kernel
theorem dX12_readLine_19 : decode cX12_readLine 19 = .ok (.iload_n 1, 1) := by decide +kernel
theorem dX12_readLine_20 : decode cX12_readLine 20 = .ok (.ifCond .eq 13, 3) := by decide +kernel
theorem dX12_readLine_23 : decode cX12_readLine 23 = .ok (.aload_n 0, 1) := by decide +kernel
theorem dX12_readLine_24 : decode cX12_readLine 24 = .ok (.invokevirtual 225, 3) := by decide +kernel
theorem dX12_readLine_27 : decode cX12_readLine 27 = .ok (.ifCond .eq 18, 3) := by decide +kernel
theorem dX12_readLine_30 : decode cX12_readLine 30 = .ok (.goto 11, 3) := by decide +kernel
theorem dX12_readLine_33 : decode cX12_readLine 33 = .ok (.aload_n 0, 1) := by decide +kernel
theorem dX12_readLine_34 : decode cX12_readLine 34 = .ok (.iload_n 2, 1) := by decide +kernel
theorem dX12_readLine_35 : decode cX12_readLine 35 = .ok (.invokevirtual 228, 3) := by decide +kernel
theorem dX12_readLine_38 : decode cX12_readLine 38 = .ok (.ifCond .eq 7, 3) := by decide +kernel
theorem dX12_readLine_41 : decode cX12_readLine 41 = .ok (.iconst 1, 1) := by decide +kernel
theorem dX12_readLine_42 : decode cX12_readLine 42 = .ok (.goto 4, 3) := by decide +kernel
theorem dX12_readLine_45 : decode cX12_readLine 45 = .ok (.iconst 0, 1) := by decide +kernel
theorem dX12_readLine_46 : decode cX12_readLine 46 = .ok (.ireturn, 1) := by decide +kernel
set_option maxRecDepth 20000 in
theorem ggX12_readAll_X12_uses : GoodIn wsX12_readAll wsX12_uses := goodIn_r _ [8, 9, 10, 3, 2, 173, 174, 175, 176, 177, 178, 179, 180, 181, 182, 183, 184, 185, 186, 187, 188, 189, 190, 191, 192] (by decide +kernel) (by decide +kernel)
set_option maxRecDepth 20000 in
theorem gX12_readAll_X12_uses : GoodIn wsX12_readAll (wsV RX12 231 RX12 yX12_uses wsX12_uses) := goodIn_app (goodIn_of _ (by decide +kernel)) ggX12_readAll_X12_uses
set_option maxRecDepth 20000 in
theorem ggX12_readAll_X12_blanks : GoodIn wsX12_readAll wsX12_blanks := goodIn_r _ [14, 2, 15, 16, 17, 18, 7, 19, 3, 20, 173, 174, 175, 176, 177, 178, 179, 180, 181, 182, 183, 184, 185, 186, 187, 188, 189, 190, 191, 192] (by decide +kernel) (by decide +kernel)
set_option maxRecDepth 20000 in
theorem gX12_readAll_X12_blanks : GoodIn wsX12_readAll (wsV RX12 102 RX12 yX12_blanks wsX12_blanks) := goodIn_app (goodIn_of _ (by decide +kernel)) ggX12_readAll_X12_blanks
set_option maxRecDepth 20000 in
theorem ggX12_readAll_X12_readLine : GoodIn wsX12_readAll wsX12_readLine := goodIn_r _ [24, 25, 26, 27, 7, 28, 2, 11, 12, 13, 14, 15, 16, 17, 18, 19, 3, 20, 29, 30, 31, 32, 33, 34, 35, 36, 37, 38, 39, 40, 41, 42, 43, 44, 45, 46, 47, 48, 49, 50, 51, 52, 53, 54, 55, 56, 57, 58, 59, 60, 61, 62, 63, 64, 65, 66, 67, 68, 69, 70, 71, 72, 73, 74, 75, 76, 77, 78, 79, 80, 81, 82, 83, 84, 85, 86, 87, 88, 89, 90, 91, 92, 93, 94, 95, 96, 97, 98, 99, 100, 101, 102, 103, 104, 105, 106, 107, 108, 109, 110, 111, 112, 113, 114, 115, 116, 117, 118, 119, 120, 121, 122, 123, 124, 125, 126, 127, 128, 129, 130, 131, 132, 133, 134, 135, 136, 137, 138, 139, 1, 140, 141, 142, 143, 144, 145, 146, 147, 148, 149, 150, 151, 152, 153, 154, 155, 156, 157, 158, 159, 160, 161, 162, 163, 164, 165, 166, 167, 168, 169, 170, 171, 172, 173, 174, 175, 176, 177, 178, 179, 180, 181, 182, 183, 184, 185, 186, 187, 188, 189, 190, 191, 192] (by decide +kernel) (by decide +kernel)
set_option maxRecDepth 20000 in
theorem gX12_readAll_X12_readLine : GoodIn wsX12_readAll (wsV RX12 234 RX12 yX12_readLine wsX12_readLine) := goodIn_app (goodIn_of _ (by decide +kernel)) ggX12_readAll_X12_readLine
set_option maxRecDepth 20000 in
theorem ggX12_readAll_X12_isAt : GoodIn wsX12_readAll wsX12_isAt := goodIn_r _ [19, 2, 3, 20, 173, 174, 175, 176, 177, 178, 179, 180, 181, 182, 183, 184, 185, 186, 187, 188, 189, 190, 191, 192] (by decide +kernel) (by decide +kernel)
set_option maxRecDepth 20000 in
theorem gX12_readAll_X12_isAt : GoodIn wsX12_readAll (wsV RX12 95 RX12 yX12_isAt wsX12_isAt) := goodIn_app (goodIn_of _ (by decide +kernel)) ggX12_readAll_X12_isAt
theorem dX12_readAll_0 : decode cX12_readAll 0 = .ok (.aload_n 0, 1) := by decide +kernel
theorem dX12_readAll_1 : decode cX12_readAll 1 = .ok (.invokevirtual 231, 3) := by decide +kernel
theorem dX12_readAll_4 : decode cX12_readAll 4 = .ok (.aload_n 0, 1) := by decide +kernel
theorem dX12_readAll_5 : decode cX12_readAll 5 = .ok (.iconst 0, 1) := by decide +kernel
theorem dX12_readAll_6 : decode cX12_readAll 6 = .ok (.putfield 167, 3) := by decide +kernel
theorem dX12_readAll_9 : decode cX12_readAll 9 = .ok (.aload_n 0, 1) := by decide +kernel
theorem dX12_readAll_10 : decode cX12_readAll 10 = .ok (.invokevirtual 102, 3) := by decide +kernel
theorem dX12_readAll_13 : decode cX12_readAll 13 = .ok (.aload_n 0, 1) := by decide +kernel
theorem dX12_readAll_14 : decode cX12_readAll 14 = .ok (.getfield 89, 3) := by decide +kernel
theorem dX12_readAll_17 : decode cX12_readAll 17 = .ok (.aload_n 0, 1) := by decide +kernel
theorem dX12_readAll_18 : decode cX12_readAll 18 = .ok (.getfield 92, 3) := by decide +kernel
theorem dX12_readAll_21 : decode cX12_readAll 21 = .ok (.if_icmp .ne 5, 3) := by decide +kernel
theorem dX12_readAll_24 : decode cX12_readAll 24 = .ok (.iconst 0, 1) := by decide +kernel
theorem dX12_readAll_25 : decode cX12_readAll 25 = .ok (.ireturn, 1) := by decide +kernel
theorem dX12_readAll_26 : decode cX12_readAll 26 = .ok (.iconst 0, 1) := by decide +kernel
theorem dX12_readAll_27 : decode cX12_readAll 27 = .ok (.istore_n 2, 1) := by decide +kernel
theorem dX12_readAll_28 : decode cX12_readAll 28 = .ok (.aload_n 0, 1) := by decide +kernel
theorem dX12_readAll_29 : decode cX12_readAll 29 = .ok (.iload_n 1, 1) := by decide +kernel
theorem dX12_readAll_30 : decode cX12_readAll 30 = .ok (.iload_n 2, 1) := by decide +kernel
theorem dX12_readAll_31 : decode cX12_readAll 31 = .ok (.invokevirtual 234, 3) := by decide +kernel
theorem dX12_readAll_34 : decode cX12_readAll 34 = .ok (.ifCond .ne 5, 3) := by decide +kernel
theorem dX12_readAll_37 : decode cX12_readAll 37 = .ok (.iconst (-1), 1) := by decide +kernel
theorem dX12_readAll_38 : decode cX12_readAll 38 = .ok (.ireturn, 1) := by decide +kernel
theorem dX12_readAll_39 : decode cX12_readAll 39 = .ok (.aload_n 0, 1) := by decide +kernel
theorem dX12_readAll_40 : decode cX12_readAll 40 = .ok (.invokevirtual 102, 3) := by decide +kernel
theorem dX12_readAll_43 : decode cX12_readAll 43 = .ok (.aload_n 0, 1) := by decide +kernel
theorem dX12_readAll_44 : decode cX12_readAll 44 = .ok (.getfield 89, 3) := by decide +kernel
theorem dX12_readAll_47 : decode cX12_readAll 47 = .ok (.aload_n 0, 1) := by decide +kernel
theorem dX12_readAll_48 : decode cX12_readAll 48 = .ok (.getfield 92, 3) := by decide +kernel
theorem dX12_readAll_51 : decode cX12_readAll 51 = .ok (.if_icmp .ne 7, 3) := by decide +kernel
theorem dX12_readAll_54 : decode cX12_readAll 54 = .ok (.iload_n 2, 1) := by decide +kernel
theorem dX12_readAll_55 : decode cX12_readAll 55 = .ok (.iconst 1, 1) := by decide +kernel
theorem dX12_readAll_56 : decode cX12_readAll 56 = .ok (.iadd, 1) := by decide +kernel
theorem dX12_readAll_57 : decode cX12_readAll 57 = .ok (.ireturn, 1) := by decide +kernel
theorem dX12_readAll_58 : decode cX12_readAll 58 = .ok (.aload_n 0, 1) := by decide +kernel
theorem dX12_readAll_59 : decode cX12_readAll 59 = .ok (.bipush 59, 2) := by decide +kernel
theorem dX12_readAll_61 : decode cX12_readAll 61 = .ok (.bipush 59, 2) := by decide +kernel
theorem dX12_readAll_63 : decode cX12_readAll 63 = .ok (.invokevirtual 95, 3) := by decide +kernel
theorem dX12_readAll_66 : decode cX12_readAll 66 = .ok (.ifCond .ne 5, 3) := by decide +kernel
theorem dX12_readAll_69 : decode cX12_readAll 69 = .ok (.iconst (-1), 1) := by decide +kernel
theorem dX12_readAll_70 : decode cX12_readAll 70 = .ok (.ireturn, 1) := by decide +kernel
theorem dX12_readAll_71 : decode cX12_readAll 71 = .ok (.aload_n 0, 1) := by decide +kernel
theorem dX12_readAll_72 : decode cX12_readAll 72 = .ok (.dup, 1) := by decide +kernel
theorem dX12_readAll_73 : decode cX12_readAll 73 = .ok (.getfield 89, 3) := by decide +kernel
theorem dX12_readAll_76 : decode cX12_readAll 76 = .ok (.iconst 1, 1) := by decide +kernel
theorem dX12_readAll_77 : decode cX12_readAll 77 = .ok (.iadd, 1) := by decide +kernel
theorem dX12_readAll_78 : decode cX12_readAll 78 = .ok (.putfield 89, 3) := by decide +kernel
theorem dX12_readAll_81 : decode cX12_readAll 81 = .ok (.iinc 2 1, 3) := by decide +kernel
theorem dX12_readAll_84 : decode cX12_readAll 84 = .ok (.goto (-56), 3) := by decide +kernel
set_option maxRecDepth 20000 in
theorem ggX12_hill_X12_readAll : GoodIn wsX12_hill wsX12_readAll := goodIn_r _ [10, 11, 12, 13, 14, 15, 16, 9, 17, 18, 19, 20, 21, 22, 23, 3, 24, 25, 26, 27, 28, 29, 30, 31, 32, 33, 34, 35, 36, 37, 38, 39, 40, 41, 42, 43, 44, 45, 46, 47, 48, 49, 50, 51, 52, 53, 54, 55, 56, 57, 58, 59, 60, 61, 62, 63, 64, 65, 66, 67, 68, 69, 70, 71, 72, 73, 74, 75, 76, 77, 78, 79, 80, 81, 82, 83, 84, 85, 86, 87, 88, 89, 90, 91, 92, 93, 94, 95, 96, 97, 2, 98, 99, 100, 101, 102, 103, 104, 105, 106, 107, 108, 109, 110, 111, 112, 113, 114, 115, 116, 117, 118, 119, 120, 121, 122, 123, 124, 125, 126, 127, 128, 129, 130, 131, 132, 133, 134, 135, 136, 137, 138, 139, 140, 141, 142, 143, 144, 145, 146, 147, 148, 149, 150, 151, 152, 153, 154, 155, 156, 157, 158, 159, 160, 161, 162, 163, 164, 165, 166, 167, 168, 169, 170, 171, 172, 173, 174, 175, 176, 177, 178, 179, 184, 185, 186, 187, 188, 189, 190, 191, 192, 193, 194, 195, 196, 197, 198, 199, 200, 201, 202, 203] (by decide +kernel) (by decide +kernel)
set_option maxRecDepth 20000 in
theorem gX12_hill_X12_readAll : GoodIn wsX12_hill (wsV RX12 238 RX12 yX12_readAll wsX12_readAll) := goodIn_app (goodIn_of _ (by decide +kernel)) ggX12_hill_X12_readAll
set_option maxRecDepth 20000 in
theorem ggX12_hill_X12_throwsIf : GoodIn wsX12_hill wsX12_throwsIf := goodIn_r _ [183, 18, 184, 185, 186, 187, 188, 189, 190, 191, 192, 193, 194, 195, 196, 197, 198, 199, 200, 201, 202, 203] (by decide +kernel) (by decide +kernel)
set_option maxRecDepth 20000 in
theorem gX12_hill_X12_throwsIf : GoodIn wsX12_hill (wsV RX12 242 RX12 yX12_throwsIf wsX12_throwsIf) := goodIn_app (goodIn_of _ (by decide +kernel)) ggX12_hill_X12_throwsIf
theorem dX12_hill_0 : decode cX12_hill 0 = .ok (.iconst 0, 1) := by decide +kernel
theorem dX12_hill_1 : decode cX12_hill 1 = .ok (.istore_n 1, 1) := by decide +kernel
theorem dX12_hill_2 : decode cX12_hill 2 = .ok (.iload_n 1, 1) := by decide +kernel
theorem dX12_hill_3 : decode cX12_hill 3 = .ok (.sipush 1231, 3) := by decide +kernel
theorem dX12_hill_6 : decode cX12_hill 6 = .ok (.if_icmp .ge 21, 3) := by decide +kernel
theorem dX12_hill_9 : decode cX12_hill 9 = .ok (.aload_n 0, 1) := by decide +kernel
theorem dX12_hill_10 : decode cX12_hill 10 = .ok (.getfield 20, 3) := by decide +kernel
theorem dX12_hill_13 : decode cX12_hill 13 = .ok (.iload_n 1, 1) := by decide +kernel
theorem dX12_hill_14 : decode cX12_hill 14 = .ok (.aload_n 0, 1) := by decide +kernel
theorem dX12_hill_15 : decode cX12_hill 15 = .ok (.getfield 13, 3) := by decide +kernel
theorem dX12_hill_18 : decode cX12_hill 18 = .ok (.iload_n 1, 1) := by decide +kernel
theorem dX12_hill_19 : decode cX12_hill 19 = .ok (.iaload, 1) := by decide +kernel
theorem dX12_hill_20 : decode cX12_hill 20 = .ok (.iastore, 1) := by decide +kernel
theorem dX12_hill_21 : decode cX12_hill 21 = .ok (.iinc 1 1, 3) := by decide +kernel
theorem dX12_hill_24 : decode cX12_hill 24 = .ok (.goto (-22), 3) := by decide +kernel
theorem dX12_hill_27 : decode cX12_hill 27 = .ok (.aload_n 0, 1) := by decide +kernel
theorem dX12_hill_28 : decode cX12_hill 28 = .ok (.iconst 1, 1) := by decide +kernel
theorem dX12_hill_29 : decode cX12_hill 29 = .ok (.invokevirtual 238, 3) := by decide +kernel
theorem dX12_hill_32 : decode cX12_hill 32 = .ok (.istore_n 1, 1) := by decide +kernel
theorem dX12_hill_33 : decode cX12_hill 33 = .ok (.aload_n 0, 1) := by decide +kernel
theorem dX12_hill_34 : decode cX12_hill 34 = .ok (.iload_n 1, 1) := by decide +kernel
theorem dX12_hill_35 : decode cX12_hill 35 = .ok (.ifCond .ge 10, 3) := by decide +kernel
theorem dX12_hill_38 : decode cX12_hill 38 = .ok (.aload_n 0, 1) := by decide +kernel
theorem dX12_hill_39 : decode cX12_hill 39 = .ok (.getfield 99, 3) := by decide +kernel
theorem dX12_hill_42 : decode cX12_hill 42 = .ok (.goto 4, 3) := by decide +kernel
theorem dX12_hill_45 : decode cX12_hill 45 = .ok (.iconst (-1), 1) := by decide +kernel
theorem dX12_hill_46 : decode cX12_hill 46 = .ok (.putfield 33, 3) := by decide +kernel
theorem dX12_hill_49 : decode cX12_hill 49 = .ok (.aload_n 0, 1) := by decide +kernel
theorem dX12_hill_50 : decode cX12_hill 50 = .ok (.iload_n 1, 1) := by decide +kernel
theorem dX12_hill_51 : decode cX12_hill 51 = .ok (.ifCond .ge 7, 3) := by decide +kernel
theorem dX12_hill_54 : decode cX12_hill 54 = .ok (.iconst 1, 1) := by decide +kernel
theorem dX12_hill_55 : decode cX12_hill 55 = .ok (.goto 4, 3) := by decide +kernel
theorem dX12_hill_58 : decode cX12_hill 58 = .ok (.iconst 0, 1) := by decide +kernel
theorem dX12_hill_59 : decode cX12_hill 59 = .ok (.iconst 1, 1) := by decide +kernel
theorem dX12_hill_60 : decode cX12_hill 60 = .ok (.invokevirtual 242, 3) := by decide +kernel
theorem dX12_hill_63 : decode cX12_hill 63 = .ok (.ifCond .ne 27, 3) := by decide +kernel
theorem dX12_hill_66 : decode cX12_hill 66 = .ok (.aload_n 0, 1) := by decide +kernel
theorem dX12_hill_67 : decode cX12_hill 67 = .ok (.aload_n 0, 1) := by decide +kernel
theorem dX12_hill_68 : decode cX12_hill 68 = .ok (.getfield 13, 3) := by decide +kernel
theorem dX12_hill_71 : decode cX12_hill 71 = .ok (.iconst 2, 1) := by decide +kernel
theorem dX12_hill_72 : decode cX12_hill 72 = .ok (.iaload, 1) := by decide +kernel
theorem dX12_hill_73 : decode cX12_hill 73 = .ok (.bipush 12, 2) := by decide +kernel
theorem dX12_hill_75 : decode cX12_hill 75 = .ok (.if_icmp .ne 7, 3) := by decide +kernel
theorem dX12_hill_78 : decode cX12_hill 78 = .ok (.iconst 1, 1) := by decide +kernel
theorem dX12_hill_79 : decode cX12_hill 79 = .ok (.goto 4, 3) := by decide +kernel
theorem dX12_hill_82 : decode cX12_hill 82 = .ok (.iconst 0, 1) := by decide +kernel
theorem dX12_hill_83 : decode cX12_hill 83 = .ok (.iconst 2, 1) := by decide +kernel
theorem dX12_hill_84 : decode cX12_hill 84 = .ok (.invokevirtual 242, 3) := by decide +kernel
theorem dX12_hill_87 : decode cX12_hill 87 = .ok (.ifCond .eq 32, 3) := by decide +kernel
theorem dX12_hill_90 : decode cX12_hill 90 = .ok (.iconst 0, 1) := by decide +kernel
theorem dX12_hill_91 : decode cX12_hill 91 = .ok (.istore_n 2, 1) := by decide +kernel
theorem dX12_hill_92 : decode cX12_hill 92 = .ok (.iload_n 2, 1) := by decide +kernel
theorem dX12_hill_93 : decode cX12_hill 93 = .ok (.sipush 1231, 3) := by decide +kernel
theorem dX12_hill_96 : decode cX12_hill 96 = .ok (.if_icmp .ge 21, 3) := by decide +kernel
theorem dX12_hill_99 : decode cX12_hill 99 = .ok (.aload_n 0, 1) := by decide +kernel
theorem dX12_hill_100 : decode cX12_hill 100 = .ok (.getfield 13, 3) := by decide +kernel
theorem dX12_hill_103 : decode cX12_hill 103 = .ok (.iload_n 2, 1) := by decide +kernel
theorem dX12_hill_104 : decode cX12_hill 104 = .ok (.aload_n 0, 1) := by decide +kernel
theorem dX12_hill_105 : decode cX12_hill 105 = .ok (.getfield 20, 3) := by decide +kernel
theorem dX12_hill_108 : decode cX12_hill 108 = .ok (.iload_n 2, 1) := by decide +kernel
theorem dX12_hill_109 : decode cX12_hill 109 = .ok (.iaload, 1) := by decide +kernel
theorem dX12_hill_110 : decode cX12_hill 110 = .ok (.iastore, 1) := by decide +kernel
theorem dX12_hill_111 : decode cX12_hill 111 = .ok (.iinc 2 1, 3) := by decide +kernel
theorem dX12_hill_114 : decode cX12_hill 114 = .ok (.goto (-22), 3) := by decide +kernel
theorem dX12_hill_117 : decode cX12_hill 117 = .ok (.iconst 0, 1) := by decide +kernel
theorem dX12_hill_118 : decode cX12_hill 118 = .ok (.ireturn, 1) := by decide +kernel
theorem dX12_hill_119 : decode cX12_hill 119 = .ok (.aload_n 0, 1) := by decide +kernel
theorem dX12_hill_120 : decode cX12_hill 120 = .ok (.getfield 13, 3) := by decide +kernel
theorem dX12_hill_123 : decode cX12_hill 123 = .ok (.iconst 2, 1) := by decide +kernel
theorem dX12_hill_124 : decode cX12_hill 124 = .ok (.dup2, 1) := by decide +kernel
theorem dX12_hill_125 : decode cX12_hill 125 = .ok (.iaload, 1) := by decide +kernel
theorem dX12_hill_126 : decode cX12_hill 126 = .ok (.iconst 1, 1) := by decide +kernel
theorem dX12_hill_127 : decode cX12_hill 127 = .ok (.iadd, 1) := by decide +kernel
theorem dX12_hill_128 : decode cX12_hill 128 = .ok (.iastore, 1) := by decide +kernel
theorem dX12_hill_129 : decode cX12_hill 129 = .ok (.aload_n 0, 1) := by decide +kernel
theorem dX12_hill_130 : decode cX12_hill 130 = .ok (.iconst 0, 1) := by decide +kernel
theorem dX12_hill_131 : decode cX12_hill 131 = .ok (.putfield 52, 3) := by decide +kernel
theorem dX12_hill_134 : decode cX12_hill 134 = .ok (.aload_n 0, 1) := by decide +kernel
theorem dX12_hill_135 : decode cX12_hill 135 = .ok (.getfield 13, 3) := by decide +kernel
theorem dX12_hill_138 : decode cX12_hill 138 = .ok (.iconst 2, 1) := by decide +kernel
theorem dX12_hill_139 : decode cX12_hill 139 = .ok (.iaload, 1) := by decide +kernel
theorem dX12_hill_140 : decode cX12_hill 140 = .ok (.ireturn, 1) := by decide +kernel
set_option maxRecDepth 20000 in
theorem ggX12_law_X12_readAll : GoodIn wsX12_law wsX12_readAll := goodIn_r _ [9, 10, 11, 12, 13, 14, 15, 8, 16, 17, 18, 19, 20, 21, 22, 1, 23, 24, 25, 26, 27, 28, 29, 30, 31, 32, 33, 34, 35, 36, 37, 38, 39, 40, 41, 42, 43, 44, 45, 46, 47, 48, 49, 50, 51, 52, 53, 54, 55, 56, 57, 58, 59, 60, 61, 62, 63, 64, 65, 66, 67, 68, 69, 70, 71, 72, 73, 74, 75, 76, 77, 78, 79, 80, 81, 82, 83, 84, 85, 86, 87, 88, 89, 90, 91, 92, 93, 94, 95, 96, 3, 97, 98, 99, 100, 101, 102, 103, 104, 105, 106, 107, 108, 109, 110, 111, 112, 113, 114, 115, 116, 117, 118, 119, 120, 121, 122, 123, 124, 125, 126, 127, 128, 129, 130, 131, 132, 133, 134, 135, 136, 137, 138, 139, 140, 141, 142, 143, 144, 145, 146, 147, 148, 149, 150, 151, 152, 153, 154, 155, 156, 157, 158, 159, 160, 161, 162, 163, 164, 165, 166, 167, 168, 169, 170, 171, 172, 173, 174, 175, 176, 177, 178, 183, 184, 185, 186, 187, 188, 189, 190, 191, 192, 193, 194, 195, 196, 197, 198, 199, 200, 201, 202] (by decide +kernel) (by decide +kernel)
set_option maxRecDepth 20000 in
theorem gX12_law_X12_readAll : GoodIn wsX12_law (wsV RX12 238 RX12 yX12_readAll wsX12_readAll) := goodIn_app (goodIn_of _ (by decide +kernel)) ggX12_law_X12_readAll
set_option maxRecDepth 20000 in
theorem ggX12_law_X12_throwsIf : GoodIn wsX12_law wsX12_throwsIf := goodIn_r _ [182, 17, 183, 184, 185, 186, 187, 188, 189, 190, 191, 192, 193, 194, 195, 196, 197, 198, 199, 200, 201, 202] (by decide +kernel) (by decide +kernel)
set_option maxRecDepth 20000 in
theorem gX12_law_X12_throwsIf : GoodIn wsX12_law (wsV RX12 242 RX12 yX12_throwsIf wsX12_throwsIf) := goodIn_app (goodIn_of _ (by decide +kernel)) ggX12_law_X12_throwsIf
theorem dX12_law_0 : decode cX12_law 0 = .ok (.aload_n 0, 1) := by decide +kernel
theorem dX12_law_1 : decode cX12_law 1 = .ok (.iconst 0, 1) := by decide +kernel
theorem dX12_law_2 : decode cX12_law 2 = .ok (.invokevirtual 238, 3) := by decide +kernel
theorem dX12_law_5 : decode cX12_law 5 = .ok (.istore_n 1, 1) := by decide +kernel
theorem dX12_law_6 : decode cX12_law 6 = .ok (.aload_n 0, 1) := by decide +kernel
theorem dX12_law_7 : decode cX12_law 7 = .ok (.iload_n 1, 1) := by decide +kernel
theorem dX12_law_8 : decode cX12_law 8 = .ok (.ifCond .ge 10, 3) := by decide +kernel
theorem dX12_law_11 : decode cX12_law 11 = .ok (.aload_n 0, 1) := by decide +kernel
theorem dX12_law_12 : decode cX12_law 12 = .ok (.getfield 99, 3) := by decide +kernel
theorem dX12_law_15 : decode cX12_law 15 = .ok (.goto 4, 3) := by decide +kernel
theorem dX12_law_18 : decode cX12_law 18 = .ok (.iconst (-1), 1) := by decide +kernel
theorem dX12_law_19 : decode cX12_law 19 = .ok (.putfield 33, 3) := by decide +kernel
theorem dX12_law_22 : decode cX12_law 22 = .ok (.aload_n 0, 1) := by decide +kernel
theorem dX12_law_23 : decode cX12_law 23 = .ok (.iload_n 1, 1) := by decide +kernel
theorem dX12_law_24 : decode cX12_law 24 = .ok (.ifCond .ge 7, 3) := by decide +kernel
theorem dX12_law_27 : decode cX12_law 27 = .ok (.iconst 1, 1) := by decide +kernel
theorem dX12_law_28 : decode cX12_law 28 = .ok (.goto 4, 3) := by decide +kernel
theorem dX12_law_31 : decode cX12_law 31 = .ok (.iconst 0, 1) := by decide +kernel
theorem dX12_law_32 : decode cX12_law 32 = .ok (.iconst 1, 1) := by decide +kernel
theorem dX12_law_33 : decode cX12_law 33 = .ok (.invokevirtual 242, 3) := by decide +kernel
theorem dX12_law_36 : decode cX12_law 36 = .ok (.ifCond .eq 5, 3) := by decide +kernel
theorem dX12_law_39 : decode cX12_law 39 = .ok (.iconst 0, 1) := by decide +kernel
theorem dX12_law_40 : decode cX12_law 40 = .ok (.ireturn, 1) := by decide +kernel
theorem dX12_law_41 : decode cX12_law 41 = .ok (.aload_n 0, 1) := by decide +kernel
theorem dX12_law_42 : decode cX12_law 42 = .ok (.getfield 13, 3) := by decide +kernel
theorem dX12_law_45 : decode cX12_law 45 = .ok (.sipush 1231, 3) := by decide +kernel
theorem dX12_law_48 : decode cX12_law 48 = .ok (.iload_n 1, 1) := by decide +kernel
theorem dX12_law_49 : decode cX12_law 49 = .ok (.iastore, 1) := by decide +kernel
theorem dX12_law_50 : decode cX12_law 50 = .ok (.iconst 0, 1) := by decide +kernel
theorem dX12_law_51 : decode cX12_law 51 = .ok (.istore_n 2, 1) := by decide +kernel
theorem dX12_law_52 : decode cX12_law 52 = .ok (.iload_n 2, 1) := by decide +kernel
theorem dX12_law_53 : decode cX12_law 53 = .ok (.sipush 849, 3) := by decide +kernel
theorem dX12_law_56 : decode cX12_law 56 = .ok (.if_icmp .ge 29, 3) := by decide +kernel
theorem dX12_law_59 : decode cX12_law 59 = .ok (.aload_n 0, 1) := by decide +kernel
theorem dX12_law_60 : decode cX12_law 60 = .ok (.getfield 13, 3) := by decide +kernel
theorem dX12_law_63 : decode cX12_law 63 = .ok (.sipush 382, 3) := by decide +kernel
theorem dX12_law_66 : decode cX12_law 66 = .ok (.iload_n 2, 1) := by decide +kernel
theorem dX12_law_67 : decode cX12_law 67 = .ok (.iadd, 1) := by decide +kernel
theorem dX12_law_68 : decode cX12_law 68 = .ok (.aload_n 0, 1) := by decide +kernel
theorem dX12_law_69 : decode cX12_law 69 = .ok (.getfield 13, 3) := by decide +kernel
theorem dX12_law_72 : decode cX12_law 72 = .ok (.sipush 1231, 3) := by decide +kernel
theorem dX12_law_75 : decode cX12_law 75 = .ok (.iload_n 2, 1) := by decide +kernel
theorem dX12_law_76 : decode cX12_law 76 = .ok (.iadd, 1) := by decide +kernel
theorem dX12_law_77 : decode cX12_law 77 = .ok (.iaload, 1) := by decide +kernel
theorem dX12_law_78 : decode cX12_law 78 = .ok (.iastore, 1) := by decide +kernel
theorem dX12_law_79 : decode cX12_law 79 = .ok (.iinc 2 1, 3) := by decide +kernel
theorem dX12_law_82 : decode cX12_law 82 = .ok (.goto (-30), 3) := by decide +kernel
theorem dX12_law_85 : decode cX12_law 85 = .ok (.aload_n 0, 1) := by decide +kernel
theorem dX12_law_86 : decode cX12_law 86 = .ok (.getfield 13, 3) := by decide +kernel
theorem dX12_law_89 : decode cX12_law 89 = .ok (.iconst 3, 1) := by decide +kernel
theorem dX12_law_90 : decode cX12_law 90 = .ok (.iconst 1, 1) := by decide +kernel
theorem dX12_law_91 : decode cX12_law 91 = .ok (.iastore, 1) := by decide +kernel
theorem dX12_law_92 : decode cX12_law 92 = .ok (.aload_n 0, 1) := by decide +kernel
theorem dX12_law_93 : decode cX12_law 93 = .ok (.iconst 0, 1) := by decide +kernel
theorem dX12_law_94 : decode cX12_law 94 = .ok (.putfield 52, 3) := by decide +kernel
theorem dX12_law_97 : decode cX12_law 97 = .ok (.iload_n 1, 1) := by decide +kernel
theorem dX12_law_98 : decode cX12_law 98 = .ok (.ireturn, 1) := by decide +kernel
set_option maxRecDepth 20000 in
theorem ggX12_thingsIn_X12_things : GoodIn wsX12_thingsIn wsX12_things := goodIn_r _ [5, 6, 14, 15, 16, 17, 18, 19, 20, 21, 22, 23, 24, 25, 26, 27, 28, 29, 30, 31, 32, 33] (by decide +kernel) (by decide +kernel)
set_option maxRecDepth 20000 in
theorem gX12_thingsIn_X12_things : GoodIn wsX12_thingsIn (wsV RX12 82 RX12 yX12_things wsX12_things) := goodIn_app (goodIn_of _ (by decide +kernel)) ggX12_thingsIn_X12_things
set_option maxRecDepth 20000 in
theorem ggX12_thingsIn_X12_ofThing : GoodIn wsX12_thingsIn wsX12_ofThing := goodIn_r _ [10, 6, 11, 12, 4, 13, 14, 15, 16, 17, 18, 19, 20, 21, 22, 23, 24, 25, 26, 27, 28, 29, 30, 31, 32, 33] (by decide +kernel) (by decide +kernel)
set_option maxRecDepth 20000 in
theorem gX12_thingsIn_X12_ofThing : GoodIn wsX12_thingsIn (wsV RX12 72 RX12 yX12_ofThing wsX12_ofThing) := goodIn_app (goodIn_of _ (by decide +kernel)) ggX12_thingsIn_X12_ofThing
theorem dX12_thingsIn_0 : decode cX12_thingsIn 0 = .ok (.iconst 0, 1) := by decide +kernel
theorem dX12_thingsIn_1 : decode cX12_thingsIn 1 = .ok (.istore_n 2, 1) := by decide +kernel
theorem dX12_thingsIn_2 : decode cX12_thingsIn 2 = .ok (.iconst 0, 1) := by decide +kernel
theorem dX12_thingsIn_3 : decode cX12_thingsIn 3 = .ok (.istore_n 3, 1) := by decide +kernel
theorem dX12_thingsIn_4 : decode cX12_thingsIn 4 = .ok (.iload_n 3, 1) := by decide +kernel
theorem dX12_thingsIn_5 : decode cX12_thingsIn 5 = .ok (.aload_n 0, 1) := by decide +kernel
theorem dX12_thingsIn_6 : decode cX12_thingsIn 6 = .ok (.invokevirtual 82, 3) := by decide +kernel
theorem dX12_thingsIn_9 : decode cX12_thingsIn 9 = .ok (.if_icmp .ge 29, 3) := by decide +kernel
theorem dX12_thingsIn_12 : decode cX12_thingsIn 12 = .ok (.iload_n 2, 1) := by decide +kernel
theorem dX12_thingsIn_13 : decode cX12_thingsIn 13 = .ok (.aload_n 0, 1) := by decide +kernel
theorem dX12_thingsIn_14 : decode cX12_thingsIn 14 = .ok (.iload_n 3, 1) := by decide +kernel
theorem dX12_thingsIn_15 : decode cX12_thingsIn 15 = .ok (.iconst 2, 1) := by decide +kernel
theorem dX12_thingsIn_16 : decode cX12_thingsIn 16 = .ok (.invokevirtual 72, 3) := by decide +kernel
theorem dX12_thingsIn_19 : decode cX12_thingsIn 19 = .ok (.iload_n 1, 1) := by decide +kernel
theorem dX12_thingsIn_20 : decode cX12_thingsIn 20 = .ok (.if_icmp .ne 9, 3) := by decide +kernel
theorem dX12_thingsIn_23 : decode cX12_thingsIn 23 = .ok (.iconst 1, 1) := by decide +kernel
theorem dX12_thingsIn_24 : decode cX12_thingsIn 24 = .ok (.iload_n 3, 1) := by decide +kernel
theorem dX12_thingsIn_25 : decode cX12_thingsIn 25 = .ok (.ishl, 1) := by decide +kernel
theorem dX12_thingsIn_26 : decode cX12_thingsIn 26 = .ok (.goto 4, 3) := by decide +kernel
theorem dX12_thingsIn_29 : decode cX12_thingsIn 29 = .ok (.iconst 0, 1) := by decide +kernel
theorem dX12_thingsIn_30 : decode cX12_thingsIn 30 = .ok (.ior, 1) := by decide +kernel
theorem dX12_thingsIn_31 : decode cX12_thingsIn 31 = .ok (.istore_n 2, 1) := by decide +kernel
theorem dX12_thingsIn_32 : decode cX12_thingsIn 32 = .ok (.iinc 3 1, 3) := by decide +kernel
theorem dX12_thingsIn_35 : decode cX12_thingsIn 35 = .ok (.goto (-31), 3) := by decide +kernel
theorem dX12_thingsIn_38 : decode cX12_thingsIn 38 = .ok (.iload_n 2, 1) := by decide +kernel
theorem dX12_thingsIn_39 : decode cX12_thingsIn 39 = .ok (.ireturn, 1) := by decide +kernel
set_option maxRecDepth 20000 in
theorem ggX12_weightOf_X12_things : GoodIn wsX12_weightOf wsX12_things := goodIn_r _ [5, 6, 17, 18, 19, 20, 21, 22, 23, 24, 25, 26, 27, 28, 29, 30, 31, 32, 33, 34, 35, 36] (by decide +kernel) (by decide +kernel)
set_option maxRecDepth 20000 in
theorem gX12_weightOf_X12_things : GoodIn wsX12_weightOf (wsV RX12 82 RX12 yX12_things wsX12_things) := goodIn_app (goodIn_of _ (by decide +kernel)) ggX12_weightOf_X12_things
set_option maxRecDepth 20000 in
theorem ggX12_weightOf_X12_holds : GoodIn wsX12_weightOf wsX12_holds := goodIn_r _ [9] (by decide +kernel) (by decide +kernel)
set_option maxRecDepth 20000 in
theorem gX12_weightOf_X12_holds : GoodIn wsX12_weightOf (va_wsS RX12 245 yX12_holds wsX12_holds) := goodIn_app (goodIn_of _ (by decide +kernel)) ggX12_weightOf_X12_holds
set_option maxRecDepth 20000 in
theorem ggX12_weightOf_X12_ofThing : GoodIn wsX12_weightOf wsX12_ofThing := goodIn_r _ [13, 6, 14, 15, 4, 16, 17, 18, 19, 20, 21, 22, 23, 24, 25, 26, 27, 28, 29, 30, 31, 32, 33, 34, 35, 36] (by decide +kernel) (by decide +kernel)
set_option maxRecDepth 20000 in
theorem gX12_weightOf_X12_ofThing : GoodIn wsX12_weightOf (wsV RX12 72 RX12 yX12_ofThing wsX12_ofThing) := goodIn_app (goodIn_of _ (by decide +kernel)) ggX12_weightOf_X12_ofThing
theorem dX12_weightOf_0 : decode cX12_weightOf 0 = .ok (.iconst 0, 1) := by decide +kernel
theorem dX12_weightOf_1 : decode cX12_weightOf 1 = .ok (.istore_n 2, 1) := by decide +kernel
theorem dX12_weightOf_2 : decode cX12_weightOf 2 = .ok (.iconst 0, 1) := by decide +kernel
theorem dX12_weightOf_3 : decode cX12_weightOf 3 = .ok (.istore_n 3, 1) := by decide +kernel
theorem dX12_weightOf_4 : decode cX12_weightOf 4 = .ok (.iload_n 3, 1) := by decide +kernel
theorem dX12_weightOf_5 : decode cX12_weightOf 5 = .ok (.aload_n 0, 1) := by decide +kernel
theorem dX12_weightOf_6 : decode cX12_weightOf 6 = .ok (.invokevirtual 82, 3) := by decide +kernel
theorem dX12_weightOf_9 : decode cX12_weightOf 9 = .ok (.if_icmp .ge 30, 3) := by decide +kernel
theorem dX12_weightOf_12 : decode cX12_weightOf 12 = .ok (.iload_n 2, 1) := by decide +kernel
theorem dX12_weightOf_13 : decode cX12_weightOf 13 = .ok (.iload_n 1, 1) := by decide +kernel
theorem dX12_weightOf_14 : decode cX12_weightOf 14 = .ok (.iload_n 3, 1) := by decide +kernel
theorem dX12_weightOf_15 : decode cX12_weightOf 15 = .ok (.invokestatic 245, 3) := by decide +kernel
theorem dX12_weightOf_18 : decode cX12_weightOf 18 = .ok (.ifCond .eq 12, 3) := by decide +kernel
theorem dX12_weightOf_21 : decode cX12_weightOf 21 = .ok (.aload_n 0, 1) := by decide +kernel
theorem dX12_weightOf_22 : decode cX12_weightOf 22 = .ok (.iload_n 3, 1) := by decide +kernel
theorem dX12_weightOf_23 : decode cX12_weightOf 23 = .ok (.iconst 0, 1) := by decide +kernel
theorem dX12_weightOf_24 : decode cX12_weightOf 24 = .ok (.invokevirtual 72, 3) := by decide +kernel
theorem dX12_weightOf_27 : decode cX12_weightOf 27 = .ok (.goto 4, 3) := by decide +kernel
theorem dX12_weightOf_30 : decode cX12_weightOf 30 = .ok (.iconst 0, 1) := by decide +kernel
theorem dX12_weightOf_31 : decode cX12_weightOf 31 = .ok (.iadd, 1) := by decide +kernel
theorem dX12_weightOf_32 : decode cX12_weightOf 32 = .ok (.istore_n 2, 1) := by decide +kernel
theorem dX12_weightOf_33 : decode cX12_weightOf 33 = .ok (.iinc 3 1, 3) := by decide +kernel
theorem dX12_weightOf_36 : decode cX12_weightOf 36 = .ok (.goto (-32), 3) := by decide +kernel
theorem dX12_weightOf_39 : decode cX12_weightOf 39 = .ok (.iload_n 2, 1) := by decide +kernel
theorem dX12_weightOf_40 : decode cX12_weightOf 40 = .ok (.ireturn, 1) := by decide +kernel
set_option maxRecDepth 20000 in
theorem ggX12_worthOf_X12_things : GoodIn wsX12_worthOf wsX12_things := goodIn_r _ [5, 6, 17, 18, 19, 20, 21, 22, 23, 24, 25, 26, 27, 28, 29, 30, 31, 32, 33, 34, 35, 36] (by decide +kernel) (by decide +kernel)
set_option maxRecDepth 20000 in
theorem gX12_worthOf_X12_things : GoodIn wsX12_worthOf (wsV RX12 82 RX12 yX12_things wsX12_things) := goodIn_app (goodIn_of _ (by decide +kernel)) ggX12_worthOf_X12_things
set_option maxRecDepth 20000 in
theorem ggX12_worthOf_X12_holds : GoodIn wsX12_worthOf wsX12_holds := goodIn_r _ [9] (by decide +kernel) (by decide +kernel)
set_option maxRecDepth 20000 in
theorem gX12_worthOf_X12_holds : GoodIn wsX12_worthOf (va_wsS RX12 245 yX12_holds wsX12_holds) := goodIn_app (goodIn_of _ (by decide +kernel)) ggX12_worthOf_X12_holds
set_option maxRecDepth 20000 in
theorem ggX12_worthOf_X12_ofThing : GoodIn wsX12_worthOf wsX12_ofThing := goodIn_r _ [13, 6, 14, 15, 4, 16, 17, 18, 19, 20, 21, 22, 23, 24, 25, 26, 27, 28, 29, 30, 31, 32, 33, 34, 35, 36] (by decide +kernel) (by decide +kernel)
set_option maxRecDepth 20000 in
theorem gX12_worthOf_X12_ofThing : GoodIn wsX12_worthOf (wsV RX12 72 RX12 yX12_ofThing wsX12_ofThing) := goodIn_app (goodIn_of _ (by decide +kernel)) ggX12_worthOf_X12_ofThing
theorem dX12_worthOf_0 : decode cX12_worthOf 0 = .ok (.iconst 0, 1) := by decide +kernel
theorem dX12_worthOf_1 : decode cX12_worthOf 1 = .ok (.istore_n 2, 1) := by decide +kernel
theorem dX12_worthOf_2 : decode cX12_worthOf 2 = .ok (.iconst 0, 1) := by decide +kernel
theorem dX12_worthOf_3 : decode cX12_worthOf 3 = .ok (.istore_n 3, 1) := by decide +kernel
theorem dX12_worthOf_4 : decode cX12_worthOf 4 = .ok (.iload_n 3, 1) := by decide +kernel
theorem dX12_worthOf_5 : decode cX12_worthOf 5 = .ok (.aload_n 0, 1) := by decide +kernel
theorem dX12_worthOf_6 : decode cX12_worthOf 6 = .ok (.invokevirtual 82, 3) := by decide +kernel
theorem dX12_worthOf_9 : decode cX12_worthOf 9 = .ok (.if_icmp .ge 30, 3) := by decide +kernel
theorem dX12_worthOf_12 : decode cX12_worthOf 12 = .ok (.iload_n 2, 1) := by decide +kernel
theorem dX12_worthOf_13 : decode cX12_worthOf 13 = .ok (.iload_n 1, 1) := by decide +kernel
theorem dX12_worthOf_14 : decode cX12_worthOf 14 = .ok (.iload_n 3, 1) := by decide +kernel
theorem dX12_worthOf_15 : decode cX12_worthOf 15 = .ok (.invokestatic 245, 3) := by decide +kernel
theorem dX12_worthOf_18 : decode cX12_worthOf 18 = .ok (.ifCond .eq 12, 3) := by decide +kernel
theorem dX12_worthOf_21 : decode cX12_worthOf 21 = .ok (.aload_n 0, 1) := by decide +kernel
theorem dX12_worthOf_22 : decode cX12_worthOf 22 = .ok (.iload_n 3, 1) := by decide +kernel
theorem dX12_worthOf_23 : decode cX12_worthOf 23 = .ok (.iconst 1, 1) := by decide +kernel
theorem dX12_worthOf_24 : decode cX12_worthOf 24 = .ok (.invokevirtual 72, 3) := by decide +kernel
theorem dX12_worthOf_27 : decode cX12_worthOf 27 = .ok (.goto 4, 3) := by decide +kernel
theorem dX12_worthOf_30 : decode cX12_worthOf 30 = .ok (.iconst 0, 1) := by decide +kernel
theorem dX12_worthOf_31 : decode cX12_worthOf 31 = .ok (.iadd, 1) := by decide +kernel
theorem dX12_worthOf_32 : decode cX12_worthOf 32 = .ok (.istore_n 2, 1) := by decide +kernel
theorem dX12_worthOf_33 : decode cX12_worthOf 33 = .ok (.iinc 3 1, 3) := by decide +kernel
theorem dX12_worthOf_36 : decode cX12_worthOf 36 = .ok (.goto (-32), 3) := by decide +kernel
theorem dX12_worthOf_39 : decode cX12_worthOf 39 = .ok (.iload_n 2, 1) := by decide +kernel
theorem dX12_worthOf_40 : decode cX12_worthOf 40 = .ok (.ireturn, 1) := by decide +kernel
set_option maxRecDepth 20000 in
theorem ggX12_loadOf_X12_thingsIn : GoodIn wsX12_loadOf wsX12_thingsIn := goodIn_r _ [6, 7, 8, 9, 5, 10, 1, 11, 12, 13, 14, 15, 16, 17, 32, 33, 34, 35, 36, 37, 38, 39, 40, 41, 42, 43, 44, 45, 46, 47, 48, 49, 50, 51] (by decide +kernel) (by decide +kernel)
set_option maxRecDepth 20000 in
theorem gX12_loadOf_X12_thingsIn : GoodIn wsX12_loadOf (wsV RX12 248 RX12 yX12_thingsIn wsX12_thingsIn) := goodIn_app (goodIn_of _ (by decide +kernel)) ggX12_loadOf_X12_thingsIn
set_option maxRecDepth 20000 in
theorem ggX12_loadOf_X12_weightOf : GoodIn wsX12_loadOf wsX12_weightOf := goodIn_r _ [21, 7, 8, 9, 5, 10, 1, 22, 23, 24, 11, 12, 13, 14, 15, 16, 17, 32, 33, 34, 35, 36, 37, 38, 39, 40, 41, 42, 43, 44, 45, 46, 47, 48, 49, 50, 51] (by decide +kernel) (by decide +kernel)
set_option maxRecDepth 20000 in
theorem gX12_loadOf_X12_weightOf : GoodIn wsX12_loadOf (wsV RX12 252 RX12 yX12_weightOf wsX12_weightOf) := goodIn_app (goodIn_of _ (by decide +kernel)) ggX12_loadOf_X12_weightOf
set_option maxRecDepth 20000 in
theorem ggX12_loadOf_X12_of : GoodIn wsX12_loadOf wsX12_of := goodIn_r _ [28, 1, 29, 30, 5, 31, 32, 33, 34, 35, 36, 37, 38, 39, 40, 41, 42, 43, 44, 45, 46, 47, 48, 49, 50, 51] (by decide +kernel) (by decide +kernel)
set_option maxRecDepth 20000 in
theorem gX12_loadOf_X12_of : GoodIn wsX12_loadOf (wsV RX12 255 RX12 yX12_of wsX12_of) := goodIn_app (goodIn_of _ (by decide +kernel)) ggX12_loadOf_X12_of
theorem dX12_loadOf_0 : decode cX12_loadOf 0 = .ok (.aload_n 0, 1) := by decide +kernel
theorem dX12_loadOf_1 : decode cX12_loadOf 1 = .ok (.aload_n 0, 1) := by decide +kernel
theorem dX12_loadOf_2 : decode cX12_loadOf 2 = .ok (.iload_n 1, 1) := by decide +kernel
theorem dX12_loadOf_3 : decode cX12_loadOf 3 = .ok (.invokevirtual 248, 3) := by decide +kernel
theorem dX12_loadOf_6 : decode cX12_loadOf 6 = .ok (.invokevirtual 252, 3) := by decide +kernel
theorem dX12_loadOf_9 : decode cX12_loadOf 9 = .ok (.iconst 5, 1) := by decide +kernel
theorem dX12_loadOf_10 : decode cX12_loadOf 10 = .ok (.aload_n 0, 1) := by decide +kernel
theorem dX12_loadOf_11 : decode cX12_loadOf 11 = .ok (.iload_n 1, 1) := by decide +kernel
theorem dX12_loadOf_12 : decode cX12_loadOf 12 = .ok (.iconst 1, 1) := by decide +kernel
theorem dX12_loadOf_13 : decode cX12_loadOf 13 = .ok (.invokevirtual 255, 3) := by decide +kernel
theorem dX12_loadOf_16 : decode cX12_loadOf 16 = .ok (.imul, 1) := by decide +kernel
theorem dX12_loadOf_17 : decode cX12_loadOf 17 = .ok (.iadd, 1) := by decide +kernel
theorem dX12_loadOf_18 : decode cX12_loadOf 18 = .ok (.aload_n 0, 1) := by decide +kernel
theorem dX12_loadOf_19 : decode cX12_loadOf 19 = .ok (.getfield 13, 3) := by decide +kernel
theorem dX12_loadOf_22 : decode cX12_loadOf 22 = .ok (.iconst 5, 1) := by decide +kernel
theorem dX12_loadOf_23 : decode cX12_loadOf 23 = .ok (.iaload, 1) := by decide +kernel
theorem dX12_loadOf_24 : decode cX12_loadOf 24 = .ok (.iadd, 1) := by decide +kernel
theorem dX12_loadOf_25 : decode cX12_loadOf 25 = .ok (.ireturn, 1) := by decide +kernel
theorem dX12_tiltBy_0 : decode cX12_tiltBy 0 = .ok (.bipush (-5), 2) := by decide +kernel
theorem dX12_tiltBy_2 : decode cX12_tiltBy 2 = .ok (.iconst 5, 1) := by decide +kernel
theorem dX12_tiltBy_3 : decode cX12_tiltBy 3 = .ok (.iload_n 1, 1) := by decide +kernel
theorem dX12_tiltBy_4 : decode cX12_tiltBy 4 = .ok (.aload_n 0, 1) := by decide +kernel
theorem dX12_tiltBy_5 : decode cX12_tiltBy 5 = .ok (.getfield 13, 3) := by decide +kernel
theorem dX12_tiltBy_8 : decode cX12_tiltBy 8 = .ok (.bipush 6, 2) := by decide +kernel
theorem dX12_tiltBy_10 : decode cX12_tiltBy 10 = .ok (.iaload, 1) := by decide +kernel
theorem dX12_tiltBy_11 : decode cX12_tiltBy 11 = .ok (.idiv, 1) := by decide +kernel
theorem dX12_tiltBy_12 : decode cX12_tiltBy 12 = .ok (.invokestatic 258, 3) := by decide +kernel
theorem dX12_tiltBy_15 : decode cX12_tiltBy 15 = .ok (.invokestatic 263, 3) := by decide +kernel
theorem dX12_tiltBy_18 : decode cX12_tiltBy 18 = .ok (.ireturn, 1) := by decide +kernel
set_option maxRecDepth 20000 in
theorem ggX12_tiltOf_X12_isPropped : GoodIn wsX12_tiltOf wsX12_isPropped := goodIn_r _ [5, 6, 7, 8, 4, 9, 10, 11, 12, 13, 58, 59, 60, 61, 62, 63, 64, 65, 66, 67, 68, 69, 70, 71, 72, 73, 74, 75, 76, 77] (by decide +kernel) (by decide +kernel)
set_option maxRecDepth 20000 in
theorem gX12_tiltOf_X12_isPropped : GoodIn wsX12_tiltOf (wsV RX12 266 RX12 yX12_isPropped wsX12_isPropped) := goodIn_app (goodIn_of _ (by decide +kernel)) ggX12_tiltOf_X12_isPropped
set_option maxRecDepth 20000 in
theorem ggX12_tiltOf_X12_loadOf : GoodIn wsX12_tiltOf wsX12_loadOf := goodIn_r _ [17, 10, 18, 19, 20, 4, 21, 22, 23, 24, 25, 26, 27, 28, 29, 30, 31, 32, 33, 34, 35, 36, 37, 38, 39, 40, 41, 42, 43, 44, 45, 46, 58, 59, 60, 61, 62, 63, 64, 65, 66, 67, 68, 69, 70, 71, 72, 73, 74, 75, 76, 77] (by decide +kernel) (by decide +kernel)
set_option maxRecDepth 20000 in
theorem gX12_tiltOf_X12_loadOf : GoodIn wsX12_tiltOf (wsV RX12 269 RX12 yX12_loadOf wsX12_loadOf) := goodIn_app (goodIn_of _ (by decide +kernel)) ggX12_tiltOf_X12_loadOf
set_option maxRecDepth 20000 in
theorem ggX12_tiltOf_X12_tiltBy : GoodIn wsX12_tiltOf wsX12_tiltBy := goodIn_r _ [50, 10, 51, 52, 53, 54, 55, 56, 57, 58, 59, 60, 61, 62, 63, 64, 65, 66, 67, 68, 69, 70, 71, 72, 73, 74, 75, 76, 77] (by decide +kernel) (by decide +kernel)
set_option maxRecDepth 20000 in
theorem gX12_tiltOf_X12_tiltBy : GoodIn wsX12_tiltOf (wsV RX12 272 RX12 yX12_tiltBy wsX12_tiltBy) := goodIn_app (goodIn_of _ (by decide +kernel)) ggX12_tiltOf_X12_tiltBy
theorem dX12_tiltOf_0 : decode cX12_tiltOf 0 = .ok (.aload_n 0, 1) := by decide +kernel
theorem dX12_tiltOf_1 : decode cX12_tiltOf 1 = .ok (.iload_n 1, 1) := by decide +kernel
theorem dX12_tiltOf_2 : decode cX12_tiltOf 2 = .ok (.invokevirtual 266, 3) := by decide +kernel
theorem dX12_tiltOf_5 : decode cX12_tiltOf 5 = .ok (.ifCond .eq 7, 3) := by decide +kernel
theorem dX12_tiltOf_8 : decode cX12_tiltOf 8 = .ok (.iconst 0, 1) := by decide +kernel
theorem dX12_tiltOf_9 : decode cX12_tiltOf 9 = .ok (.goto 24, 3) := by decide +kernel
theorem dX12_tiltOf_12 : decode cX12_tiltOf 12 = .ok (.aload_n 0, 1) := by decide +kernel
theorem dX12_tiltOf_13 : decode cX12_tiltOf 13 = .ok (.aload_n 0, 1) := by decide +kernel
theorem dX12_tiltOf_14 : decode cX12_tiltOf 14 = .ok (.iconst 2, 1) := by decide +kernel
theorem dX12_tiltOf_15 : decode cX12_tiltOf 15 = .ok (.iload_n 1, 1) := by decide +kernel
theorem dX12_tiltOf_16 : decode cX12_tiltOf 16 = .ok (.imul, 1) := by decide +kernel
theorem dX12_tiltOf_17 : decode cX12_tiltOf 17 = .ok (.iconst 1, 1) := by decide +kernel
theorem dX12_tiltOf_18 : decode cX12_tiltOf 18 = .ok (.iadd, 1) := by decide +kernel
theorem dX12_tiltOf_19 : decode cX12_tiltOf 19 = .ok (.invokevirtual 269, 3) := by decide +kernel
theorem dX12_tiltOf_22 : decode cX12_tiltOf 22 = .ok (.aload_n 0, 1) := by decide +kernel
theorem dX12_tiltOf_23 : decode cX12_tiltOf 23 = .ok (.iconst 2, 1) := by decide +kernel
theorem dX12_tiltOf_24 : decode cX12_tiltOf 24 = .ok (.iload_n 1, 1) := by decide +kernel
theorem dX12_tiltOf_25 : decode cX12_tiltOf 25 = .ok (.imul, 1) := by decide +kernel
theorem dX12_tiltOf_26 : decode cX12_tiltOf 26 = .ok (.invokevirtual 269, 3) := by decide +kernel
theorem dX12_tiltOf_29 : decode cX12_tiltOf 29 = .ok (.isub, 1) := by decide +kernel
theorem dX12_tiltOf_30 : decode cX12_tiltOf 30 = .ok (.invokevirtual 272, 3) := by decide +kernel
theorem dX12_tiltOf_33 : decode cX12_tiltOf 33 = .ok (.ireturn, 1) := by decide +kernel
theorem dX12_plankOf_0 : decode cX12_plankOf 0 = .ok (.iload_n 0, 1) := by decide +kernel
theorem dX12_plankOf_1 : decode cX12_plankOf 1 = .ok (.iconst 2, 1) := by decide +kernel
theorem dX12_plankOf_2 : decode cX12_plankOf 2 = .ok (.idiv, 1) := by decide +kernel
theorem dX12_plankOf_3 : decode cX12_plankOf 3 = .ok (.ireturn, 1) := by decide +kernel
theorem dX12_heightBy_0 : decode cX12_heightBy 0 = .ok (.iload_n 0, 1) := by decide +kernel
theorem dX12_heightBy_1 : decode cX12_heightBy 1 = .ok (.iconst 2, 1) := by decide +kernel
theorem dX12_heightBy_2 : decode cX12_heightBy 2 = .ok (.irem, 1) := by decide +kernel
theorem dX12_heightBy_3 : decode cX12_heightBy 3 = .ok (.ifCond .ne 9, 3) := by decide +kernel
theorem dX12_heightBy_6 : decode cX12_heightBy 6 = .ok (.iconst 5, 1) := by decide +kernel
theorem dX12_heightBy_7 : decode cX12_heightBy 7 = .ok (.iload_n 1, 1) := by decide +kernel
theorem dX12_heightBy_8 : decode cX12_heightBy 8 = .ok (.iadd, 1) := by decide +kernel
theorem dX12_heightBy_9 : decode cX12_heightBy 9 = .ok (.goto 6, 3) := by decide +kernel
theorem dX12_heightBy_12 : decode cX12_heightBy 12 = .ok (.iconst 5, 1) := by decide +kernel
theorem dX12_heightBy_13 : decode cX12_heightBy 13 = .ok (.iload_n 1, 1) := by decide +kernel
theorem dX12_heightBy_14 : decode cX12_heightBy 14 = .ok (.isub, 1) := by decide +kernel
theorem dX12_heightBy_15 : decode cX12_heightBy 15 = .ok (.ireturn, 1) := by decide +kernel
set_option maxRecDepth 20000 in
theorem ggX12_heightOf_X12_plankOf : GoodIn wsX12_heightOf wsX12_plankOf := goodIn_r _ [4] (by decide +kernel) (by decide +kernel)
set_option maxRecDepth 20000 in
theorem gX12_heightOf_X12_plankOf : GoodIn wsX12_heightOf (va_wsS RX12 275 yX12_plankOf wsX12_plankOf) := goodIn_app (goodIn_of _ (by decide +kernel)) ggX12_heightOf_X12_plankOf
set_option maxRecDepth 20000 in
theorem ggX12_heightOf_X12_isBroken : GoodIn wsX12_heightOf wsX12_isBroken := goodIn_r _ [8, 9, 10, 11, 3, 12, 13, 14, 15, 16, 72, 73, 74, 75, 76, 77, 78, 79, 80, 81, 82, 83, 84, 85, 86, 87, 88, 89, 90, 91] (by decide +kernel) (by decide +kernel)
set_option maxRecDepth 20000 in
theorem gX12_heightOf_X12_isBroken : GoodIn wsX12_heightOf (wsV RX12 278 RX12 yX12_isBroken wsX12_isBroken) := goodIn_app (goodIn_of _ (by decide +kernel)) ggX12_heightOf_X12_isBroken
set_option maxRecDepth 20000 in
theorem ggX12_heightOf_X12_tiltOf : GoodIn wsX12_heightOf wsX12_tiltOf := goodIn_r _ [20, 21, 22, 23, 3, 24, 9, 10, 11, 12, 13, 14, 15, 16, 25, 26, 27, 28, 29, 30, 31, 32, 33, 34, 35, 36, 37, 38, 39, 40, 41, 42, 43, 44, 45, 46, 47, 48, 49, 50, 51, 52, 53, 54, 55, 56, 57, 58, 59, 60, 61, 62, 63, 64, 65, 66, 67, 68, 72, 73, 74, 75, 76, 77, 78, 79, 80, 81, 82, 83, 84, 85, 86, 87, 88, 89, 90, 91] (by decide +kernel) (by decide +kernel)
set_option maxRecDepth 20000 in
theorem gX12_heightOf_X12_tiltOf : GoodIn wsX12_heightOf (wsV RX12 281 RX12 yX12_tiltOf wsX12_tiltOf) := goodIn_app (goodIn_of _ (by decide +kernel)) ggX12_heightOf_X12_tiltOf
set_option maxRecDepth 20000 in
theorem ggX12_heightOf_X12_heightBy : GoodIn wsX12_heightOf wsX12_heightBy := goodIn_r _ [71] (by decide +kernel) (by decide +kernel)
set_option maxRecDepth 20000 in
theorem gX12_heightOf_X12_heightBy : GoodIn wsX12_heightOf (va_wsS RX12 284 yX12_heightBy wsX12_heightBy) := goodIn_app (goodIn_of _ (by decide +kernel)) ggX12_heightOf_X12_heightBy
theorem dX12_heightOf_0 : decode cX12_heightOf 0 = .ok (.aload_n 0, 1) := by decide +kernel
theorem dX12_heightOf_1 : decode cX12_heightOf 1 = .ok (.iload_n 1, 1) := by decide +kernel
theorem dX12_heightOf_2 : decode cX12_heightOf 2 = .ok (.invokestatic 275, 3) := by decide +kernel
theorem dX12_heightOf_5 : decode cX12_heightOf 5 = .ok (.invokevirtual 278, 3) := by decide +kernel
theorem dX12_heightOf_8 : decode cX12_heightOf 8 = .ok (.ifCond .eq 7, 3) := by decide +kernel
theorem dX12_heightOf_11 : decode cX12_heightOf 11 = .ok (.iconst 0, 1) := by decide +kernel
theorem dX12_heightOf_12 : decode cX12_heightOf 12 = .ok (.goto 15, 3) := by decide +kernel
theorem dX12_heightOf_15 : decode cX12_heightOf 15 = .ok (.iload_n 1, 1) := by decide +kernel
theorem dX12_heightOf_16 : decode cX12_heightOf 16 = .ok (.aload_n 0, 1) := by decide +kernel
theorem dX12_heightOf_17 : decode cX12_heightOf 17 = .ok (.iload_n 1, 1) := by decide +kernel
theorem dX12_heightOf_18 : decode cX12_heightOf 18 = .ok (.invokestatic 275, 3) := by decide +kernel
theorem dX12_heightOf_21 : decode cX12_heightOf 21 = .ok (.invokevirtual 281, 3) := by decide +kernel
theorem dX12_heightOf_24 : decode cX12_heightOf 24 = .ok (.invokestatic 284, 3) := by decide +kernel
theorem dX12_heightOf_27 : decode cX12_heightOf 27 = .ok (.ireturn, 1) := by decide +kernel
set_option maxRecDepth 20000 in
theorem ggX12_isLevel_X12_isBroken : GoodIn wsX12_isLevel wsX12_isBroken := goodIn_r _ [5, 6, 7, 8, 4, 9, 10, 11, 12, 13, 66, 67, 68, 69, 70, 71, 72, 73, 74, 75, 76, 77, 78, 79, 80, 81, 82, 83, 84, 85] (by decide +kernel) (by decide +kernel)
set_option maxRecDepth 20000 in
theorem gX12_isLevel_X12_isBroken : GoodIn wsX12_isLevel (wsV RX12 278 RX12 yX12_isBroken wsX12_isBroken) := goodIn_app (goodIn_of _ (by decide +kernel)) ggX12_isLevel_X12_isBroken
set_option maxRecDepth 20000 in
theorem ggX12_isLevel_X12_tiltOf : GoodIn wsX12_isLevel wsX12_tiltOf := goodIn_r _ [17, 18, 19, 20, 4, 21, 6, 7, 8, 9, 10, 11, 12, 13, 22, 23, 24, 25, 26, 27, 28, 29, 30, 31, 32, 33, 34, 35, 36, 37, 38, 39, 40, 41, 42, 43, 44, 45, 46, 47, 48, 49, 50, 51, 52, 53, 54, 55, 56, 57, 58, 59, 60, 61, 62, 63, 64, 65, 66, 67, 68, 69, 70, 71, 72, 73, 74, 75, 76, 77, 78, 79, 80, 81, 82, 83, 84, 85] (by decide +kernel) (by decide +kernel)
set_option maxRecDepth 20000 in
theorem gX12_isLevel_X12_tiltOf : GoodIn wsX12_isLevel (wsV RX12 281 RX12 yX12_tiltOf wsX12_tiltOf) := goodIn_app (goodIn_of _ (by decide +kernel)) ggX12_isLevel_X12_tiltOf
theorem dX12_isLevel_0 : decode cX12_isLevel 0 = .ok (.aload_n 0, 1) := by decide +kernel
theorem dX12_isLevel_1 : decode cX12_isLevel 1 = .ok (.iload_n 1, 1) := by decide +kernel
theorem dX12_isLevel_2 : decode cX12_isLevel 2 = .ok (.invokevirtual 278, 3) := by decide +kernel
theorem dX12_isLevel_5 : decode cX12_isLevel 5 = .ok (.ifCond .ne 15, 3) := by decide +kernel
theorem dX12_isLevel_8 : decode cX12_isLevel 8 = .ok (.aload_n 0, 1) := by decide +kernel
theorem dX12_isLevel_9 : decode cX12_isLevel 9 = .ok (.iload_n 1, 1) := by decide +kernel
theorem dX12_isLevel_10 : decode cX12_isLevel 10 = .ok (.invokevirtual 281, 3) := by decide +kernel
theorem dX12_isLevel_13 : decode cX12_isLevel 13 = .ok (.ifCond .ne 7, 3) := by decide +kernel
theorem dX12_isLevel_16 : decode cX12_isLevel 16 = .ok (.iconst 1, 1) := by decide +kernel
theorem dX12_isLevel_17 : decode cX12_isLevel 17 = .ok (.goto 4, 3) := by decide +kernel
theorem dX12_isLevel_20 : decode cX12_isLevel 20 = .ok (.iconst 0, 1) := by decide +kernel
theorem dX12_isLevel_21 : decode cX12_isLevel 21 = .ok (.ireturn, 1) := by decide +kernel
set_option maxRecDepth 20000 in
theorem ggX12_factOf_X12_heightOf : GoodIn wsX12_factOf wsX12_heightOf := goodIn_r _ [6, 7, 8, 5, 9, 10, 11, 12, 13, 14, 15, 16, 17, 1, 18, 19, 20, 21, 22, 23, 24, 25, 26, 27, 28, 29, 30, 31, 32, 33, 34, 35, 36, 37, 38, 39, 40, 41, 42, 43, 44, 45, 46, 47, 48, 49, 50, 51, 52, 53, 54, 55, 56, 57, 58, 59, 60, 61, 62, 63, 64, 65, 66, 67, 68, 69, 70, 71, 72, 73, 74, 75, 80, 81, 82, 83, 84, 85, 86, 87, 88, 89, 90, 91, 92, 93, 94, 95, 96, 97, 98, 99] (by decide +kernel) (by decide +kernel)
set_option maxRecDepth 20000 in
theorem gX12_factOf_X12_heightOf : GoodIn wsX12_factOf (wsV RX12 287 RX12 yX12_heightOf wsX12_heightOf) := goodIn_app (goodIn_of _ (by decide +kernel)) ggX12_factOf_X12_heightOf
set_option maxRecDepth 20000 in
theorem ggX12_factOf_X12_loadOf : GoodIn wsX12_factOf wsX12_loadOf := goodIn_r _ [32, 1, 33, 34, 35, 5, 36, 37, 38, 39, 40, 41, 42, 43, 44, 45, 46, 47, 48, 49, 50, 51, 52, 53, 54, 55, 56, 57, 58, 59, 60, 61, 80, 81, 82, 83, 84, 85, 86, 87, 88, 89, 90, 91, 92, 93, 94, 95, 96, 97, 98, 99] (by decide +kernel) (by decide +kernel)
set_option maxRecDepth 20000 in
theorem gX12_factOf_X12_loadOf : GoodIn wsX12_factOf (wsV RX12 269 RX12 yX12_loadOf wsX12_loadOf) := goodIn_app (goodIn_of _ (by decide +kernel)) ggX12_factOf_X12_loadOf
set_option maxRecDepth 20000 in
theorem ggX12_factOf_X12_of : GoodIn wsX12_factOf wsX12_of := goodIn_r _ [58, 1, 59, 60, 5, 61, 80, 81, 82, 83, 84, 85, 86, 87, 88, 89, 90, 91, 92, 93, 94, 95, 96, 97, 98, 99] (by decide +kernel) (by decide +kernel)
set_option maxRecDepth 20000 in
theorem gX12_factOf_X12_of : GoodIn wsX12_factOf (wsV RX12 255 RX12 yX12_of wsX12_of) := goodIn_app (goodIn_of _ (by decide +kernel)) ggX12_factOf_X12_of
set_option maxRecDepth 20000 in
theorem ggX12_factOf_X12_plankOf : GoodIn wsX12_factOf wsX12_plankOf := goodIn_r _ [9] (by decide +kernel) (by decide +kernel)
set_option maxRecDepth 20000 in
theorem gX12_factOf_X12_plankOf : GoodIn wsX12_factOf (va_wsS RX12 275 yX12_plankOf wsX12_plankOf) := goodIn_app (goodIn_of _ (by decide +kernel)) ggX12_factOf_X12_plankOf
set_option maxRecDepth 20000 in
theorem ggX12_factOf_X12_ofPlank : GoodIn wsX12_factOf wsX12_ofPlank := goodIn_r _ [17, 1, 18, 19, 5, 20, 80, 81, 82, 83, 84, 85, 86, 87, 88, 89, 90, 91, 92, 93, 94, 95, 96, 97, 98, 99] (by decide +kernel) (by decide +kernel)
set_option maxRecDepth 20000 in
theorem gX12_factOf_X12_ofPlank : GoodIn wsX12_factOf (wsV RX12 63 RX12 yX12_ofPlank wsX12_ofPlank) := goodIn_app (goodIn_of _ (by decide +kernel)) ggX12_factOf_X12_ofPlank
set_option maxRecDepth 20000 in
theorem ggX12_factOf_X12_isLevel : GoodIn wsX12_factOf wsX12_isLevel := goodIn_r _ [79, 10, 11, 12, 5, 13, 14, 15, 16, 17, 1, 18, 19, 20, 21, 22, 23, 24, 25, 26, 27, 28, 29, 30, 31, 32, 33, 34, 35, 36, 37, 38, 39, 40, 41, 42, 43, 44, 45, 46, 47, 48, 49, 50, 51, 52, 53, 54, 55, 56, 57, 58, 59, 60, 61, 62, 63, 64, 65, 66, 67, 68, 69, 70, 71, 72, 80, 81, 82, 83, 84, 85, 86, 87, 88, 89, 90, 91, 92, 93, 94, 95, 96, 97, 98, 99] (by decide +kernel) (by decide +kernel)
set_option maxRecDepth 20000 in
theorem gX12_factOf_X12_isLevel : GoodIn wsX12_factOf (wsV RX12 290 RX12 yX12_isLevel wsX12_isLevel) := goodIn_app (goodIn_of _ (by decide +kernel)) ggX12_factOf_X12_isLevel
theorem dX12_factOf_0 : decode cX12_factOf 0 = .ok (.iload_n 1, 1) := by decide +kernel
theorem dX12_factOf_1 : decode cX12_factOf 1 = .ok (.tableswitch 117 0 7 #[47, 49, 55, 61, 68, 78, 85, 100], 47) := by decide +kernel
theorem dX12_factOf_48 : decode cX12_factOf 48 = .ok (.iload_n 3, 1) := by decide +kernel
theorem dX12_factOf_49 : decode cX12_factOf 49 = .ok (.ireturn, 1) := by decide +kernel
theorem dX12_factOf_50 : decode cX12_factOf 50 = .ok (.aload_n 0, 1) := by decide +kernel
theorem dX12_factOf_51 : decode cX12_factOf 51 = .ok (.iload_n 3, 1) := by decide +kernel
theorem dX12_factOf_52 : decode cX12_factOf 52 = .ok (.invokevirtual 287, 3) := by decide +kernel
theorem dX12_factOf_55 : decode cX12_factOf 55 = .ok (.ireturn, 1) := by decide +kernel
theorem dX12_factOf_56 : decode cX12_factOf 56 = .ok (.aload_n 0, 1) := by decide +kernel
theorem dX12_factOf_57 : decode cX12_factOf 57 = .ok (.iload_n 3, 1) := by decide +kernel
theorem dX12_factOf_58 : decode cX12_factOf 58 = .ok (.invokevirtual 269, 3) := by decide +kernel
theorem dX12_factOf_61 : decode cX12_factOf 61 = .ok (.ireturn, 1) := by decide +kernel
theorem dX12_factOf_62 : decode cX12_factOf 62 = .ok (.aload_n 0, 1) := by decide +kernel
theorem dX12_factOf_63 : decode cX12_factOf 63 = .ok (.iload_n 3, 1) := by decide +kernel
theorem dX12_factOf_64 : decode cX12_factOf 64 = .ok (.iconst 1, 1) := by decide +kernel
theorem dX12_factOf_65 : decode cX12_factOf 65 = .ok (.invokevirtual 255, 3) := by decide +kernel
theorem dX12_factOf_68 : decode cX12_factOf 68 = .ok (.ireturn, 1) := by decide +kernel
theorem dX12_factOf_69 : decode cX12_factOf 69 = .ok (.aload_n 0, 1) := by decide +kernel
theorem dX12_factOf_70 : decode cX12_factOf 70 = .ok (.iload_n 3, 1) := by decide +kernel
theorem dX12_factOf_71 : decode cX12_factOf 71 = .ok (.invokestatic 275, 3) := by decide +kernel
theorem dX12_factOf_74 : decode cX12_factOf 74 = .ok (.iconst 1, 1) := by decide +kernel
theorem dX12_factOf_75 : decode cX12_factOf 75 = .ok (.invokevirtual 63, 3) := by decide +kernel
theorem dX12_factOf_78 : decode cX12_factOf 78 = .ok (.ireturn, 1) := by decide +kernel
theorem dX12_factOf_79 : decode cX12_factOf 79 = .ok (.aload_n 0, 1) := by decide +kernel
theorem dX12_factOf_80 : decode cX12_factOf 80 = .ok (.getfield 13, 3) := by decide +kernel
theorem dX12_factOf_83 : decode cX12_factOf 83 = .ok (.iconst 4, 1) := by decide +kernel
theorem dX12_factOf_84 : decode cX12_factOf 84 = .ok (.iaload, 1) := by decide +kernel
theorem dX12_factOf_85 : decode cX12_factOf 85 = .ok (.ireturn, 1) := by decide +kernel
theorem dX12_factOf_86 : decode cX12_factOf 86 = .ok (.aload_n 0, 1) := by decide +kernel
theorem dX12_factOf_87 : decode cX12_factOf 87 = .ok (.iload_n 3, 1) := by decide +kernel
theorem dX12_factOf_88 : decode cX12_factOf 88 = .ok (.invokevirtual 287, 3) := by decide +kernel
theorem dX12_factOf_91 : decode cX12_factOf 91 = .ok (.iconst 5, 1) := by decide +kernel
theorem dX12_factOf_92 : decode cX12_factOf 92 = .ok (.if_icmp .le 7, 3) := by decide +kernel
theorem dX12_factOf_95 : decode cX12_factOf 95 = .ok (.iconst 1, 1) := by decide +kernel
theorem dX12_factOf_96 : decode cX12_factOf 96 = .ok (.goto 4, 3) := by decide +kernel
theorem dX12_factOf_99 : decode cX12_factOf 99 = .ok (.iconst 0, 1) := by decide +kernel
theorem dX12_factOf_100 : decode cX12_factOf 100 = .ok (.ireturn, 1) := by decide +kernel
theorem dX12_factOf_101 : decode cX12_factOf 101 = .ok (.aload_n 0, 1) := by decide +kernel
theorem dX12_factOf_102 : decode cX12_factOf 102 = .ok (.iload_n 3, 1) := by decide +kernel
theorem dX12_factOf_103 : decode cX12_factOf 103 = .ok (.invokestatic 275, 3) := by decide +kernel
theorem dX12_factOf_106 : decode cX12_factOf 106 = .ok (.invokevirtual 290, 3) := by decide +kernel
theorem dX12_factOf_109 : decode cX12_factOf 109 = .ok (.ifCond .eq 7, 3) := by decide +kernel
theorem dX12_factOf_112 : decode cX12_factOf 112 = .ok (.iconst 1, 1) := by decide +kernel
theorem dX12_factOf_113 : decode cX12_factOf 113 = .ok (.goto 4, 3) := by decide +kernel
theorem dX12_factOf_116 : decode cX12_factOf 116 = .ok (.iconst 0, 1) := by decide +kernel
theorem dX12_factOf_117 : decode cX12_factOf 117 = .ok (.ireturn, 1) := by decide +kernel
theorem dX12_factOf_118 : decode cX12_factOf 118 = .ok (.iload_n 2, 1) := by decide +kernel
theorem dX12_factOf_119 : decode cX12_factOf 119 = .ok (.ireturn, 1) := by decide +kernel
set_option maxRecDepth 20000 in
theorem ggX12_holdsLine_X12_factOf : GoodIn wsX12_holdsLine wsX12_factOf := goodIn_r _ [7, 1, 8, 9, 10, 6, 11, 12, 13, 14, 15, 16, 17, 18, 19, 20, 21, 22, 23, 24, 25, 26, 27, 28, 29, 30, 31, 32, 33, 34, 35, 36, 37, 38, 39, 40, 41, 42, 43, 44, 45, 46, 47, 48, 49, 50, 51, 52, 53, 54, 55, 56, 57, 58, 59, 60, 61, 62, 63, 64, 65, 66, 67, 68, 69, 70, 71, 72, 73, 74, 75, 76, 77, 78, 79, 80, 81, 82, 83, 84, 85, 86, 87, 88, 89, 90, 91, 92, 93, 94, 95, 96, 97, 98, 99, 100, 101, 102, 103, 104] (by decide +kernel) (by decide +kernel)
set_option maxRecDepth 20000 in
theorem gX12_holdsLine_X12_factOf : GoodIn wsX12_holdsLine (wsV RX12 293 RX12 yX12_factOf wsX12_factOf) := goodIn_app (goodIn_of _ (by decide +kernel)) ggX12_holdsLine_X12_factOf
theorem dX12_holdsLine_0 : decode cX12_holdsLine 0 = .ok (.iconst 0, 1) := by decide +kernel
theorem dX12_holdsLine_1 : decode cX12_holdsLine 1 = .ok (.istore_n 3, 1) := by decide +kernel
theorem dX12_holdsLine_2 : decode cX12_holdsLine 2 = .ok (.sipush 383, 3) := by decide +kernel
theorem dX12_holdsLine_5 : decode cX12_holdsLine 5 = .ok (.iconst 4, 1) := by decide +kernel
theorem dX12_holdsLine_6 : decode cX12_holdsLine 6 = .ok (.iload_n 1, 1) := by decide +kernel
theorem dX12_holdsLine_7 : decode cX12_holdsLine 7 = .ok (.imul, 1) := by decide +kernel
theorem dX12_holdsLine_8 : decode cX12_holdsLine 8 = .ok (.iadd, 1) := by decide +kernel
theorem dX12_holdsLine_9 : decode cX12_holdsLine 9 = .ok (.istore 4, 2) := by decide +kernel
theorem dX12_holdsLine_11 : decode cX12_holdsLine 11 = .ok (.aload_n 0, 1) := by decide +kernel
theorem dX12_holdsLine_12 : decode cX12_holdsLine 12 = .ok (.getfield 13, 3) := by decide +kernel
theorem dX12_holdsLine_15 : decode cX12_holdsLine 15 = .ok (.iload 4, 2) := by decide +kernel
theorem dX12_holdsLine_17 : decode cX12_holdsLine 17 = .ok (.iconst 2, 1) := by decide +kernel
theorem dX12_holdsLine_18 : decode cX12_holdsLine 18 = .ok (.iadd, 1) := by decide +kernel
theorem dX12_holdsLine_19 : decode cX12_holdsLine 19 = .ok (.iaload, 1) := by decide +kernel
theorem dX12_holdsLine_20 : decode cX12_holdsLine 20 = .ok (.istore 5, 2) := by decide +kernel
theorem dX12_holdsLine_22 : decode cX12_holdsLine 22 = .ok (.iload 5, 2) := by decide +kernel
theorem dX12_holdsLine_24 : decode cX12_holdsLine 24 = .ok (.aload_n 0, 1) := by decide +kernel
theorem dX12_holdsLine_25 : decode cX12_holdsLine 25 = .ok (.getfield 13, 3) := by decide +kernel
theorem dX12_holdsLine_28 : decode cX12_holdsLine 28 = .ok (.iload 4, 2) := by decide +kernel
theorem dX12_holdsLine_30 : decode cX12_holdsLine 30 = .ok (.iconst 3, 1) := by decide +kernel
theorem dX12_holdsLine_31 : decode cX12_holdsLine 31 = .ok (.iadd, 1) := by decide +kernel
theorem dX12_holdsLine_32 : decode cX12_holdsLine 32 = .ok (.iaload, 1) := by decide +kernel
theorem dX12_holdsLine_33 : decode cX12_holdsLine 33 = .ok (.if_icmp .ge 230, 3) := by decide +kernel
theorem dX12_holdsLine_36 : decode cX12_holdsLine 36 = .ok (.aload_n 0, 1) := by decide +kernel
theorem dX12_holdsLine_37 : decode cX12_holdsLine 37 = .ok (.getfield 13, 3) := by decide +kernel
theorem dX12_holdsLine_40 : decode cX12_holdsLine 40 = .ok (.sipush 431, 3) := by decide +kernel
theorem dX12_holdsLine_43 : decode cX12_holdsLine 43 = .ok (.iconst 2, 1) := by decide +kernel
theorem dX12_holdsLine_44 : decode cX12_holdsLine 44 = .ok (.iload 5, 2) := by decide +kernel
theorem dX12_holdsLine_46 : decode cX12_holdsLine 46 = .ok (.imul, 1) := by decide +kernel
theorem dX12_holdsLine_47 : decode cX12_holdsLine 47 = .ok (.iadd, 1) := by decide +kernel
theorem dX12_holdsLine_48 : decode cX12_holdsLine 48 = .ok (.iaload, 1) := by decide +kernel
theorem dX12_holdsLine_49 : decode cX12_holdsLine 49 = .ok (.istore 6, 2) := by decide +kernel
theorem dX12_holdsLine_51 : decode cX12_holdsLine 51 = .ok (.iload 6, 2) := by decide +kernel
theorem dX12_holdsLine_53 : decode cX12_holdsLine 53 = .ok (.bipush 8, 2) := by decide +kernel
theorem dX12_holdsLine_55 : decode cX12_holdsLine 55 = .ok (.if_icmp .gt 37, 3) := by decide +kernel
theorem dX12_holdsLine_58 : decode cX12_holdsLine 58 = .ok (.aload_n 0, 1) := by decide +kernel
theorem dX12_holdsLine_59 : decode cX12_holdsLine 59 = .ok (.getfield 39, 3) := by decide +kernel
theorem dX12_holdsLine_62 : decode cX12_holdsLine 62 = .ok (.iload_n 3, 1) := by decide +kernel
theorem dX12_holdsLine_63 : decode cX12_holdsLine 63 = .ok (.aload_n 0, 1) := by decide +kernel
theorem dX12_holdsLine_64 : decode cX12_holdsLine 64 = .ok (.iload 6, 2) := by decide +kernel
theorem dX12_holdsLine_66 : decode cX12_holdsLine 66 = .ok (.aload_n 0, 1) := by decide +kernel
theorem dX12_holdsLine_67 : decode cX12_holdsLine 67 = .ok (.getfield 13, 3) := by decide +kernel
theorem dX12_holdsLine_70 : decode cX12_holdsLine 70 = .ok (.sipush 431, 3) := by decide +kernel
theorem dX12_holdsLine_73 : decode cX12_holdsLine 73 = .ok (.iconst 2, 1) := by decide +kernel
theorem dX12_holdsLine_74 : decode cX12_holdsLine 74 = .ok (.iload 5, 2) := by decide +kernel
theorem dX12_holdsLine_76 : decode cX12_holdsLine 76 = .ok (.imul, 1) := by decide +kernel
theorem dX12_holdsLine_77 : decode cX12_holdsLine 77 = .ok (.iadd, 1) := by decide +kernel
theorem dX12_holdsLine_78 : decode cX12_holdsLine 78 = .ok (.iconst 1, 1) := by decide +kernel
theorem dX12_holdsLine_79 : decode cX12_holdsLine 79 = .ok (.iadd, 1) := by decide +kernel
theorem dX12_holdsLine_80 : decode cX12_holdsLine 80 = .ok (.iaload, 1) := by decide +kernel
theorem dX12_holdsLine_81 : decode cX12_holdsLine 81 = .ok (.iload_n 2, 1) := by decide +kernel
theorem dX12_holdsLine_82 : decode cX12_holdsLine 82 = .ok (.invokevirtual 293, 3) := by decide +kernel
theorem dX12_holdsLine_85 : decode cX12_holdsLine 85 = .ok (.iastore, 1) := by decide +kernel
theorem dX12_holdsLine_86 : decode cX12_holdsLine 86 = .ok (.iinc 3 1, 3) := by decide +kernel
theorem dX12_holdsLine_89 : decode cX12_holdsLine 89 = .ok (.goto 168, 3) := by decide +kernel
theorem dX12_holdsLine_92 : decode cX12_holdsLine 92 = .ok (.iload 6, 2) := by decide +kernel
theorem dX12_holdsLine_94 : decode cX12_holdsLine 94 = .ok (.bipush 12, 2) := by decide +kernel
theorem dX12_holdsLine_96 : decode cX12_holdsLine 96 = .ok (.if_icmp .ne 24, 3) := by decide +kernel
theorem dX12_holdsLine_99 : decode cX12_holdsLine 99 = .ok (.aload_n 0, 1) := by decide +kernel
theorem dX12_holdsLine_100 : decode cX12_holdsLine 100 = .ok (.getfield 39, 3) := by decide +kernel
theorem dX12_holdsLine_103 : decode cX12_holdsLine 103 = .ok (.iload_n 3, 1) := by decide +kernel
theorem dX12_holdsLine_104 : decode cX12_holdsLine 104 = .ok (.iconst 1, 1) := by decide +kernel
theorem dX12_holdsLine_105 : decode cX12_holdsLine 105 = .ok (.isub, 1) := by decide +kernel
theorem dX12_holdsLine_106 : decode cX12_holdsLine 106 = .ok (.iconst 1, 1) := by decide +kernel
theorem dX12_holdsLine_107 : decode cX12_holdsLine 107 = .ok (.aload_n 0, 1) := by decide +kernel
theorem dX12_holdsLine_108 : decode cX12_holdsLine 108 = .ok (.getfield 39, 3) := by decide +kernel
theorem dX12_holdsLine_111 : decode cX12_holdsLine 111 = .ok (.iload_n 3, 1) := by decide +kernel
theorem dX12_holdsLine_112 : decode cX12_holdsLine 112 = .ok (.iconst 1, 1) := by decide +kernel
theorem dX12_holdsLine_113 : decode cX12_holdsLine 113 = .ok (.isub, 1) := by decide +kernel
theorem dX12_holdsLine_114 : decode cX12_holdsLine 114 = .ok (.iaload, 1) := by decide +kernel
theorem dX12_holdsLine_115 : decode cX12_holdsLine 115 = .ok (.isub, 1) := by decide +kernel
theorem dX12_holdsLine_116 : decode cX12_holdsLine 116 = .ok (.iastore, 1) := by decide +kernel
theorem dX12_holdsLine_117 : decode cX12_holdsLine 117 = .ok (.goto 140, 3) := by decide +kernel
theorem dX12_holdsLine_120 : decode cX12_holdsLine 120 = .ok (.iinc 3 (-1), 3) := by decide +kernel
theorem dX12_holdsLine_123 : decode cX12_holdsLine 123 = .ok (.aload_n 0, 1) := by decide +kernel
theorem dX12_holdsLine_124 : decode cX12_holdsLine 124 = .ok (.getfield 39, 3) := by decide +kernel
theorem dX12_holdsLine_127 : decode cX12_holdsLine 127 = .ok (.iload_n 3, 1) := by decide +kernel
theorem dX12_holdsLine_128 : decode cX12_holdsLine 128 = .ok (.iconst 1, 1) := by decide +kernel
theorem dX12_holdsLine_129 : decode cX12_holdsLine 129 = .ok (.isub, 1) := by decide +kernel
theorem dX12_holdsLine_130 : decode cX12_holdsLine 130 = .ok (.iaload, 1) := by decide +kernel
theorem dX12_holdsLine_131 : decode cX12_holdsLine 131 = .ok (.istore 7, 2) := by decide +kernel
theorem dX12_holdsLine_133 : decode cX12_holdsLine 133 = .ok (.aload_n 0, 1) := by decide +kernel
theorem dX12_holdsLine_134 : decode cX12_holdsLine 134 = .ok (.getfield 39, 3) := by decide +kernel
theorem dX12_holdsLine_137 : decode cX12_holdsLine 137 = .ok (.iload_n 3, 1) := by decide +kernel
theorem dX12_holdsLine_138 : decode cX12_holdsLine 138 = .ok (.iaload, 1) := by decide +kernel
theorem dX12_holdsLine_139 : decode cX12_holdsLine 139 = .ok (.istore 8, 2) := by decide +kernel
theorem dX12_holdsLine_141 : decode cX12_holdsLine 141 = .ok (.iload 6, 2) := by decide +kernel
theorem dX12_holdsLine_143 : decode cX12_holdsLine 143 = .ok (.bipush 10, 2) := by decide +kernel
theorem dX12_holdsLine_145 : decode cX12_holdsLine 145 = .ok (.if_icmp .ne 18, 3) := by decide +kernel
theorem dX12_holdsLine_148 : decode cX12_holdsLine 148 = .ok (.iload 7, 2) := by decide +kernel
theorem dX12_holdsLine_150 : decode cX12_holdsLine 150 = .ok (.iload 8, 2) := by decide +kernel
theorem dX12_holdsLine_152 : decode cX12_holdsLine 152 = .ok (.if_icmp .ge 7, 3) := by decide +kernel
theorem dX12_holdsLine_155 : decode cX12_holdsLine 155 = .ok (.iconst 1, 1) := by decide +kernel
theorem dX12_holdsLine_156 : decode cX12_holdsLine 156 = .ok (.goto 66, 3) := by decide +kernel
theorem dX12_holdsLine_159 : decode cX12_holdsLine 159 = .ok (.iconst 0, 1) := by decide +kernel
theorem dX12_holdsLine_160 : decode cX12_holdsLine 160 = .ok (.goto 62, 3) := by decide +kernel
theorem dX12_holdsLine_163 : decode cX12_holdsLine 163 = .ok (.iload 6, 2) := by decide +kernel
theorem dX12_holdsLine_165 : decode cX12_holdsLine 165 = .ok (.bipush 11, 2) := by decide +kernel
theorem dX12_holdsLine_167 : decode cX12_holdsLine 167 = .ok (.if_icmp .ne 18, 3) := by decide +kernel
theorem dX12_holdsLine_170 : decode cX12_holdsLine 170 = .ok (.iload 7, 2) := by decide +kernel
theorem dX12_holdsLine_172 : decode cX12_holdsLine 172 = .ok (.iload 8, 2) := by decide +kernel
theorem dX12_holdsLine_174 : decode cX12_holdsLine 174 = .ok (.if_icmp .le 7, 3) := by decide +kernel
theorem dX12_holdsLine_177 : decode cX12_holdsLine 177 = .ok (.iconst 1, 1) := by decide +kernel
theorem dX12_holdsLine_178 : decode cX12_holdsLine 178 = .ok (.goto 44, 3) := by decide +kernel
theorem dX12_holdsLine_181 : decode cX12_holdsLine 181 = .ok (.iconst 0, 1) := by decide +kernel
theorem dX12_holdsLine_182 : decode cX12_holdsLine 182 = .ok (.goto 40, 3) := by decide +kernel
theorem dX12_holdsLine_185 : decode cX12_holdsLine 185 = .ok (.iload 6, 2) := by decide +kernel
theorem dX12_holdsLine_187 : decode cX12_holdsLine 187 = .ok (.bipush 13, 2) := by decide +kernel
theorem dX12_holdsLine_189 : decode cX12_holdsLine 189 = .ok (.if_icmp .ne 20, 3) := by decide +kernel
theorem dX12_holdsLine_192 : decode cX12_holdsLine 192 = .ok (.iload 7, 2) := by decide +kernel
theorem dX12_holdsLine_194 : decode cX12_holdsLine 194 = .ok (.iload 8, 2) := by decide +kernel
theorem dX12_holdsLine_196 : decode cX12_holdsLine 196 = .ok (.iadd, 1) := by decide +kernel
theorem dX12_holdsLine_197 : decode cX12_holdsLine 197 = .ok (.iconst 2, 1) := by decide +kernel
theorem dX12_holdsLine_198 : decode cX12_holdsLine 198 = .ok (.if_icmp .ne 7, 3) := by decide +kernel
theorem dX12_holdsLine_201 : decode cX12_holdsLine 201 = .ok (.iconst 1, 1) := by decide +kernel
theorem dX12_holdsLine_202 : decode cX12_holdsLine 202 = .ok (.goto 20, 3) := by decide +kernel
theorem dX12_holdsLine_205 : decode cX12_holdsLine 205 = .ok (.iconst 0, 1) := by decide +kernel
theorem dX12_holdsLine_206 : decode cX12_holdsLine 206 = .ok (.goto 16, 3) := by decide +kernel
theorem dX12_holdsLine_209 : decode cX12_holdsLine 209 = .ok (.iload 7, 2) := by decide +kernel
theorem dX12_holdsLine_211 : decode cX12_holdsLine 211 = .ok (.iload 8, 2) := by decide +kernel
theorem dX12_holdsLine_213 : decode cX12_holdsLine 213 = .ok (.iadd, 1) := by decide +kernel
theorem dX12_holdsLine_214 : decode cX12_holdsLine 214 = .ok (.ifCond .le 7, 3) := by decide +kernel
theorem dX12_holdsLine_217 : decode cX12_holdsLine 217 = .ok (.iconst 1, 1) := by decide +kernel
theorem dX12_holdsLine_218 : decode cX12_holdsLine 218 = .ok (.goto 4, 3) := by decide +kernel
theorem dX12_holdsLine_221 : decode cX12_holdsLine 221 = .ok (.iconst 0, 1) := by decide +kernel
theorem dX12_holdsLine_222 : decode cX12_holdsLine 222 = .ok (.istore 9, 2) := by decide +kernel
theorem dX12_holdsLine_224 : decode cX12_holdsLine 224 = .ok (.aload_n 0, 1) := by decide +kernel
theorem dX12_holdsLine_225 : decode cX12_holdsLine 225 = .ok (.getfield 39, 3) := by decide +kernel
theorem dX12_holdsLine_228 : decode cX12_holdsLine 228 = .ok (.iload_n 3, 1) := by decide +kernel
theorem dX12_holdsLine_229 : decode cX12_holdsLine 229 = .ok (.iconst 1, 1) := by decide +kernel
theorem dX12_holdsLine_230 : decode cX12_holdsLine 230 = .ok (.isub, 1) := by decide +kernel
theorem dX12_holdsLine_231 : decode cX12_holdsLine 231 = .ok (.iload 6, 2) := by decide +kernel
theorem dX12_holdsLine_233 : decode cX12_holdsLine 233 = .ok (.bipush 9, 2) := by decide +kernel
theorem dX12_holdsLine_235 : decode cX12_holdsLine 235 = .ok (.if_icmp .ne 11, 3) := by decide +kernel
theorem dX12_holdsLine_238 : decode cX12_holdsLine 238 = .ok (.iload 7, 2) := by decide +kernel
theorem dX12_holdsLine_240 : decode cX12_holdsLine 240 = .ok (.iload 8, 2) := by decide +kernel
theorem dX12_holdsLine_242 : decode cX12_holdsLine 242 = .ok (.iadd, 1) := by decide +kernel
theorem dX12_holdsLine_243 : decode cX12_holdsLine 243 = .ok (.goto 13, 3) := by decide +kernel
theorem dX12_holdsLine_246 : decode cX12_holdsLine 246 = .ok (.iload 9, 2) := by decide +kernel
theorem dX12_holdsLine_248 : decode cX12_holdsLine 248 = .ok (.ifCond .eq 7, 3) := by decide +kernel
theorem dX12_holdsLine_251 : decode cX12_holdsLine 251 = .ok (.iconst 1, 1) := by decide +kernel
theorem dX12_holdsLine_252 : decode cX12_holdsLine 252 = .ok (.goto 4, 3) := by decide +kernel
theorem dX12_holdsLine_255 : decode cX12_holdsLine 255 = .ok (.iconst 0, 1) := by decide +kernel
theorem dX12_holdsLine_256 : decode cX12_holdsLine 256 = .ok (.iastore, 1) := by decide +kernel
theorem dX12_holdsLine_257 : decode cX12_holdsLine 257 = .ok (.iinc 5 1, 3) := by decide +kernel
theorem dX12_holdsLine_260 : decode cX12_holdsLine 260 = .ok (.goto (-238), 3) := by decide +kernel
theorem dX12_holdsLine_263 : decode cX12_holdsLine 263 = .ok (.iload_n 3, 1) := by decide +kernel
theorem dX12_holdsLine_264 : decode cX12_holdsLine 264 = .ok (.ifCond .eq 13, 3) := by decide +kernel
theorem dX12_holdsLine_267 : decode cX12_holdsLine 267 = .ok (.aload_n 0, 1) := by decide +kernel
theorem dX12_holdsLine_268 : decode cX12_holdsLine 268 = .ok (.getfield 39, 3) := by decide +kernel
theorem dX12_holdsLine_271 : decode cX12_holdsLine 271 = .ok (.iconst 0, 1) := by decide +kernel
theorem dX12_holdsLine_272 : decode cX12_holdsLine 272 = .ok (.iaload, 1) := by decide +kernel
theorem dX12_holdsLine_273 : decode cX12_holdsLine 273 = .ok (.iconst 1, 1) := by decide +kernel
theorem dX12_holdsLine_274 : decode cX12_holdsLine 274 = .ok (.if_icmp .ne 7, 3) := by decide +kernel
theorem dX12_holdsLine_277 : decode cX12_holdsLine 277 = .ok (.iconst 1, 1) := by decide +kernel
theorem dX12_holdsLine_278 : decode cX12_holdsLine 278 = .ok (.goto 4, 3) := by decide +kernel
theorem dX12_holdsLine_281 : decode cX12_holdsLine 281 = .ok (.iconst 0, 1) := by decide +kernel
theorem dX12_holdsLine_282 : decode cX12_holdsLine 282 = .ok (.ireturn, 1) := by decide +kernel
set_option maxRecDepth 20000 in
theorem ggX12_sumOf_X12_holdsLine : GoodIn wsX12_sumOf wsX12_holdsLine := goodIn_r _ [6, 1, 7, 8, 9, 10, 5, 11, 12, 13, 14, 15, 16, 17, 18, 19, 20, 21, 22, 23, 24, 25, 26, 27, 28, 29, 30, 31, 32, 33, 34, 35, 36, 37, 38, 39, 40, 41, 42, 43, 44, 45, 46, 47, 48, 49, 50, 51, 52, 53, 54, 55, 56, 57, 58, 59, 60, 61, 62, 63, 64, 65, 66, 67, 68, 69, 70, 71, 72, 73, 74, 75, 76, 77, 78, 79, 80, 81, 82, 83, 84, 85, 86, 87, 88, 89, 90, 91, 92, 93, 94, 95, 96, 97, 98, 99, 100, 101, 102, 103, 104, 105, 106, 107, 108] (by decide +kernel) (by decide +kernel)
set_option maxRecDepth 20000 in
theorem gX12_sumOf_X12_holdsLine : GoodIn wsX12_sumOf (wsV RX12 297 RX12 yX12_holdsLine wsX12_holdsLine) := goodIn_app (goodIn_of _ (by decide +kernel)) ggX12_sumOf_X12_holdsLine
theorem dX12_sumOf_0 : decode cX12_sumOf 0 = .ok (.iconst 0, 1) := by decide +kernel
theorem dX12_sumOf_1 : decode cX12_sumOf 1 = .ok (.istore_n 3, 1) := by decide +kernel
theorem dX12_sumOf_2 : decode cX12_sumOf 2 = .ok (.iconst 0, 1) := by decide +kernel
theorem dX12_sumOf_3 : decode cX12_sumOf 3 = .ok (.istore 4, 2) := by decide +kernel
theorem dX12_sumOf_5 : decode cX12_sumOf 5 = .ok (.aload_n 0, 1) := by decide +kernel
theorem dX12_sumOf_6 : decode cX12_sumOf 6 = .ok (.getfield 13, 3) := by decide +kernel
theorem dX12_sumOf_9 : decode cX12_sumOf 9 = .ok (.iconst 3, 1) := by decide +kernel
theorem dX12_sumOf_10 : decode cX12_sumOf 10 = .ok (.iaload, 1) := by decide +kernel
theorem dX12_sumOf_11 : decode cX12_sumOf 11 = .ok (.iconst 1, 1) := by decide +kernel
theorem dX12_sumOf_12 : decode cX12_sumOf 12 = .ok (.if_icmp .ne 67, 3) := by decide +kernel
theorem dX12_sumOf_15 : decode cX12_sumOf 15 = .ok (.iload 4, 2) := by decide +kernel
theorem dX12_sumOf_17 : decode cX12_sumOf 17 = .ok (.aload_n 0, 1) := by decide +kernel
theorem dX12_sumOf_18 : decode cX12_sumOf 18 = .ok (.getfield 13, 3) := by decide +kernel
theorem dX12_sumOf_21 : decode cX12_sumOf 21 = .ok (.sipush 382, 3) := by decide +kernel
theorem dX12_sumOf_24 : decode cX12_sumOf 24 = .ok (.iaload, 1) := by decide +kernel
theorem dX12_sumOf_25 : decode cX12_sumOf 25 = .ok (.if_icmp .ge 54, 3) := by decide +kernel
theorem dX12_sumOf_28 : decode cX12_sumOf 28 = .ok (.aload_n 0, 1) := by decide +kernel
theorem dX12_sumOf_29 : decode cX12_sumOf 29 = .ok (.getfield 13, 3) := by decide +kernel
theorem dX12_sumOf_32 : decode cX12_sumOf 32 = .ok (.sipush 383, 3) := by decide +kernel
theorem dX12_sumOf_35 : decode cX12_sumOf 35 = .ok (.iconst 4, 1) := by decide +kernel
theorem dX12_sumOf_36 : decode cX12_sumOf 36 = .ok (.iload 4, 2) := by decide +kernel
theorem dX12_sumOf_38 : decode cX12_sumOf 38 = .ok (.imul, 1) := by decide +kernel
theorem dX12_sumOf_39 : decode cX12_sumOf 39 = .ok (.iadd, 1) := by decide +kernel
theorem dX12_sumOf_40 : decode cX12_sumOf 40 = .ok (.iaload, 1) := by decide +kernel
theorem dX12_sumOf_41 : decode cX12_sumOf 41 = .ok (.iload_n 1, 1) := by decide +kernel
theorem dX12_sumOf_42 : decode cX12_sumOf 42 = .ok (.if_icmp .ne 31, 3) := by decide +kernel
theorem dX12_sumOf_45 : decode cX12_sumOf 45 = .ok (.aload_n 0, 1) := by decide +kernel
theorem dX12_sumOf_46 : decode cX12_sumOf 46 = .ok (.iload 4, 2) := by decide +kernel
theorem dX12_sumOf_48 : decode cX12_sumOf 48 = .ok (.iload_n 2, 1) := by decide +kernel
theorem dX12_sumOf_49 : decode cX12_sumOf 49 = .ok (.invokevirtual 297, 3) := by decide +kernel
theorem dX12_sumOf_52 : decode cX12_sumOf 52 = .ok (.ifCond .eq 21, 3) := by decide +kernel
theorem dX12_sumOf_55 : decode cX12_sumOf 55 = .ok (.iload_n 3, 1) := by decide +kernel
theorem dX12_sumOf_56 : decode cX12_sumOf 56 = .ok (.aload_n 0, 1) := by decide +kernel
theorem dX12_sumOf_57 : decode cX12_sumOf 57 = .ok (.getfield 13, 3) := by decide +kernel
theorem dX12_sumOf_60 : decode cX12_sumOf 60 = .ok (.sipush 383, 3) := by decide +kernel
theorem dX12_sumOf_63 : decode cX12_sumOf 63 = .ok (.iconst 4, 1) := by decide +kernel
theorem dX12_sumOf_64 : decode cX12_sumOf 64 = .ok (.iload 4, 2) := by decide +kernel
theorem dX12_sumOf_66 : decode cX12_sumOf 66 = .ok (.imul, 1) := by decide +kernel
theorem dX12_sumOf_67 : decode cX12_sumOf 67 = .ok (.iadd, 1) := by decide +kernel
theorem dX12_sumOf_68 : decode cX12_sumOf 68 = .ok (.iconst 1, 1) := by decide +kernel
theorem dX12_sumOf_69 : decode cX12_sumOf 69 = .ok (.iadd, 1) := by decide +kernel
theorem dX12_sumOf_70 : decode cX12_sumOf 70 = .ok (.iaload, 1) := by decide +kernel
theorem dX12_sumOf_71 : decode cX12_sumOf 71 = .ok (.iadd, 1) := by decide +kernel
theorem dX12_sumOf_72 : decode cX12_sumOf 72 = .ok (.istore_n 3, 1) := by decide +kernel
theorem dX12_sumOf_73 : decode cX12_sumOf 73 = .ok (.iinc 4 1, 3) := by decide +kernel
theorem dX12_sumOf_76 : decode cX12_sumOf 76 = .ok (.goto (-71), 3) := by decide +kernel
theorem dX12_sumOf_79 : decode cX12_sumOf 79 = .ok (.iload_n 3, 1) := by decide +kernel
theorem dX12_sumOf_80 : decode cX12_sumOf 80 = .ok (.ireturn, 1) := by decide +kernel
set_option maxRecDepth 20000 in
theorem ggX12_paysBy_X12_heightOf : GoodIn wsX12_paysBy wsX12_heightOf := goodIn_r _ [6, 7, 8, 5, 9, 10, 11, 12, 13, 14, 15, 16, 17, 1, 18, 19, 20, 21, 22, 23, 24, 25, 26, 27, 28, 29, 30, 31, 32, 33, 34, 35, 36, 37, 38, 39, 40, 41, 42, 43, 44, 45, 46, 47, 48, 49, 50, 51, 52, 53, 54, 55, 56, 57, 58, 59, 60, 61, 62, 63, 64, 65, 66, 67, 68, 69, 70, 71, 72, 73, 74, 75, 93, 94, 95, 96, 97, 98, 99, 100, 101, 102, 103, 104, 105, 106, 107, 108, 109, 110, 111, 112] (by decide +kernel) (by decide +kernel)
set_option maxRecDepth 20000 in
theorem gX12_paysBy_X12_heightOf : GoodIn wsX12_paysBy (wsV RX12 287 RX12 yX12_heightOf wsX12_heightOf) := goodIn_app (goodIn_of _ (by decide +kernel)) ggX12_paysBy_X12_heightOf
set_option maxRecDepth 20000 in
theorem ggX12_paysBy_X12_sumOf : GoodIn wsX12_paysBy wsX12_sumOf := goodIn_r _ [79, 1, 80, 81, 82, 5, 83, 84, 85, 86, 87, 88, 2, 3, 4, 6, 7, 8, 9, 10, 11, 12, 13, 14, 15, 16, 17, 18, 19, 20, 21, 22, 23, 24, 25, 26, 27, 28, 29, 30, 31, 32, 33, 34, 35, 36, 37, 38, 39, 40, 41, 42, 43, 44, 45, 46, 47, 48, 49, 50, 51, 52, 53, 54, 55, 56, 57, 58, 59, 60, 61, 62, 63, 64, 65, 66, 67, 68, 69, 70, 71, 72, 73, 74, 75, 89, 90, 91, 92, 93, 94, 95, 96, 97, 98, 99, 100, 101, 102, 103, 104, 105, 106, 107, 108, 109, 110, 111, 112] (by decide +kernel) (by decide +kernel)
set_option maxRecDepth 20000 in
theorem gX12_paysBy_X12_sumOf : GoodIn wsX12_paysBy (wsV RX12 300 RX12 yX12_sumOf wsX12_sumOf) := goodIn_app (goodIn_of _ (by decide +kernel)) ggX12_paysBy_X12_sumOf
theorem dX12_paysBy_0 : decode cX12_paysBy 0 = .ok (.aload_n 0, 1) := by decide +kernel
theorem dX12_paysBy_1 : decode cX12_paysBy 1 = .ok (.getfield 13, 3) := by decide +kernel
theorem dX12_paysBy_4 : decode cX12_paysBy 4 = .ok (.bipush 9, 2) := by decide +kernel
theorem dX12_paysBy_6 : decode cX12_paysBy 6 = .ok (.iaload, 1) := by decide +kernel
theorem dX12_paysBy_7 : decode cX12_paysBy 7 = .ok (.aload_n 0, 1) := by decide +kernel
theorem dX12_paysBy_8 : decode cX12_paysBy 8 = .ok (.iload_n 1, 1) := by decide +kernel
theorem dX12_paysBy_9 : decode cX12_paysBy 9 = .ok (.invokevirtual 287, 3) := by decide +kernel
theorem dX12_paysBy_12 : decode cX12_paysBy 12 = .ok (.imul, 1) := by decide +kernel
theorem dX12_paysBy_13 : decode cX12_paysBy 13 = .ok (.aload_n 0, 1) := by decide +kernel
theorem dX12_paysBy_14 : decode cX12_paysBy 14 = .ok (.iconst 0, 1) := by decide +kernel
theorem dX12_paysBy_15 : decode cX12_paysBy 15 = .ok (.iload_n 1, 1) := by decide +kernel
theorem dX12_paysBy_16 : decode cX12_paysBy 16 = .ok (.invokevirtual 300, 3) := by decide +kernel
theorem dX12_paysBy_19 : decode cX12_paysBy 19 = .ok (.iadd, 1) := by decide +kernel
theorem dX12_paysBy_20 : decode cX12_paysBy 20 = .ok (.ireturn, 1) := by decide +kernel
set_option maxRecDepth 20000 in
theorem ggX12_luresBy_X12_thingsIn : GoodIn wsX12_luresBy wsX12_thingsIn := goodIn_r _ [5, 6, 7, 8, 4, 9, 10, 11, 12, 13, 14, 15, 16, 17, 97, 98, 99, 100, 101, 102, 103, 104, 105, 106, 107, 108, 109, 110, 111, 112, 113, 114, 115, 116] (by decide +kernel) (by decide +kernel)
set_option maxRecDepth 20000 in
theorem gX12_luresBy_X12_thingsIn : GoodIn wsX12_luresBy (wsV RX12 248 RX12 yX12_thingsIn wsX12_thingsIn) := goodIn_app (goodIn_of _ (by decide +kernel)) ggX12_luresBy_X12_thingsIn
set_option maxRecDepth 20000 in
theorem ggX12_luresBy_X12_worthOf : GoodIn wsX12_luresBy wsX12_worthOf := goodIn_r _ [21, 6, 7, 8, 4, 9, 10, 22, 23, 24, 11, 12, 13, 14, 15, 16, 17, 97, 98, 99, 100, 101, 102, 103, 104, 105, 106, 107, 108, 109, 110, 111, 112, 113, 114, 115, 116] (by decide +kernel) (by decide +kernel)
set_option maxRecDepth 20000 in
theorem gX12_luresBy_X12_worthOf : GoodIn wsX12_luresBy (wsV RX12 303 RX12 yX12_worthOf wsX12_worthOf) := goodIn_app (goodIn_of _ (by decide +kernel)) ggX12_luresBy_X12_worthOf
set_option maxRecDepth 20000 in
theorem ggX12_luresBy_X12_sumOf : GoodIn wsX12_luresBy wsX12_sumOf := goodIn_r _ [28, 10, 29, 30, 31, 4, 32, 33, 34, 35, 36, 37, 38, 39, 40, 41, 42, 43, 44, 45, 46, 47, 48, 49, 50, 51, 52, 53, 54, 55, 56, 57, 58, 59, 60, 61, 62, 63, 64, 65, 66, 67, 1, 2, 3, 5, 6, 7, 8, 9, 11, 12, 13, 14, 15, 16, 17, 68, 69, 70, 71, 22, 23, 24, 72, 73, 74, 75, 76, 77, 78, 79, 80, 81, 82, 83, 84, 85, 86, 87, 88, 89, 90, 91, 92, 93, 94, 95, 96, 97, 98, 99, 100, 101, 102, 103, 104, 105, 106, 107, 108, 109, 110, 111, 112, 113, 114, 115, 116] (by decide +kernel) (by decide +kernel)
set_option maxRecDepth 20000 in
theorem gX12_luresBy_X12_sumOf : GoodIn wsX12_luresBy (wsV RX12 300 RX12 yX12_sumOf wsX12_sumOf) := goodIn_app (goodIn_of _ (by decide +kernel)) ggX12_luresBy_X12_sumOf
theorem dX12_luresBy_0 : decode cX12_luresBy 0 = .ok (.aload_n 0, 1) := by decide +kernel
theorem dX12_luresBy_1 : decode cX12_luresBy 1 = .ok (.aload_n 0, 1) := by decide +kernel
theorem dX12_luresBy_2 : decode cX12_luresBy 2 = .ok (.iload_n 1, 1) := by decide +kernel
theorem dX12_luresBy_3 : decode cX12_luresBy 3 = .ok (.invokevirtual 248, 3) := by decide +kernel
theorem dX12_luresBy_6 : decode cX12_luresBy 6 = .ok (.invokevirtual 303, 3) := by decide +kernel
theorem dX12_luresBy_9 : decode cX12_luresBy 9 = .ok (.aload_n 0, 1) := by decide +kernel
theorem dX12_luresBy_10 : decode cX12_luresBy 10 = .ok (.iconst 1, 1) := by decide +kernel
theorem dX12_luresBy_11 : decode cX12_luresBy 11 = .ok (.iload_n 1, 1) := by decide +kernel
theorem dX12_luresBy_12 : decode cX12_luresBy 12 = .ok (.invokevirtual 300, 3) := by decide +kernel
theorem dX12_luresBy_15 : decode cX12_luresBy 15 = .ok (.iadd, 1) := by decide +kernel
theorem dX12_luresBy_16 : decode cX12_luresBy 16 = .ok (.ireturn, 1) := by decide +kernel
set_option maxRecDepth 20000 in
theorem ggX12_agesBy_X12_sumOf : GoodIn wsX12_agesBy wsX12_sumOf := goodIn_r _ [5, 6, 7, 8, 9, 4, 10, 11, 12, 13, 14, 15, 16, 17, 18, 19, 20, 21, 22, 23, 24, 25, 26, 27, 28, 29, 30, 31, 32, 33, 34, 35, 36, 37, 38, 39, 40, 41, 42, 43, 44, 45, 46, 47, 48, 49, 50, 51, 52, 53, 54, 55, 56, 57, 58, 59, 60, 61, 62, 63, 64, 65, 66, 67, 68, 69, 70, 71, 72, 73, 74, 75, 76, 77, 78, 79, 80, 81, 82, 83, 84, 85, 86, 87, 88, 89, 90, 91, 92, 93, 94, 95, 96, 97, 98, 99, 100, 101, 102, 103, 104, 105, 106, 107, 108, 109, 110, 111, 112] (by decide +kernel) (by decide +kernel)
set_option maxRecDepth 20000 in
theorem gX12_agesBy_X12_sumOf : GoodIn wsX12_agesBy (wsV RX12 300 RX12 yX12_sumOf wsX12_sumOf) := goodIn_app (goodIn_of _ (by decide +kernel)) ggX12_agesBy_X12_sumOf
theorem dX12_agesBy_0 : decode cX12_agesBy 0 = .ok (.iconst 1, 1) := by decide +kernel
theorem dX12_agesBy_1 : decode cX12_agesBy 1 = .ok (.aload_n 0, 1) := by decide +kernel
theorem dX12_agesBy_2 : decode cX12_agesBy 2 = .ok (.iconst 2, 1) := by decide +kernel
theorem dX12_agesBy_3 : decode cX12_agesBy 3 = .ok (.iconst 2, 1) := by decide +kernel
theorem dX12_agesBy_4 : decode cX12_agesBy 4 = .ok (.iload_n 1, 1) := by decide +kernel
theorem dX12_agesBy_5 : decode cX12_agesBy 5 = .ok (.imul, 1) := by decide +kernel
theorem dX12_agesBy_6 : decode cX12_agesBy 6 = .ok (.invokevirtual 300, 3) := by decide +kernel
theorem dX12_agesBy_9 : decode cX12_agesBy 9 = .ok (.iadd, 1) := by decide +kernel
theorem dX12_agesBy_10 : decode cX12_agesBy 10 = .ok (.ireturn, 1) := by decide +kernel
set_option maxRecDepth 20000 in
theorem ggX12_lowOf_X12_heightOf : GoodIn wsX12_lowOf wsX12_heightOf := goodIn_r _ [9, 10, 11, 8, 12, 13, 14, 15, 16, 17, 18, 19, 20, 21, 22, 23, 24, 25, 26, 27, 28, 29, 30, 31, 32, 33, 34, 35, 36, 37, 38, 39, 40, 41, 42, 43, 44, 45, 46, 47, 48, 49, 50, 51, 52, 53, 54, 55, 56, 57, 58, 59, 60, 61, 62, 63, 64, 65, 66, 67, 68, 69, 70, 71, 3, 72, 1, 2, 4, 73, 74, 75, 76, 77, 78, 79, 80, 81, 82, 83, 84, 85, 86, 87, 88, 89, 90, 91, 92, 93, 94, 95] (by decide +kernel) (by decide +kernel)
set_option maxRecDepth 20000 in
theorem gX12_lowOf_X12_heightOf : GoodIn wsX12_lowOf (wsV RX12 287 RX12 yX12_heightOf wsX12_heightOf) := goodIn_app (goodIn_of _ (by decide +kernel)) ggX12_lowOf_X12_heightOf
theorem dX12_lowOf_0 : decode cX12_lowOf 0 = .ok (.iconst 0, 1) := by decide +kernel
theorem dX12_lowOf_1 : decode cX12_lowOf 1 = .ok (.iconst 5, 1) := by decide +kernel
theorem dX12_lowOf_2 : decode cX12_lowOf 2 = .ok (.aload_n 0, 1) := by decide +kernel
theorem dX12_lowOf_3 : decode cX12_lowOf 3 = .ok (.iload_n 1, 1) := by decide +kernel
theorem dX12_lowOf_4 : decode cX12_lowOf 4 = .ok (.invokevirtual 287, 3) := by decide +kernel
theorem dX12_lowOf_7 : decode cX12_lowOf 7 = .ok (.isub, 1) := by decide +kernel
theorem dX12_lowOf_8 : decode cX12_lowOf 8 = .ok (.invokestatic 263, 3) := by decide +kernel
theorem dX12_lowOf_11 : decode cX12_lowOf 11 = .ok (.ireturn, 1) := by decide +kernel
set_option maxRecDepth 20000 in
theorem ggX12_shareOf_X12_houses : GoodIn wsX12_shareOf wsX12_houses := goodIn_r _ [5, 6, 7, 8, 4, 9, 10, 88, 89, 90, 91, 92, 93, 94, 95, 96, 97, 98, 99, 100, 101, 102, 103, 104, 105, 106, 107] (by decide +kernel) (by decide +kernel)
set_option maxRecDepth 20000 in
theorem gX12_shareOf_X12_houses : GoodIn wsX12_shareOf (wsV RX12 79 RX12 yX12_houses wsX12_houses) := goodIn_app (goodIn_of _ (by decide +kernel)) ggX12_shareOf_X12_houses
set_option maxRecDepth 20000 in
theorem ggX12_shareOf_X12_lowOf : GoodIn wsX12_shareOf wsX12_lowOf := goodIn_r _ [14, 15, 16, 17, 18, 19, 20, 21, 4, 22, 23, 24, 25, 26, 27, 28, 29, 30, 31, 32, 33, 10, 34, 35, 36, 37, 38, 39, 40, 41, 42, 43, 44, 45, 46, 47, 48, 49, 50, 51, 52, 53, 54, 55, 56, 57, 58, 59, 60, 61, 62, 63, 64, 65, 66, 67, 68, 69, 70, 71, 72, 73, 74, 75, 76, 77, 78, 79, 80, 81, 82, 83, 84, 85, 86, 87, 88, 89, 90, 91, 92, 93, 94, 95, 96, 97, 98, 99, 100, 101, 102, 103, 104, 105, 106, 107] (by decide +kernel) (by decide +kernel)
set_option maxRecDepth 20000 in
theorem gX12_shareOf_X12_lowOf : GoodIn wsX12_shareOf (wsV RX12 306 RX12 yX12_lowOf wsX12_lowOf) := goodIn_app (goodIn_of _ (by decide +kernel)) ggX12_shareOf_X12_lowOf
theorem dX12_shareOf_0 : decode cX12_shareOf 0 = .ok (.iconst 0, 1) := by decide +kernel
theorem dX12_shareOf_1 : decode cX12_shareOf 1 = .ok (.istore_n 2, 1) := by decide +kernel
theorem dX12_shareOf_2 : decode cX12_shareOf 2 = .ok (.iconst 0, 1) := by decide +kernel
theorem dX12_shareOf_3 : decode cX12_shareOf 3 = .ok (.istore_n 3, 1) := by decide +kernel
theorem dX12_shareOf_4 : decode cX12_shareOf 4 = .ok (.iload_n 3, 1) := by decide +kernel
theorem dX12_shareOf_5 : decode cX12_shareOf 5 = .ok (.aload_n 0, 1) := by decide +kernel
theorem dX12_shareOf_6 : decode cX12_shareOf 6 = .ok (.invokevirtual 79, 3) := by decide +kernel
theorem dX12_shareOf_9 : decode cX12_shareOf 9 = .ok (.if_icmp .ge 17, 3) := by decide +kernel
theorem dX12_shareOf_12 : decode cX12_shareOf 12 = .ok (.iload_n 2, 1) := by decide +kernel
theorem dX12_shareOf_13 : decode cX12_shareOf 13 = .ok (.aload_n 0, 1) := by decide +kernel
theorem dX12_shareOf_14 : decode cX12_shareOf 14 = .ok (.iload_n 3, 1) := by decide +kernel
theorem dX12_shareOf_15 : decode cX12_shareOf 15 = .ok (.invokevirtual 306, 3) := by decide +kernel
theorem dX12_shareOf_18 : decode cX12_shareOf 18 = .ok (.iadd, 1) := by decide +kernel
theorem dX12_shareOf_19 : decode cX12_shareOf 19 = .ok (.istore_n 2, 1) := by decide +kernel
theorem dX12_shareOf_20 : decode cX12_shareOf 20 = .ok (.iinc 3 1, 3) := by decide +kernel
theorem dX12_shareOf_23 : decode cX12_shareOf 23 = .ok (.goto (-19), 3) := by decide +kernel
theorem dX12_shareOf_26 : decode cX12_shareOf 26 = .ok (.iload_n 2, 1) := by decide +kernel
theorem dX12_shareOf_27 : decode cX12_shareOf 27 = .ok (.ifCond .ne 7, 3) := by decide +kernel
theorem dX12_shareOf_30 : decode cX12_shareOf 30 = .ok (.iconst 0, 1) := by decide +kernel
theorem dX12_shareOf_31 : decode cX12_shareOf 31 = .ok (.goto 13, 3) := by decide +kernel
theorem dX12_shareOf_34 : decode cX12_shareOf 34 = .ok (.bipush 100, 2) := by decide +kernel
theorem dX12_shareOf_36 : decode cX12_shareOf 36 = .ok (.aload_n 0, 1) := by decide +kernel
theorem dX12_shareOf_37 : decode cX12_shareOf 37 = .ok (.iload_n 1, 1) := by decide +kernel
theorem dX12_shareOf_38 : decode cX12_shareOf 38 = .ok (.invokevirtual 306, 3) := by decide +kernel
theorem dX12_shareOf_41 : decode cX12_shareOf 41 = .ok (.imul, 1) := by decide +kernel
theorem dX12_shareOf_42 : decode cX12_shareOf 42 = .ok (.iload_n 2, 1) := by decide +kernel
theorem dX12_shareOf_43 : decode cX12_shareOf 43 = .ok (.idiv, 1) := by decide +kernel
theorem dX12_shareOf_44 : decode cX12_shareOf 44 = .ok (.ireturn, 1) := by decide +kernel
set_option maxRecDepth 20000 in
theorem ggX12_corkOf_X12_plankOf : GoodIn wsX12_corkOf wsX12_plankOf := goodIn_r _ [5] (by decide +kernel) (by decide +kernel)
set_option maxRecDepth 20000 in
theorem gX12_corkOf_X12_plankOf : GoodIn wsX12_corkOf (va_wsS RX12 275 yX12_plankOf wsX12_plankOf) := goodIn_app (goodIn_of _ (by decide +kernel)) ggX12_corkOf_X12_plankOf
set_option maxRecDepth 20000 in
theorem ggX12_corkOf_X12_loadOf : GoodIn wsX12_corkOf wsX12_loadOf := goodIn_r _ [9, 1, 10, 11, 12, 4, 13, 14, 15, 16, 17, 18, 19, 20, 21, 22, 23, 24, 25, 26, 27, 28, 29, 30, 31, 32, 33, 34, 35, 36, 37, 38, 68, 69, 70, 71, 72, 73, 74, 75, 76, 77, 78, 79, 80, 81, 82, 83, 84, 85, 86, 87] (by decide +kernel) (by decide +kernel)
set_option maxRecDepth 20000 in
theorem gX12_corkOf_X12_loadOf : GoodIn wsX12_corkOf (wsV RX12 269 RX12 yX12_loadOf wsX12_loadOf) := goodIn_app (goodIn_of _ (by decide +kernel)) ggX12_corkOf_X12_loadOf
set_option maxRecDepth 20000 in
theorem ggX12_corkOf_X12_isPropped : GoodIn wsX12_corkOf wsX12_isPropped := goodIn_r _ [42, 43, 44, 45, 4, 46, 1, 47, 48, 49, 68, 69, 70, 71, 72, 73, 74, 75, 76, 77, 78, 79, 80, 81, 82, 83, 84, 85, 86, 87] (by decide +kernel) (by decide +kernel)
set_option maxRecDepth 20000 in
theorem gX12_corkOf_X12_isPropped : GoodIn wsX12_corkOf (wsV RX12 266 RX12 yX12_isPropped wsX12_isPropped) := goodIn_app (goodIn_of _ (by decide +kernel)) ggX12_corkOf_X12_isPropped
set_option maxRecDepth 20000 in
theorem ggX12_corkOf_X12_tiltBy : GoodIn wsX12_corkOf wsX12_tiltBy := goodIn_r _ [53, 1, 54, 55, 56, 57, 58, 59, 60, 68, 69, 70, 71, 72, 73, 74, 75, 76, 77, 78, 79, 80, 81, 82, 83, 84, 85, 86, 87] (by decide +kernel) (by decide +kernel)
set_option maxRecDepth 20000 in
theorem gX12_corkOf_X12_tiltBy : GoodIn wsX12_corkOf (wsV RX12 272 RX12 yX12_tiltBy wsX12_tiltBy) := goodIn_app (goodIn_of _ (by decide +kernel)) ggX12_corkOf_X12_tiltBy
set_option maxRecDepth 20000 in
theorem ggX12_corkOf_X12_isBroken : GoodIn wsX12_corkOf wsX12_isBroken := goodIn_r _ [64, 43, 44, 45, 4, 46, 1, 47, 48, 49, 68, 69, 70, 71, 72, 73, 74, 75, 76, 77, 78, 79, 80, 81, 82, 83, 84, 85, 86, 87] (by decide +kernel) (by decide +kernel)
set_option maxRecDepth 20000 in
theorem gX12_corkOf_X12_isBroken : GoodIn wsX12_corkOf (wsV RX12 278 RX12 yX12_isBroken wsX12_isBroken) := goodIn_app (goodIn_of _ (by decide +kernel)) ggX12_corkOf_X12_isBroken
set_option maxRecDepth 20000 in
theorem ggX12_corkOf_X12_heightBy : GoodIn wsX12_corkOf wsX12_heightBy := goodIn_r _ [67] (by decide +kernel) (by decide +kernel)
set_option maxRecDepth 20000 in
theorem gX12_corkOf_X12_heightBy : GoodIn wsX12_corkOf (va_wsS RX12 284 yX12_heightBy wsX12_heightBy) := goodIn_app (goodIn_of _ (by decide +kernel)) ggX12_corkOf_X12_heightBy
theorem dX12_corkOf_0 : decode cX12_corkOf 0 = .ok (.iload_n 1, 1) := by decide +kernel
theorem dX12_corkOf_1 : decode cX12_corkOf 1 = .ok (.invokestatic 275, 3) := by decide +kernel
theorem dX12_corkOf_4 : decode cX12_corkOf 4 = .ok (.istore_n 2, 1) := by decide +kernel
theorem dX12_corkOf_5 : decode cX12_corkOf 5 = .ok (.aload_n 0, 1) := by decide +kernel
theorem dX12_corkOf_6 : decode cX12_corkOf 6 = .ok (.iload_n 1, 1) := by decide +kernel
theorem dX12_corkOf_7 : decode cX12_corkOf 7 = .ok (.iconst 2, 1) := by decide +kernel
theorem dX12_corkOf_8 : decode cX12_corkOf 8 = .ok (.irem, 1) := by decide +kernel
theorem dX12_corkOf_9 : decode cX12_corkOf 9 = .ok (.ifCond .ne 9, 3) := by decide +kernel
theorem dX12_corkOf_12 : decode cX12_corkOf 12 = .ok (.iload_n 1, 1) := by decide +kernel
theorem dX12_corkOf_13 : decode cX12_corkOf 13 = .ok (.iconst 1, 1) := by decide +kernel
theorem dX12_corkOf_14 : decode cX12_corkOf 14 = .ok (.iadd, 1) := by decide +kernel
theorem dX12_corkOf_15 : decode cX12_corkOf 15 = .ok (.goto 6, 3) := by decide +kernel
theorem dX12_corkOf_18 : decode cX12_corkOf 18 = .ok (.iload_n 1, 1) := by decide +kernel
theorem dX12_corkOf_19 : decode cX12_corkOf 19 = .ok (.iconst 1, 1) := by decide +kernel
theorem dX12_corkOf_20 : decode cX12_corkOf 20 = .ok (.isub, 1) := by decide +kernel
theorem dX12_corkOf_21 : decode cX12_corkOf 21 = .ok (.invokevirtual 269, 3) := by decide +kernel
theorem dX12_corkOf_24 : decode cX12_corkOf 24 = .ok (.aload_n 0, 1) := by decide +kernel
theorem dX12_corkOf_25 : decode cX12_corkOf 25 = .ok (.getfield 13, 3) := by decide +kernel
theorem dX12_corkOf_28 : decode cX12_corkOf 28 = .ok (.iconst 5, 1) := by decide +kernel
theorem dX12_corkOf_29 : decode cX12_corkOf 29 = .ok (.iaload, 1) := by decide +kernel
theorem dX12_corkOf_30 : decode cX12_corkOf 30 = .ok (.isub, 1) := by decide +kernel
theorem dX12_corkOf_31 : decode cX12_corkOf 31 = .ok (.istore_n 3, 1) := by decide +kernel
theorem dX12_corkOf_32 : decode cX12_corkOf 32 = .ok (.aload_n 0, 1) := by decide +kernel
theorem dX12_corkOf_33 : decode cX12_corkOf 33 = .ok (.iload_n 2, 1) := by decide +kernel
theorem dX12_corkOf_34 : decode cX12_corkOf 34 = .ok (.invokevirtual 266, 3) := by decide +kernel
theorem dX12_corkOf_37 : decode cX12_corkOf 37 = .ok (.ifCond .eq 7, 3) := by decide +kernel
theorem dX12_corkOf_40 : decode cX12_corkOf 40 = .ok (.iconst 0, 1) := by decide +kernel
theorem dX12_corkOf_41 : decode cX12_corkOf 41 = .ok (.goto 19, 3) := by decide +kernel
theorem dX12_corkOf_44 : decode cX12_corkOf 44 = .ok (.aload_n 0, 1) := by decide +kernel
theorem dX12_corkOf_45 : decode cX12_corkOf 45 = .ok (.iload_n 1, 1) := by decide +kernel
theorem dX12_corkOf_46 : decode cX12_corkOf 46 = .ok (.iconst 2, 1) := by decide +kernel
theorem dX12_corkOf_47 : decode cX12_corkOf 47 = .ok (.irem, 1) := by decide +kernel
theorem dX12_corkOf_48 : decode cX12_corkOf 48 = .ok (.ifCond .ne 7, 3) := by decide +kernel
theorem dX12_corkOf_51 : decode cX12_corkOf 51 = .ok (.iload_n 3, 1) := by decide +kernel
theorem dX12_corkOf_52 : decode cX12_corkOf 52 = .ok (.goto 5, 3) := by decide +kernel
theorem dX12_corkOf_55 : decode cX12_corkOf 55 = .ok (.iload_n 3, 1) := by decide +kernel
theorem dX12_corkOf_56 : decode cX12_corkOf 56 = .ok (.ineg, 1) := by decide +kernel
theorem dX12_corkOf_57 : decode cX12_corkOf 57 = .ok (.invokevirtual 272, 3) := by decide +kernel
theorem dX12_corkOf_60 : decode cX12_corkOf 60 = .ok (.istore 4, 2) := by decide +kernel
theorem dX12_corkOf_62 : decode cX12_corkOf 62 = .ok (.aload_n 0, 1) := by decide +kernel
theorem dX12_corkOf_63 : decode cX12_corkOf 63 = .ok (.iload_n 2, 1) := by decide +kernel
theorem dX12_corkOf_64 : decode cX12_corkOf 64 = .ok (.invokevirtual 278, 3) := by decide +kernel
theorem dX12_corkOf_67 : decode cX12_corkOf 67 = .ok (.ifCond .eq 7, 3) := by decide +kernel
theorem dX12_corkOf_70 : decode cX12_corkOf 70 = .ok (.iconst 0, 1) := by decide +kernel
theorem dX12_corkOf_71 : decode cX12_corkOf 71 = .ok (.goto 9, 3) := by decide +kernel
theorem dX12_corkOf_74 : decode cX12_corkOf 74 = .ok (.iload_n 1, 1) := by decide +kernel
theorem dX12_corkOf_75 : decode cX12_corkOf 75 = .ok (.iload 4, 2) := by decide +kernel
theorem dX12_corkOf_77 : decode cX12_corkOf 77 = .ok (.invokestatic 284, 3) := by decide +kernel
theorem dX12_corkOf_80 : decode cX12_corkOf 80 = .ok (.ireturn, 1) := by decide +kernel
set_option maxRecDepth 20000 in
theorem ggX12_plank_X12_noPlank : GoodIn wsX12_plank wsX12_noPlank := goodIn_r _ [6, 7, 8, 9, 5, 10, 11, 12, 13, 14, 113, 114, 115, 116, 117, 118, 119, 120, 121, 122, 123, 124, 125, 126, 127, 128, 129, 130, 131, 132] (by decide +kernel) (by decide +kernel)
set_option maxRecDepth 20000 in
theorem gX12_plank_X12_noPlank : GoodIn wsX12_plank (wsV RX12 309 RX12 yX12_noPlank wsX12_noPlank) := goodIn_app (goodIn_of _ (by decide +kernel)) ggX12_plank_X12_noPlank
set_option maxRecDepth 20000 in
theorem ggX12_plank_X12_throwsIf : GoodIn wsX12_plank wsX12_throwsIf := goodIn_r _ [18, 1, 113, 114, 115, 116, 117, 118, 119, 120, 121, 122, 123, 124, 125, 126, 127, 128, 129, 130, 131, 132] (by decide +kernel) (by decide +kernel)
set_option maxRecDepth 20000 in
theorem gX12_plank_X12_throwsIf : GoodIn wsX12_plank (wsV RX12 242 RX12 yX12_throwsIf wsX12_throwsIf) := goodIn_app (goodIn_of _ (by decide +kernel)) ggX12_plank_X12_throwsIf
set_option maxRecDepth 20000 in
theorem ggX12_plank_X12_in : GoodIn wsX12_plank wsX12_in := goodIn_r _ [14] (by decide +kernel) (by decide +kernel)
set_option maxRecDepth 20000 in
theorem gX12_plank_X12_in : GoodIn wsX12_plank (va_wsS RX12 75 yX12_in wsX12_in) := goodIn_app (goodIn_of _ (by decide +kernel)) ggX12_plank_X12_in
set_option maxRecDepth 20000 in
theorem ggX12_plank_X12_tiltOf : GoodIn wsX12_plank wsX12_tiltOf := goodIn_r _ [22, 23, 24, 25, 5, 26, 27, 28, 29, 30, 11, 31, 32, 33, 34, 35, 36, 37, 38, 39, 40, 41, 42, 43, 44, 45, 46, 47, 48, 49, 50, 51, 52, 53, 54, 55, 56, 57, 58, 59, 60, 61, 62, 63, 64, 65, 66, 67, 68, 69, 70, 71, 72, 73, 74, 75, 76, 77, 113, 114, 115, 116, 117, 118, 119, 120, 121, 122, 123, 124, 125, 126, 127, 128, 129, 130, 131, 132] (by decide +kernel) (by decide +kernel)
set_option maxRecDepth 20000 in
theorem gX12_plank_X12_tiltOf : GoodIn wsX12_plank (wsV RX12 281 RX12 yX12_tiltOf wsX12_tiltOf) := goodIn_app (goodIn_of _ (by decide +kernel)) ggX12_plank_X12_tiltOf
set_option maxRecDepth 20000 in
theorem ggX12_plank_X12_isLevel : GoodIn wsX12_plank wsX12_isLevel := goodIn_r _ [81, 82, 83, 84, 5, 85, 27, 28, 29, 30, 11, 31, 32, 33, 19, 20, 21, 22, 23, 24, 25, 26, 34, 35, 36, 37, 38, 39, 40, 41, 42, 43, 44, 45, 46, 47, 48, 49, 50, 51, 52, 53, 54, 55, 56, 57, 58, 59, 60, 61, 62, 63, 64, 65, 66, 67, 68, 69, 70, 71, 72, 73, 74, 75, 76, 77, 113, 114, 115, 116, 117, 118, 119, 120, 121, 122, 123, 124, 125, 126, 127, 128, 129, 130, 131, 132] (by decide +kernel) (by decide +kernel)
set_option maxRecDepth 20000 in
theorem gX12_plank_X12_isLevel : GoodIn wsX12_plank (wsV RX12 290 RX12 yX12_isLevel wsX12_isLevel) := goodIn_app (goodIn_of _ (by decide +kernel)) ggX12_plank_X12_isLevel
set_option maxRecDepth 20000 in
theorem ggX12_plank_X12_agesBy : GoodIn wsX12_plank wsX12_agesBy := goodIn_r _ [89, 90, 91, 92, 5, 93, 11, 94, 95, 96, 97, 98, 99, 100, 101, 102, 103, 104, 105, 106, 107, 108, 109, 82, 83, 84, 85, 27, 28, 29, 30, 31, 32, 33, 19, 20, 21, 22, 23, 24, 25, 26, 34, 35, 36, 37, 38, 39, 40, 41, 42, 43, 44, 45, 46, 47, 48, 49, 50, 51, 52, 53, 54, 55, 56, 57, 58, 59, 60, 61, 62, 63, 64, 65, 66, 67, 68, 69, 70, 71, 72, 73, 74, 75, 76, 77, 110, 111, 112, 78, 79, 80, 81, 113, 114, 115, 116, 117, 118, 119, 120, 121, 122, 123, 124, 125, 126, 127, 128, 129, 130, 131, 132] (by decide +kernel) (by decide +kernel)
set_option maxRecDepth 20000 in
theorem gX12_plank_X12_agesBy : GoodIn wsX12_plank (wsV RX12 312 RX12 yX12_agesBy wsX12_agesBy) := goodIn_app (goodIn_of _ (by decide +kernel)) ggX12_plank_X12_agesBy
set_option maxRecDepth 20000 in
theorem ggX12_plank_X12_ofPlank : GoodIn wsX12_plank wsX12_ofPlank := goodIn_r _ [30, 11, 31, 32, 5, 33, 113, 114, 115, 116, 117, 118, 119, 120, 121, 122, 123, 124, 125, 126, 127, 128, 129, 130, 131, 132] (by decide +kernel) (by decide +kernel)
set_option maxRecDepth 20000 in
theorem gX12_plank_X12_ofPlank : GoodIn wsX12_plank (wsV RX12 63 RX12 yX12_ofPlank wsX12_ofPlank) := goodIn_app (goodIn_of _ (by decide +kernel)) ggX12_plank_X12_ofPlank
theorem dX12_plank_0 : decode cX12_plank 0 = .ok (.aload_n 0, 1) := by decide +kernel
theorem dX12_plank_1 : decode cX12_plank 1 = .ok (.iconst 0, 1) := by decide +kernel
theorem dX12_plank_2 : decode cX12_plank 2 = .ok (.putfield 3, 3) := by decide +kernel
theorem dX12_plank_5 : decode cX12_plank 5 = .ok (.aload_n 0, 1) := by decide +kernel
theorem dX12_plank_6 : decode cX12_plank 6 = .ok (.aload_n 0, 1) := by decide +kernel
theorem dX12_plank_7 : decode cX12_plank 7 = .ok (.iload_n 1, 1) := by decide +kernel
theorem dX12_plank_8 : decode cX12_plank 8 = .ok (.invokevirtual 309, 3) := by decide +kernel
theorem dX12_plank_11 : decode cX12_plank 11 = .ok (.iconst 1, 1) := by decide +kernel
theorem dX12_plank_12 : decode cX12_plank 12 = .ok (.invokevirtual 242, 3) := by decide +kernel
theorem dX12_plank_15 : decode cX12_plank 15 = .ok (.ifCond .ne 26, 3) := by decide +kernel
theorem dX12_plank_18 : decode cX12_plank 18 = .ok (.aload_n 0, 1) := by decide +kernel
theorem dX12_plank_19 : decode cX12_plank 19 = .ok (.iload_n 2, 1) := by decide +kernel
theorem dX12_plank_20 : decode cX12_plank 20 = .ok (.iconst 0, 1) := by decide +kernel
theorem dX12_plank_21 : decode cX12_plank 21 = .ok (.bipush 6, 2) := by decide +kernel
theorem dX12_plank_23 : decode cX12_plank 23 = .ok (.invokestatic 75, 3) := by decide +kernel
theorem dX12_plank_26 : decode cX12_plank 26 = .ok (.ifCond .ne 7, 3) := by decide +kernel
theorem dX12_plank_29 : decode cX12_plank 29 = .ok (.iconst 1, 1) := by decide +kernel
theorem dX12_plank_30 : decode cX12_plank 30 = .ok (.goto 4, 3) := by decide +kernel
theorem dX12_plank_33 : decode cX12_plank 33 = .ok (.iconst 0, 1) := by decide +kernel
theorem dX12_plank_34 : decode cX12_plank 34 = .ok (.iconst 2, 1) := by decide +kernel
theorem dX12_plank_35 : decode cX12_plank 35 = .ok (.invokevirtual 242, 3) := by decide +kernel
theorem dX12_plank_38 : decode cX12_plank 38 = .ok (.ifCond .eq 5, 3) := by decide +kernel
theorem dX12_plank_41 : decode cX12_plank 41 = .ok (.iconst 0, 1) := by decide +kernel
theorem dX12_plank_42 : decode cX12_plank 42 = .ok (.ireturn, 1) := by decide +kernel
theorem dX12_plank_43 : decode cX12_plank 43 = .ok (.iload_n 2, 1) := by decide +kernel
theorem dX12_plank_44 : decode cX12_plank 44 = .ok (.tableswitch 56 4 6 #[28, 36, 50], 28) := by decide +kernel
theorem dX12_plank_72 : decode cX12_plank 72 = .ok (.aload_n 0, 1) := by decide +kernel
theorem dX12_plank_73 : decode cX12_plank 73 = .ok (.iload_n 1, 1) := by decide +kernel
