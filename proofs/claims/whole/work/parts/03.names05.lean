theorem dX12_plank_74 : decode cX12_plank 74 = .ok (.invokevirtual 281, 3) := by decide +kernel
theorem dX12_plank_77 : decode cX12_plank 77 = .ok (.iconst 5, 1) := by decide +kernel
theorem dX12_plank_78 : decode cX12_plank 78 = .ok (.iadd, 1) := by decide +kernel
theorem dX12_plank_79 : decode cX12_plank 79 = .ok (.ireturn, 1) := by decide +kernel
theorem dX12_plank_80 : decode cX12_plank 80 = .ok (.aload_n 0, 1) := by decide +kernel
theorem dX12_plank_81 : decode cX12_plank 81 = .ok (.iload_n 1, 1) := by decide +kernel
theorem dX12_plank_82 : decode cX12_plank 82 = .ok (.invokevirtual 290, 3) := by decide +kernel
theorem dX12_plank_85 : decode cX12_plank 85 = .ok (.ifCond .eq 7, 3) := by decide +kernel
theorem dX12_plank_88 : decode cX12_plank 88 = .ok (.iconst 1, 1) := by decide +kernel
theorem dX12_plank_89 : decode cX12_plank 89 = .ok (.goto 4, 3) := by decide +kernel
theorem dX12_plank_92 : decode cX12_plank 92 = .ok (.iconst 0, 1) := by decide +kernel
theorem dX12_plank_93 : decode cX12_plank 93 = .ok (.ireturn, 1) := by decide +kernel
theorem dX12_plank_94 : decode cX12_plank 94 = .ok (.aload_n 0, 1) := by decide +kernel
theorem dX12_plank_95 : decode cX12_plank 95 = .ok (.iload_n 1, 1) := by decide +kernel
theorem dX12_plank_96 : decode cX12_plank 96 = .ok (.invokevirtual 312, 3) := by decide +kernel
theorem dX12_plank_99 : decode cX12_plank 99 = .ok (.ireturn, 1) := by decide +kernel
theorem dX12_plank_100 : decode cX12_plank 100 = .ok (.aload_n 0, 1) := by decide +kernel
theorem dX12_plank_101 : decode cX12_plank 101 = .ok (.iload_n 1, 1) := by decide +kernel
theorem dX12_plank_102 : decode cX12_plank 102 = .ok (.iload_n 2, 1) := by decide +kernel
theorem dX12_plank_103 : decode cX12_plank 103 = .ok (.invokevirtual 63, 3) := by decide +kernel
theorem dX12_plank_106 : decode cX12_plank 106 = .ok (.ireturn, 1) := by decide +kernel
set_option maxRecDepth 20000 in
theorem ggX12_house_X12_noHouse : GoodIn wsX12_house wsX12_noHouse := goodIn_r _ [6, 7, 8, 9, 5, 10, 11, 12, 13, 14, 15, 16, 17, 18, 137, 138, 139, 140, 141, 142, 143, 144, 145, 146, 147, 148, 149, 150, 151, 152, 153, 154, 155, 156] (by decide +kernel) (by decide +kernel)
set_option maxRecDepth 20000 in
theorem gX12_house_X12_noHouse : GoodIn wsX12_house (wsV RX12 315 RX12 yX12_noHouse wsX12_noHouse) := goodIn_app (goodIn_of _ (by decide +kernel)) ggX12_house_X12_noHouse
set_option maxRecDepth 20000 in
theorem ggX12_house_X12_throwsIf : GoodIn wsX12_house wsX12_throwsIf := goodIn_r _ [22, 1, 137, 138, 139, 140, 141, 142, 143, 144, 145, 146, 147, 148, 149, 150, 151, 152, 153, 154, 155, 156] (by decide +kernel) (by decide +kernel)
set_option maxRecDepth 20000 in
theorem gX12_house_X12_throwsIf : GoodIn wsX12_house (wsV RX12 242 RX12 yX12_throwsIf wsX12_throwsIf) := goodIn_app (goodIn_of _ (by decide +kernel)) ggX12_house_X12_throwsIf
set_option maxRecDepth 20000 in
theorem ggX12_house_X12_in : GoodIn wsX12_house wsX12_in := goodIn_r _ [18] (by decide +kernel) (by decide +kernel)
set_option maxRecDepth 20000 in
theorem gX12_house_X12_in : GoodIn wsX12_house (va_wsS RX12 75 yX12_in wsX12_in) := goodIn_app (goodIn_of _ (by decide +kernel)) ggX12_house_X12_in
set_option maxRecDepth 20000 in
theorem ggX12_house_X12_loadOf : GoodIn wsX12_house wsX12_loadOf := goodIn_r _ [26, 15, 27, 28, 29, 5, 30, 31, 32, 33, 34, 35, 36, 37, 38, 39, 40, 41, 42, 43, 44, 45, 46, 47, 48, 49, 50, 51, 52, 53, 54, 55, 137, 138, 139, 140, 141, 142, 143, 144, 145, 146, 147, 148, 149, 150, 151, 152, 153, 154, 155, 156] (by decide +kernel) (by decide +kernel)
set_option maxRecDepth 20000 in
theorem gX12_house_X12_loadOf : GoodIn wsX12_house (wsV RX12 269 RX12 yX12_loadOf wsX12_loadOf) := goodIn_app (goodIn_of _ (by decide +kernel)) ggX12_house_X12_loadOf
set_option maxRecDepth 20000 in
theorem ggX12_house_X12_heightOf : GoodIn wsX12_house wsX12_heightOf := goodIn_r _ [59, 60, 61, 5, 62, 63, 64, 65, 66, 67, 68, 69, 70, 15, 71, 72, 73, 74, 75, 76, 77, 78, 79, 80, 81, 23, 24, 25, 26, 27, 28, 29, 30, 31, 32, 33, 34, 35, 36, 37, 38, 39, 40, 41, 42, 43, 44, 45, 46, 47, 48, 49, 50, 51, 52, 53, 54, 55, 82, 83, 84, 85, 86, 87, 88, 89, 90, 91, 92, 93, 94, 95, 137, 138, 139, 140, 141, 142, 143, 144, 145, 146, 147, 148, 149, 150, 151, 152, 153, 154, 155, 156] (by decide +kernel) (by decide +kernel)
set_option maxRecDepth 20000 in
theorem gX12_house_X12_heightOf : GoodIn wsX12_house (wsV RX12 287 RX12 yX12_heightOf wsX12_heightOf) := goodIn_app (goodIn_of _ (by decide +kernel)) ggX12_house_X12_heightOf
set_option maxRecDepth 20000 in
theorem ggX12_house_X12_thingsIn : GoodIn wsX12_house wsX12_thingsIn := goodIn_r _ [30, 31, 32, 33, 5, 34, 15, 35, 36, 37, 38, 39, 40, 41, 137, 138, 139, 140, 141, 142, 143, 144, 145, 146, 147, 148, 149, 150, 151, 152, 153, 154, 155, 156] (by decide +kernel) (by decide +kernel)
set_option maxRecDepth 20000 in
theorem gX12_house_X12_thingsIn : GoodIn wsX12_house (wsV RX12 248 RX12 yX12_thingsIn wsX12_thingsIn) := goodIn_app (goodIn_of _ (by decide +kernel)) ggX12_house_X12_thingsIn
set_option maxRecDepth 20000 in
theorem ggX12_house_X12_paysBy : GoodIn wsX12_house wsX12_paysBy := goodIn_r _ [99, 15, 56, 57, 58, 5, 59, 60, 61, 62, 63, 64, 65, 66, 67, 68, 69, 70, 71, 72, 73, 74, 75, 76, 77, 78, 79, 80, 81, 23, 24, 25, 26, 27, 28, 29, 30, 31, 32, 33, 34, 35, 36, 37, 38, 39, 40, 41, 42, 43, 44, 45, 46, 47, 48, 49, 50, 51, 52, 53, 54, 55, 82, 83, 84, 85, 86, 87, 88, 89, 90, 91, 92, 93, 94, 95, 100, 101, 102, 103, 104, 105, 106, 107, 108, 109, 110, 111, 112, 113, 114, 115, 116, 137, 138, 139, 140, 141, 142, 143, 144, 145, 146, 147, 148, 149, 150, 151, 152, 153, 154, 155, 156] (by decide +kernel) (by decide +kernel)
set_option maxRecDepth 20000 in
theorem gX12_house_X12_paysBy : GoodIn wsX12_house (wsV RX12 318 RX12 yX12_paysBy wsX12_paysBy) := goodIn_app (goodIn_of _ (by decide +kernel)) ggX12_house_X12_paysBy
set_option maxRecDepth 20000 in
theorem ggX12_house_X12_luresBy : GoodIn wsX12_house wsX12_luresBy := goodIn_r _ [120, 27, 28, 29, 5, 30, 31, 32, 33, 34, 15, 35, 36, 37, 38, 39, 40, 41, 121, 122, 123, 124, 46, 47, 48, 100, 101, 102, 103, 104, 105, 106, 107, 108, 109, 110, 111, 112, 56, 57, 58, 59, 60, 61, 62, 63, 64, 65, 66, 67, 68, 69, 70, 71, 72, 73, 74, 75, 76, 77, 78, 79, 80, 81, 23, 24, 25, 26, 42, 43, 44, 45, 49, 50, 51, 52, 53, 54, 55, 82, 83, 84, 85, 86, 87, 88, 89, 90, 91, 92, 93, 94, 95, 113, 114, 115, 116, 137, 138, 139, 140, 141, 142, 143, 144, 145, 146, 147, 148, 149, 150, 151, 152, 153, 154, 155, 156] (by decide +kernel) (by decide +kernel)
set_option maxRecDepth 20000 in
theorem gX12_house_X12_luresBy : GoodIn wsX12_house (wsV RX12 321 RX12 yX12_luresBy wsX12_luresBy) := goodIn_app (goodIn_of _ (by decide +kernel)) ggX12_house_X12_luresBy
set_option maxRecDepth 20000 in
theorem ggX12_house_X12_shareOf : GoodIn wsX12_house wsX12_shareOf := goodIn_r _ [128, 7, 8, 9, 5, 10, 11, 12, 13, 14, 15, 129, 130, 131, 132, 90, 91, 88, 92, 56, 57, 58, 59, 60, 61, 62, 63, 64, 65, 66, 67, 68, 69, 70, 71, 72, 73, 74, 75, 76, 77, 78, 79, 80, 81, 23, 24, 25, 26, 27, 28, 29, 30, 31, 32, 33, 34, 35, 36, 37, 38, 39, 40, 41, 42, 43, 44, 45, 46, 47, 48, 49, 50, 51, 52, 53, 54, 55, 82, 83, 84, 85, 86, 87, 89, 93, 94, 95, 137, 138, 139, 140, 141, 142, 143, 144, 145, 146, 147, 148, 149, 150, 151, 152, 153, 154, 155, 156] (by decide +kernel) (by decide +kernel)
set_option maxRecDepth 20000 in
theorem gX12_house_X12_shareOf : GoodIn wsX12_house (wsV RX12 324 RX12 yX12_shareOf wsX12_shareOf) := goodIn_app (goodIn_of _ (by decide +kernel)) ggX12_house_X12_shareOf
set_option maxRecDepth 20000 in
theorem ggX12_house_X12_corkOf : GoodIn wsX12_house wsX12_corkOf := goodIn_r _ [136, 15, 60, 61, 5, 62, 23, 24, 25, 26, 27, 28, 29, 30, 31, 32, 33, 34, 35, 36, 37, 38, 39, 40, 41, 42, 43, 44, 45, 46, 47, 48, 49, 50, 51, 52, 53, 54, 55, 78, 79, 80, 81, 67, 68, 69, 70, 71, 72, 73, 82, 83, 84, 85, 86, 87, 88, 89, 90, 91, 92, 63, 64, 65, 66, 93, 94, 95, 137, 138, 139, 140, 141, 142, 143, 144, 145, 146, 147, 148, 149, 150, 151, 152, 153, 154, 155, 156] (by decide +kernel) (by decide +kernel)
set_option maxRecDepth 20000 in
theorem gX12_house_X12_corkOf : GoodIn wsX12_house (wsV RX12 327 RX12 yX12_corkOf wsX12_corkOf) := goodIn_app (goodIn_of _ (by decide +kernel)) ggX12_house_X12_corkOf
set_option maxRecDepth 20000 in
theorem ggX12_house_X12_of : GoodIn wsX12_house wsX12_of := goodIn_r _ [52, 15, 53, 54, 5, 55, 137, 138, 139, 140, 141, 142, 143, 144, 145, 146, 147, 148, 149, 150, 151, 152, 153, 154, 155, 156] (by decide +kernel) (by decide +kernel)
set_option maxRecDepth 20000 in
theorem gX12_house_X12_of : GoodIn wsX12_house (wsV RX12 255 RX12 yX12_of wsX12_of) := goodIn_app (goodIn_of _ (by decide +kernel)) ggX12_house_X12_of
theorem dX12_house_0 : decode cX12_house 0 = .ok (.aload_n 0, 1) := by decide +kernel
theorem dX12_house_1 : decode cX12_house 1 = .ok (.iconst 0, 1) := by decide +kernel
theorem dX12_house_2 : decode cX12_house 2 = .ok (.putfield 3, 3) := by decide +kernel
theorem dX12_house_5 : decode cX12_house 5 = .ok (.aload_n 0, 1) := by decide +kernel
theorem dX12_house_6 : decode cX12_house 6 = .ok (.aload_n 0, 1) := by decide +kernel
theorem dX12_house_7 : decode cX12_house 7 = .ok (.iload_n 1, 1) := by decide +kernel
theorem dX12_house_8 : decode cX12_house 8 = .ok (.invokevirtual 315, 3) := by decide +kernel
theorem dX12_house_11 : decode cX12_house 11 = .ok (.iconst 1, 1) := by decide +kernel
theorem dX12_house_12 : decode cX12_house 12 = .ok (.invokevirtual 242, 3) := by decide +kernel
theorem dX12_house_15 : decode cX12_house 15 = .ok (.ifCond .ne 26, 3) := by decide +kernel
theorem dX12_house_18 : decode cX12_house 18 = .ok (.aload_n 0, 1) := by decide +kernel
theorem dX12_house_19 : decode cX12_house 19 = .ok (.iload_n 2, 1) := by decide +kernel
theorem dX12_house_20 : decode cX12_house 20 = .ok (.iconst 0, 1) := by decide +kernel
theorem dX12_house_21 : decode cX12_house 21 = .ok (.bipush 8, 2) := by decide +kernel
theorem dX12_house_23 : decode cX12_house 23 = .ok (.invokestatic 75, 3) := by decide +kernel
theorem dX12_house_26 : decode cX12_house 26 = .ok (.ifCond .ne 7, 3) := by decide +kernel
theorem dX12_house_29 : decode cX12_house 29 = .ok (.iconst 1, 1) := by decide +kernel
theorem dX12_house_30 : decode cX12_house 30 = .ok (.goto 4, 3) := by decide +kernel
theorem dX12_house_33 : decode cX12_house 33 = .ok (.iconst 0, 1) := by decide +kernel
theorem dX12_house_34 : decode cX12_house 34 = .ok (.iconst 2, 1) := by decide +kernel
theorem dX12_house_35 : decode cX12_house 35 = .ok (.invokevirtual 242, 3) := by decide +kernel
theorem dX12_house_38 : decode cX12_house 38 = .ok (.ifCond .eq 5, 3) := by decide +kernel
theorem dX12_house_41 : decode cX12_house 41 = .ok (.iconst 0, 1) := by decide +kernel
theorem dX12_house_42 : decode cX12_house 42 = .ok (.ireturn, 1) := by decide +kernel
theorem dX12_house_43 : decode cX12_house 43 = .ok (.iload_n 2, 1) := by decide +kernel
theorem dX12_house_44 : decode cX12_house 44 = .ok (.tableswitch 86 2 8 #[44, 50, 56, 62, 68, 74, 80], 44) := by decide +kernel
theorem dX12_house_88 : decode cX12_house 88 = .ok (.aload_n 0, 1) := by decide +kernel
theorem dX12_house_89 : decode cX12_house 89 = .ok (.iload_n 1, 1) := by decide +kernel
theorem dX12_house_90 : decode cX12_house 90 = .ok (.invokevirtual 269, 3) := by decide +kernel
theorem dX12_house_93 : decode cX12_house 93 = .ok (.ireturn, 1) := by decide +kernel
theorem dX12_house_94 : decode cX12_house 94 = .ok (.aload_n 0, 1) := by decide +kernel
theorem dX12_house_95 : decode cX12_house 95 = .ok (.iload_n 1, 1) := by decide +kernel
theorem dX12_house_96 : decode cX12_house 96 = .ok (.invokevirtual 287, 3) := by decide +kernel
theorem dX12_house_99 : decode cX12_house 99 = .ok (.ireturn, 1) := by decide +kernel
theorem dX12_house_100 : decode cX12_house 100 = .ok (.aload_n 0, 1) := by decide +kernel
theorem dX12_house_101 : decode cX12_house 101 = .ok (.iload_n 1, 1) := by decide +kernel
theorem dX12_house_102 : decode cX12_house 102 = .ok (.invokevirtual 248, 3) := by decide +kernel
theorem dX12_house_105 : decode cX12_house 105 = .ok (.ireturn, 1) := by decide +kernel
theorem dX12_house_106 : decode cX12_house 106 = .ok (.aload_n 0, 1) := by decide +kernel
theorem dX12_house_107 : decode cX12_house 107 = .ok (.iload_n 1, 1) := by decide +kernel
theorem dX12_house_108 : decode cX12_house 108 = .ok (.invokevirtual 318, 3) := by decide +kernel
theorem dX12_house_111 : decode cX12_house 111 = .ok (.ireturn, 1) := by decide +kernel
theorem dX12_house_112 : decode cX12_house 112 = .ok (.aload_n 0, 1) := by decide +kernel
theorem dX12_house_113 : decode cX12_house 113 = .ok (.iload_n 1, 1) := by decide +kernel
theorem dX12_house_114 : decode cX12_house 114 = .ok (.invokevirtual 321, 3) := by decide +kernel
theorem dX12_house_117 : decode cX12_house 117 = .ok (.ireturn, 1) := by decide +kernel
theorem dX12_house_118 : decode cX12_house 118 = .ok (.aload_n 0, 1) := by decide +kernel
theorem dX12_house_119 : decode cX12_house 119 = .ok (.iload_n 1, 1) := by decide +kernel
theorem dX12_house_120 : decode cX12_house 120 = .ok (.invokevirtual 324, 3) := by decide +kernel
theorem dX12_house_123 : decode cX12_house 123 = .ok (.ireturn, 1) := by decide +kernel
theorem dX12_house_124 : decode cX12_house 124 = .ok (.aload_n 0, 1) := by decide +kernel
theorem dX12_house_125 : decode cX12_house 125 = .ok (.iload_n 1, 1) := by decide +kernel
theorem dX12_house_126 : decode cX12_house 126 = .ok (.invokevirtual 327, 3) := by decide +kernel
theorem dX12_house_129 : decode cX12_house 129 = .ok (.ireturn, 1) := by decide +kernel
theorem dX12_house_130 : decode cX12_house 130 = .ok (.aload_n 0, 1) := by decide +kernel
theorem dX12_house_131 : decode cX12_house 131 = .ok (.iload_n 1, 1) := by decide +kernel
theorem dX12_house_132 : decode cX12_house 132 = .ok (.iload_n 2, 1) := by decide +kernel
theorem dX12_house_133 : decode cX12_house 133 = .ok (.invokevirtual 255, 3) := by decide +kernel
theorem dX12_house_136 : decode cX12_house 136 = .ok (.ireturn, 1) := by decide +kernel
set_option maxRecDepth 20000 in
theorem ggX12_thing_X12_noThing : GoodIn wsX12_thing wsX12_noThing := goodIn_r _ [6, 7, 8, 9, 5, 10, 11, 12, 13, 14, 26, 27, 28, 29, 30, 31, 32, 33, 34, 35, 36, 37, 38, 39, 40, 41, 42, 43, 44, 45] (by decide +kernel) (by decide +kernel)
set_option maxRecDepth 20000 in
theorem gX12_thing_X12_noThing : GoodIn wsX12_thing (wsV RX12 330 RX12 yX12_noThing wsX12_noThing) := goodIn_app (goodIn_of _ (by decide +kernel)) ggX12_thing_X12_noThing
set_option maxRecDepth 20000 in
theorem ggX12_thing_X12_throwsIf : GoodIn wsX12_thing wsX12_throwsIf := goodIn_r _ [18, 1, 26, 27, 28, 29, 30, 31, 32, 33, 34, 35, 36, 37, 38, 39, 40, 41, 42, 43, 44, 45] (by decide +kernel) (by decide +kernel)
set_option maxRecDepth 20000 in
theorem gX12_thing_X12_throwsIf : GoodIn wsX12_thing (wsV RX12 242 RX12 yX12_throwsIf wsX12_throwsIf) := goodIn_app (goodIn_of _ (by decide +kernel)) ggX12_thing_X12_throwsIf
set_option maxRecDepth 20000 in
theorem ggX12_thing_X12_in : GoodIn wsX12_thing wsX12_in := goodIn_r _ [14] (by decide +kernel) (by decide +kernel)
set_option maxRecDepth 20000 in
theorem gX12_thing_X12_in : GoodIn wsX12_thing (va_wsS RX12 75 yX12_in wsX12_in) := goodIn_app (goodIn_of _ (by decide +kernel)) ggX12_thing_X12_in
set_option maxRecDepth 20000 in
theorem ggX12_thing_X12_ofThing : GoodIn wsX12_thing wsX12_ofThing := goodIn_r _ [22, 11, 23, 24, 5, 25, 26, 27, 28, 29, 30, 31, 32, 33, 34, 35, 36, 37, 38, 39, 40, 41, 42, 43, 44, 45] (by decide +kernel) (by decide +kernel)
set_option maxRecDepth 20000 in
theorem gX12_thing_X12_ofThing : GoodIn wsX12_thing (wsV RX12 72 RX12 yX12_ofThing wsX12_ofThing) := goodIn_app (goodIn_of _ (by decide +kernel)) ggX12_thing_X12_ofThing
theorem dX12_thing_0 : decode cX12_thing 0 = .ok (.aload_n 0, 1) := by decide +kernel
theorem dX12_thing_1 : decode cX12_thing 1 = .ok (.iconst 0, 1) := by decide +kernel
theorem dX12_thing_2 : decode cX12_thing 2 = .ok (.putfield 3, 3) := by decide +kernel
theorem dX12_thing_5 : decode cX12_thing 5 = .ok (.aload_n 0, 1) := by decide +kernel
theorem dX12_thing_6 : decode cX12_thing 6 = .ok (.aload_n 0, 1) := by decide +kernel
theorem dX12_thing_7 : decode cX12_thing 7 = .ok (.iload_n 1, 1) := by decide +kernel
theorem dX12_thing_8 : decode cX12_thing 8 = .ok (.invokevirtual 330, 3) := by decide +kernel
theorem dX12_thing_11 : decode cX12_thing 11 = .ok (.iconst 1, 1) := by decide +kernel
theorem dX12_thing_12 : decode cX12_thing 12 = .ok (.invokevirtual 242, 3) := by decide +kernel
theorem dX12_thing_15 : decode cX12_thing 15 = .ok (.ifCond .ne 25, 3) := by decide +kernel
theorem dX12_thing_18 : decode cX12_thing 18 = .ok (.aload_n 0, 1) := by decide +kernel
theorem dX12_thing_19 : decode cX12_thing 19 = .ok (.iload_n 2, 1) := by decide +kernel
theorem dX12_thing_20 : decode cX12_thing 20 = .ok (.iconst 0, 1) := by decide +kernel
theorem dX12_thing_21 : decode cX12_thing 21 = .ok (.iconst 2, 1) := by decide +kernel
theorem dX12_thing_22 : decode cX12_thing 22 = .ok (.invokestatic 75, 3) := by decide +kernel
theorem dX12_thing_25 : decode cX12_thing 25 = .ok (.ifCond .ne 7, 3) := by decide +kernel
theorem dX12_thing_28 : decode cX12_thing 28 = .ok (.iconst 1, 1) := by decide +kernel
theorem dX12_thing_29 : decode cX12_thing 29 = .ok (.goto 4, 3) := by decide +kernel
theorem dX12_thing_32 : decode cX12_thing 32 = .ok (.iconst 0, 1) := by decide +kernel
theorem dX12_thing_33 : decode cX12_thing 33 = .ok (.iconst 2, 1) := by decide +kernel
theorem dX12_thing_34 : decode cX12_thing 34 = .ok (.invokevirtual 242, 3) := by decide +kernel
theorem dX12_thing_37 : decode cX12_thing 37 = .ok (.ifCond .eq 7, 3) := by decide +kernel
theorem dX12_thing_40 : decode cX12_thing 40 = .ok (.iconst 0, 1) := by decide +kernel
theorem dX12_thing_41 : decode cX12_thing 41 = .ok (.goto 9, 3) := by decide +kernel
theorem dX12_thing_44 : decode cX12_thing 44 = .ok (.aload_n 0, 1) := by decide +kernel
theorem dX12_thing_45 : decode cX12_thing 45 = .ok (.iload_n 1, 1) := by decide +kernel
theorem dX12_thing_46 : decode cX12_thing 46 = .ok (.iload_n 2, 1) := by decide +kernel
theorem dX12_thing_47 : decode cX12_thing 47 = .ok (.invokevirtual 72, 3) := by decide +kernel
theorem dX12_thing_50 : decode cX12_thing 50 = .ok (.ireturn, 1) := by decide +kernel
theorem dX12_tells_0 : decode cX12_tells 0 = .ok (.sipush 299, 3) := by decide +kernel
theorem dX12_tells_3 : decode cX12_tells 3 = .ok (.istore 5, 2) := by decide +kernel
theorem dX12_tells_5 : decode cX12_tells 5 = .ok (.iload 5, 2) := by decide +kernel
theorem dX12_tells_7 : decode cX12_tells 7 = .ok (.iconst 5, 1) := by decide +kernel
theorem dX12_tells_8 : decode cX12_tells 8 = .ok (.if_icmp .lt 31, 3) := by decide +kernel
theorem dX12_tells_11 : decode cX12_tells 11 = .ok (.aload_n 0, 1) := by decide +kernel
theorem dX12_tells_12 : decode cX12_tells 12 = .ok (.getfield 13, 3) := by decide +kernel
theorem dX12_tells_15 : decode cX12_tells 15 = .ok (.bipush 82, 2) := by decide +kernel
theorem dX12_tells_17 : decode cX12_tells 17 = .ok (.iload 5, 2) := by decide +kernel
theorem dX12_tells_19 : decode cX12_tells 19 = .ok (.iadd, 1) := by decide +kernel
theorem dX12_tells_20 : decode cX12_tells 20 = .ok (.aload_n 0, 1) := by decide +kernel
theorem dX12_tells_21 : decode cX12_tells 21 = .ok (.getfield 13, 3) := by decide +kernel
theorem dX12_tells_24 : decode cX12_tells 24 = .ok (.bipush 82, 2) := by decide +kernel
theorem dX12_tells_26 : decode cX12_tells 26 = .ok (.iload 5, 2) := by decide +kernel
theorem dX12_tells_28 : decode cX12_tells 28 = .ok (.iadd, 1) := by decide +kernel
theorem dX12_tells_29 : decode cX12_tells 29 = .ok (.iconst 5, 1) := by decide +kernel
theorem dX12_tells_30 : decode cX12_tells 30 = .ok (.isub, 1) := by decide +kernel
theorem dX12_tells_31 : decode cX12_tells 31 = .ok (.iaload, 1) := by decide +kernel
theorem dX12_tells_32 : decode cX12_tells 32 = .ok (.iastore, 1) := by decide +kernel
theorem dX12_tells_33 : decode cX12_tells 33 = .ok (.iinc 5 (-1), 3) := by decide +kernel
theorem dX12_tells_36 : decode cX12_tells 36 = .ok (.goto (-31), 3) := by decide +kernel
theorem dX12_tells_39 : decode cX12_tells 39 = .ok (.aload_n 0, 1) := by decide +kernel
theorem dX12_tells_40 : decode cX12_tells 40 = .ok (.getfield 13, 3) := by decide +kernel
theorem dX12_tells_43 : decode cX12_tells 43 = .ok (.bipush 82, 2) := by decide +kernel
theorem dX12_tells_45 : decode cX12_tells 45 = .ok (.aload_n 0, 1) := by decide +kernel
theorem dX12_tells_46 : decode cX12_tells 46 = .ok (.getfield 13, 3) := by decide +kernel
theorem dX12_tells_49 : decode cX12_tells 49 = .ok (.iconst 4, 1) := by decide +kernel
theorem dX12_tells_50 : decode cX12_tells 50 = .ok (.iaload, 1) := by decide +kernel
theorem dX12_tells_51 : decode cX12_tells 51 = .ok (.iastore, 1) := by decide +kernel
theorem dX12_tells_52 : decode cX12_tells 52 = .ok (.aload_n 0, 1) := by decide +kernel
theorem dX12_tells_53 : decode cX12_tells 53 = .ok (.getfield 13, 3) := by decide +kernel
theorem dX12_tells_56 : decode cX12_tells 56 = .ok (.bipush 83, 2) := by decide +kernel
theorem dX12_tells_58 : decode cX12_tells 58 = .ok (.iload_n 1, 1) := by decide +kernel
theorem dX12_tells_59 : decode cX12_tells 59 = .ok (.iastore, 1) := by decide +kernel
theorem dX12_tells_60 : decode cX12_tells 60 = .ok (.aload_n 0, 1) := by decide +kernel
theorem dX12_tells_61 : decode cX12_tells 61 = .ok (.getfield 13, 3) := by decide +kernel
theorem dX12_tells_64 : decode cX12_tells 64 = .ok (.bipush 84, 2) := by decide +kernel
theorem dX12_tells_66 : decode cX12_tells 66 = .ok (.iload_n 2, 1) := by decide +kernel
theorem dX12_tells_67 : decode cX12_tells 67 = .ok (.iastore, 1) := by decide +kernel
theorem dX12_tells_68 : decode cX12_tells 68 = .ok (.aload_n 0, 1) := by decide +kernel
theorem dX12_tells_69 : decode cX12_tells 69 = .ok (.getfield 13, 3) := by decide +kernel
theorem dX12_tells_72 : decode cX12_tells 72 = .ok (.bipush 85, 2) := by decide +kernel
theorem dX12_tells_74 : decode cX12_tells 74 = .ok (.iload_n 3, 1) := by decide +kernel
theorem dX12_tells_75 : decode cX12_tells 75 = .ok (.iastore, 1) := by decide +kernel
theorem dX12_tells_76 : decode cX12_tells 76 = .ok (.aload_n 0, 1) := by decide +kernel
theorem dX12_tells_77 : decode cX12_tells 77 = .ok (.getfield 13, 3) := by decide +kernel
theorem dX12_tells_80 : decode cX12_tells 80 = .ok (.bipush 86, 2) := by decide +kernel
theorem dX12_tells_82 : decode cX12_tells 82 = .ok (.iload 4, 2) := by decide +kernel
theorem dX12_tells_84 : decode cX12_tells 84 = .ok (.iastore, 1) := by decide +kernel
theorem dX12_tells_85 : decode cX12_tells 85 = .ok (.aload_n 0, 1) := by decide +kernel
theorem dX12_tells_86 : decode cX12_tells 86 = .ok (.getfield 13, 3) := by decide +kernel
theorem dX12_tells_89 : decode cX12_tells 89 = .ok (.bipush 10, 2) := by decide +kernel
theorem dX12_tells_91 : decode cX12_tells 91 = .ok (.bipush 60, 2) := by decide +kernel
theorem dX12_tells_93 : decode cX12_tells 93 = .ok (.aload_n 0, 1) := by decide +kernel
theorem dX12_tells_94 : decode cX12_tells 94 = .ok (.getfield 13, 3) := by decide +kernel
theorem dX12_tells_97 : decode cX12_tells 97 = .ok (.bipush 10, 2) := by decide +kernel
theorem dX12_tells_99 : decode cX12_tells 99 = .ok (.iaload, 1) := by decide +kernel
theorem dX12_tells_100 : decode cX12_tells 100 = .ok (.iconst 1, 1) := by decide +kernel
theorem dX12_tells_101 : decode cX12_tells 101 = .ok (.iadd, 1) := by decide +kernel
theorem dX12_tells_102 : decode cX12_tells 102 = .ok (.invokestatic 258, 3) := by decide +kernel
theorem dX12_tells_105 : decode cX12_tells 105 = .ok (.iastore, 1) := by decide +kernel
theorem dX12_tells_106 : decode cX12_tells 106 = .ok (.return_, 1) := by decide +kernel
set_option maxRecDepth 20000 in
theorem ggX12_carry_X12_noThing : GoodIn wsX12_carry wsX12_noThing := goodIn_r _ [7, 8, 9, 10, 6, 11, 2, 12, 13, 14, 56, 57, 58, 59, 60, 61, 62, 63, 64, 65, 66, 67, 68, 69, 70, 71, 72, 73, 74, 75] (by decide +kernel) (by decide +kernel)
set_option maxRecDepth 20000 in
theorem gX12_carry_X12_noThing : GoodIn wsX12_carry (wsV RX12 330 RX12 yX12_noThing wsX12_noThing) := goodIn_app (goodIn_of _ (by decide +kernel)) ggX12_carry_X12_noThing
set_option maxRecDepth 20000 in
theorem ggX12_carry_X12_noHouse : GoodIn wsX12_carry wsX12_noHouse := goodIn_r _ [18, 19, 20, 21, 6, 22, 23, 24, 25, 26, 2, 12, 13, 14, 56, 57, 58, 59, 60, 61, 62, 63, 64, 65, 66, 67, 68, 69, 70, 71, 72, 73, 74, 75] (by decide +kernel) (by decide +kernel)
set_option maxRecDepth 20000 in
theorem gX12_carry_X12_noHouse : GoodIn wsX12_carry (wsV RX12 315 RX12 yX12_noHouse wsX12_noHouse) := goodIn_app (goodIn_of _ (by decide +kernel)) ggX12_carry_X12_noHouse
set_option maxRecDepth 20000 in
theorem ggX12_carry_X12_throwsIf : GoodIn wsX12_carry wsX12_throwsIf := goodIn_r _ [30, 1, 56, 57, 58, 59, 60, 61, 62, 63, 64, 65, 66, 67, 68, 69, 70, 71, 72, 73, 74, 75] (by decide +kernel) (by decide +kernel)
set_option maxRecDepth 20000 in
theorem gX12_carry_X12_throwsIf : GoodIn wsX12_carry (wsV RX12 242 RX12 yX12_throwsIf wsX12_throwsIf) := goodIn_app (goodIn_of _ (by decide +kernel)) ggX12_carry_X12_throwsIf
set_option maxRecDepth 20000 in
theorem ggX12_carry_X12_isGone : GoodIn wsX12_carry wsX12_isGone := goodIn_r _ [34, 35, 36, 37, 6, 38, 2, 39, 40, 41, 56, 57, 58, 59, 60, 61, 62, 63, 64, 65, 66, 67, 68, 69, 70, 71, 72, 73, 74, 75] (by decide +kernel) (by decide +kernel)
set_option maxRecDepth 20000 in
theorem gX12_carry_X12_isGone : GoodIn wsX12_carry (wsV RX12 333 RX12 yX12_isGone wsX12_isGone) := goodIn_app (goodIn_of _ (by decide +kernel)) ggX12_carry_X12_isGone
set_option maxRecDepth 20000 in
theorem ggX12_carry_X12_remembers : GoodIn wsX12_carry wsX12_remembers := goodIn_r _ [45, 46, 47, 2, 56, 57, 58, 59, 60, 61, 62, 63, 64, 65, 66, 67, 68, 69, 70, 71, 72, 73, 74, 75] (by decide +kernel) (by decide +kernel)
set_option maxRecDepth 20000 in
theorem gX12_carry_X12_remembers : GoodIn wsX12_carry (wsV RX12 336 RX12 yX12_remembers wsX12_remembers) := goodIn_app (goodIn_of _ (by decide +kernel)) ggX12_carry_X12_remembers
set_option maxRecDepth 20000 in
theorem ggX12_carry_X12_ofThing : GoodIn wsX12_carry wsX12_ofThing := goodIn_r _ [38, 2, 39, 40, 6, 41, 56, 57, 58, 59, 60, 61, 62, 63, 64, 65, 66, 67, 68, 69, 70, 71, 72, 73, 74, 75] (by decide +kernel) (by decide +kernel)
set_option maxRecDepth 20000 in
theorem gX12_carry_X12_ofThing : GoodIn wsX12_carry (wsV RX12 72 RX12 yX12_ofThing wsX12_ofThing) := goodIn_app (goodIn_of _ (by decide +kernel)) ggX12_carry_X12_ofThing
set_option maxRecDepth 20000 in
theorem ggX12_carry_X12_thingAt : GoodIn wsX12_carry wsX12_thingAt := goodIn_r _ [41] (by decide +kernel) (by decide +kernel)
set_option maxRecDepth 20000 in
theorem gX12_carry_X12_thingAt : GoodIn wsX12_carry (va_wsS RX12 69 yX12_thingAt wsX12_thingAt) := goodIn_app (goodIn_of _ (by decide +kernel)) ggX12_carry_X12_thingAt
set_option maxRecDepth 20000 in
theorem ggX12_carry_X12_tells : GoodIn wsX12_carry wsX12_tells := goodIn_r _ [51, 2, 52, 53, 54, 55, 56, 57, 58, 59, 60, 61, 62, 63, 64, 65, 66, 67, 68, 69, 70, 71, 72, 73, 74, 75] (by decide +kernel) (by decide +kernel)
set_option maxRecDepth 20000 in
theorem gX12_carry_X12_tells : GoodIn wsX12_carry (wsV RX12 339 RX12 yX12_tells wsX12_tells) := goodIn_app (goodIn_of _ (by decide +kernel)) ggX12_carry_X12_tells
theorem dX12_carry_0 : decode cX12_carry 0 = .ok (.aload_n 0, 1) := by decide +kernel
theorem dX12_carry_1 : decode cX12_carry 1 = .ok (.iconst 0, 1) := by decide +kernel
theorem dX12_carry_2 : decode cX12_carry 2 = .ok (.putfield 3, 3) := by decide +kernel
theorem dX12_carry_5 : decode cX12_carry 5 = .ok (.aload_n 0, 1) := by decide +kernel
theorem dX12_carry_6 : decode cX12_carry 6 = .ok (.aload_n 0, 1) := by decide +kernel
theorem dX12_carry_7 : decode cX12_carry 7 = .ok (.iload_n 1, 1) := by decide +kernel
theorem dX12_carry_8 : decode cX12_carry 8 = .ok (.invokevirtual 330, 3) := by decide +kernel
theorem dX12_carry_11 : decode cX12_carry 11 = .ok (.ifCond .ne 11, 3) := by decide +kernel
theorem dX12_carry_14 : decode cX12_carry 14 = .ok (.aload_n 0, 1) := by decide +kernel
theorem dX12_carry_15 : decode cX12_carry 15 = .ok (.iload_n 2, 1) := by decide +kernel
theorem dX12_carry_16 : decode cX12_carry 16 = .ok (.invokevirtual 315, 3) := by decide +kernel
theorem dX12_carry_19 : decode cX12_carry 19 = .ok (.ifCond .eq 7, 3) := by decide +kernel
theorem dX12_carry_22 : decode cX12_carry 22 = .ok (.iconst 1, 1) := by decide +kernel
theorem dX12_carry_23 : decode cX12_carry 23 = .ok (.goto 4, 3) := by decide +kernel
theorem dX12_carry_26 : decode cX12_carry 26 = .ok (.iconst 0, 1) := by decide +kernel
theorem dX12_carry_27 : decode cX12_carry 27 = .ok (.iconst 1, 1) := by decide +kernel
theorem dX12_carry_28 : decode cX12_carry 28 = .ok (.invokevirtual 242, 3) := by decide +kernel
theorem dX12_carry_31 : decode cX12_carry 31 = .ok (.ifCond .ne 16, 3) := by decide +kernel
theorem dX12_carry_34 : decode cX12_carry 34 = .ok (.aload_n 0, 1) := by decide +kernel
theorem dX12_carry_35 : decode cX12_carry 35 = .ok (.aload_n 0, 1) := by decide +kernel
theorem dX12_carry_36 : decode cX12_carry 36 = .ok (.iload_n 1, 1) := by decide +kernel
theorem dX12_carry_37 : decode cX12_carry 37 = .ok (.invokevirtual 333, 3) := by decide +kernel
theorem dX12_carry_40 : decode cX12_carry 40 = .ok (.iconst 2, 1) := by decide +kernel
theorem dX12_carry_41 : decode cX12_carry 41 = .ok (.invokevirtual 242, 3) := by decide +kernel
theorem dX12_carry_44 : decode cX12_carry 44 = .ok (.ifCond .eq 5, 3) := by decide +kernel
theorem dX12_carry_47 : decode cX12_carry 47 = .ok (.iconst 0, 1) := by decide +kernel
theorem dX12_carry_48 : decode cX12_carry 48 = .ok (.ireturn, 1) := by decide +kernel
theorem dX12_carry_49 : decode cX12_carry 49 = .ok (.aload_n 0, 1) := by decide +kernel
theorem dX12_carry_50 : decode cX12_carry 50 = .ok (.invokevirtual 336, 3) := by decide +kernel
theorem dX12_carry_53 : decode cX12_carry 53 = .ok (.aload_n 0, 1) := by decide +kernel
theorem dX12_carry_54 : decode cX12_carry 54 = .ok (.iload_n 1, 1) := by decide +kernel
theorem dX12_carry_55 : decode cX12_carry 55 = .ok (.iconst 2, 1) := by decide +kernel
theorem dX12_carry_56 : decode cX12_carry 56 = .ok (.invokevirtual 72, 3) := by decide +kernel
theorem dX12_carry_59 : decode cX12_carry 59 = .ok (.istore_n 3, 1) := by decide +kernel
theorem dX12_carry_60 : decode cX12_carry 60 = .ok (.aload_n 0, 1) := by decide +kernel
theorem dX12_carry_61 : decode cX12_carry 61 = .ok (.getfield 13, 3) := by decide +kernel
theorem dX12_carry_64 : decode cX12_carry 64 = .ok (.iload_n 1, 1) := by decide +kernel
theorem dX12_carry_65 : decode cX12_carry 65 = .ok (.iconst 2, 1) := by decide +kernel
theorem dX12_carry_66 : decode cX12_carry 66 = .ok (.invokestatic 69, 3) := by decide +kernel
theorem dX12_carry_69 : decode cX12_carry 69 = .ok (.iload_n 2, 1) := by decide +kernel
theorem dX12_carry_70 : decode cX12_carry 70 = .ok (.iastore, 1) := by decide +kernel
theorem dX12_carry_71 : decode cX12_carry 71 = .ok (.aload_n 0, 1) := by decide +kernel
theorem dX12_carry_72 : decode cX12_carry 72 = .ok (.iload_n 1, 1) := by decide +kernel
theorem dX12_carry_73 : decode cX12_carry 73 = .ok (.iload_n 3, 1) := by decide +kernel
theorem dX12_carry_74 : decode cX12_carry 74 = .ok (.iload_n 2, 1) := by decide +kernel
theorem dX12_carry_75 : decode cX12_carry 75 = .ok (.iconst 0, 1) := by decide +kernel
theorem dX12_carry_76 : decode cX12_carry 76 = .ok (.invokevirtual 339, 3) := by decide +kernel
theorem dX12_carry_79 : decode cX12_carry 79 = .ok (.iload_n 3, 1) := by decide +kernel
theorem dX12_carry_80 : decode cX12_carry 80 = .ok (.ireturn, 1) := by decide +kernel
set_option maxRecDepth 20000 in
theorem ggX12_guests_X12_noHouse : GoodIn wsX12_guests wsX12_noHouse := goodIn_r _ [7, 8, 9, 10, 6, 11, 12, 13, 14, 15, 2, 16, 17, 18, 36, 37, 38, 39, 40, 41, 42, 43, 44, 45, 46, 47, 48, 49, 50, 51, 52, 53, 54, 55] (by decide +kernel) (by decide +kernel)
set_option maxRecDepth 20000 in
theorem gX12_guests_X12_noHouse : GoodIn wsX12_guests (wsV RX12 315 RX12 yX12_noHouse wsX12_noHouse) := goodIn_app (goodIn_of _ (by decide +kernel)) ggX12_guests_X12_noHouse
set_option maxRecDepth 20000 in
theorem ggX12_guests_X12_throwsIf : GoodIn wsX12_guests wsX12_throwsIf := goodIn_r _ [22, 1, 36, 37, 38, 39, 40, 41, 42, 43, 44, 45, 46, 47, 48, 49, 50, 51, 52, 53, 54, 55] (by decide +kernel) (by decide +kernel)
set_option maxRecDepth 20000 in
theorem gX12_guests_X12_throwsIf : GoodIn wsX12_guests (wsV RX12 242 RX12 yX12_throwsIf wsX12_throwsIf) := goodIn_app (goodIn_of _ (by decide +kernel)) ggX12_guests_X12_throwsIf
set_option maxRecDepth 20000 in
theorem ggX12_guests_X12_in : GoodIn wsX12_guests wsX12_in := goodIn_r _ [18] (by decide +kernel) (by decide +kernel)
set_option maxRecDepth 20000 in
theorem gX12_guests_X12_in : GoodIn wsX12_guests (va_wsS RX12 75 yX12_in wsX12_in) := goodIn_app (goodIn_of _ (by decide +kernel)) ggX12_guests_X12_in
set_option maxRecDepth 20000 in
theorem ggX12_guests_X12_remembers : GoodIn wsX12_guests wsX12_remembers := goodIn_r _ [26, 27, 28, 2, 36, 37, 38, 39, 40, 41, 42, 43, 44, 45, 46, 47, 48, 49, 50, 51, 52, 53, 54, 55] (by decide +kernel) (by decide +kernel)
set_option maxRecDepth 20000 in
theorem gX12_guests_X12_remembers : GoodIn wsX12_guests (wsV RX12 336 RX12 yX12_remembers wsX12_remembers) := goodIn_app (goodIn_of _ (by decide +kernel)) ggX12_guests_X12_remembers
set_option maxRecDepth 20000 in
theorem ggX12_guests_X12_of : GoodIn wsX12_guests wsX12_of := goodIn_r _ [32, 2, 33, 34, 6, 35, 36, 37, 38, 39, 40, 41, 42, 43, 44, 45, 46, 47, 48, 49, 50, 51, 52, 53, 54, 55] (by decide +kernel) (by decide +kernel)
set_option maxRecDepth 20000 in
theorem gX12_guests_X12_of : GoodIn wsX12_guests (wsV RX12 255 RX12 yX12_of wsX12_of) := goodIn_app (goodIn_of _ (by decide +kernel)) ggX12_guests_X12_of
set_option maxRecDepth 20000 in
theorem ggX12_guests_X12_houseAt : GoodIn wsX12_guests wsX12_houseAt := goodIn_r _ [35] (by decide +kernel) (by decide +kernel)
set_option maxRecDepth 20000 in
theorem gX12_guests_X12_houseAt : GoodIn wsX12_guests (va_wsS RX12 66 yX12_houseAt wsX12_houseAt) := goodIn_app (goodIn_of _ (by decide +kernel)) ggX12_guests_X12_houseAt
theorem dX12_guests_0 : decode cX12_guests 0 = .ok (.aload_n 0, 1) := by decide +kernel
theorem dX12_guests_1 : decode cX12_guests 1 = .ok (.iconst 0, 1) := by decide +kernel
theorem dX12_guests_2 : decode cX12_guests 2 = .ok (.putfield 3, 3) := by decide +kernel
theorem dX12_guests_5 : decode cX12_guests 5 = .ok (.aload_n 0, 1) := by decide +kernel
theorem dX12_guests_6 : decode cX12_guests 6 = .ok (.aload_n 0, 1) := by decide +kernel
theorem dX12_guests_7 : decode cX12_guests 7 = .ok (.iload_n 1, 1) := by decide +kernel
theorem dX12_guests_8 : decode cX12_guests 8 = .ok (.invokevirtual 315, 3) := by decide +kernel
theorem dX12_guests_11 : decode cX12_guests 11 = .ok (.iconst 1, 1) := by decide +kernel
theorem dX12_guests_12 : decode cX12_guests 12 = .ok (.invokevirtual 242, 3) := by decide +kernel
theorem dX12_guests_15 : decode cX12_guests 15 = .ok (.ifCond .ne 26, 3) := by decide +kernel
theorem dX12_guests_18 : decode cX12_guests 18 = .ok (.aload_n 0, 1) := by decide +kernel
theorem dX12_guests_19 : decode cX12_guests 19 = .ok (.iload_n 2, 1) := by decide +kernel
theorem dX12_guests_20 : decode cX12_guests 20 = .ok (.iconst 0, 1) := by decide +kernel
theorem dX12_guests_21 : decode cX12_guests 21 = .ok (.bipush 9, 2) := by decide +kernel
theorem dX12_guests_23 : decode cX12_guests 23 = .ok (.invokestatic 75, 3) := by decide +kernel
theorem dX12_guests_26 : decode cX12_guests 26 = .ok (.ifCond .ne 7, 3) := by decide +kernel
theorem dX12_guests_29 : decode cX12_guests 29 = .ok (.iconst 1, 1) := by decide +kernel
theorem dX12_guests_30 : decode cX12_guests 30 = .ok (.goto 4, 3) := by decide +kernel
theorem dX12_guests_33 : decode cX12_guests 33 = .ok (.iconst 0, 1) := by decide +kernel
theorem dX12_guests_34 : decode cX12_guests 34 = .ok (.iconst 2, 1) := by decide +kernel
theorem dX12_guests_35 : decode cX12_guests 35 = .ok (.invokevirtual 242, 3) := by decide +kernel
theorem dX12_guests_38 : decode cX12_guests 38 = .ok (.ifCond .eq 5, 3) := by decide +kernel
theorem dX12_guests_41 : decode cX12_guests 41 = .ok (.iconst 0, 1) := by decide +kernel
theorem dX12_guests_42 : decode cX12_guests 42 = .ok (.ireturn, 1) := by decide +kernel
theorem dX12_guests_43 : decode cX12_guests 43 = .ok (.aload_n 0, 1) := by decide +kernel
theorem dX12_guests_44 : decode cX12_guests 44 = .ok (.invokevirtual 336, 3) := by decide +kernel
theorem dX12_guests_47 : decode cX12_guests 47 = .ok (.aload_n 0, 1) := by decide +kernel
theorem dX12_guests_48 : decode cX12_guests 48 = .ok (.iload_n 1, 1) := by decide +kernel
theorem dX12_guests_49 : decode cX12_guests 49 = .ok (.iconst 1, 1) := by decide +kernel
theorem dX12_guests_50 : decode cX12_guests 50 = .ok (.invokevirtual 255, 3) := by decide +kernel
theorem dX12_guests_53 : decode cX12_guests 53 = .ok (.istore_n 3, 1) := by decide +kernel
theorem dX12_guests_54 : decode cX12_guests 54 = .ok (.aload_n 0, 1) := by decide +kernel
theorem dX12_guests_55 : decode cX12_guests 55 = .ok (.getfield 13, 3) := by decide +kernel
theorem dX12_guests_58 : decode cX12_guests 58 = .ok (.iload_n 1, 1) := by decide +kernel
theorem dX12_guests_59 : decode cX12_guests 59 = .ok (.iconst 1, 1) := by decide +kernel
theorem dX12_guests_60 : decode cX12_guests 60 = .ok (.invokestatic 66, 3) := by decide +kernel
theorem dX12_guests_63 : decode cX12_guests 63 = .ok (.iload_n 2, 1) := by decide +kernel
theorem dX12_guests_64 : decode cX12_guests 64 = .ok (.iastore, 1) := by decide +kernel
theorem dX12_guests_65 : decode cX12_guests 65 = .ok (.iload_n 3, 1) := by decide +kernel
theorem dX12_guests_66 : decode cX12_guests 66 = .ok (.ireturn, 1) := by decide +kernel
set_option maxRecDepth 20000 in
theorem ggX12_prop_X12_noPlank : GoodIn wsX12_prop wsX12_noPlank := goodIn_r _ [7, 8, 9, 10, 6, 11, 2, 12, 13, 14, 36, 37, 38, 39, 40, 41, 42, 43, 44, 45, 46, 47, 48, 49, 50, 51, 52, 53, 54, 55] (by decide +kernel) (by decide +kernel)
set_option maxRecDepth 20000 in
theorem gX12_prop_X12_noPlank : GoodIn wsX12_prop (wsV RX12 309 RX12 yX12_noPlank wsX12_noPlank) := goodIn_app (goodIn_of _ (by decide +kernel)) ggX12_prop_X12_noPlank
set_option maxRecDepth 20000 in
theorem ggX12_prop_X12_throwsIf : GoodIn wsX12_prop wsX12_throwsIf := goodIn_r _ [18, 1, 36, 37, 38, 39, 40, 41, 42, 43, 44, 45, 46, 47, 48, 49, 50, 51, 52, 53, 54, 55] (by decide +kernel) (by decide +kernel)
set_option maxRecDepth 20000 in
theorem gX12_prop_X12_throwsIf : GoodIn wsX12_prop (wsV RX12 242 RX12 yX12_throwsIf wsX12_throwsIf) := goodIn_app (goodIn_of _ (by decide +kernel)) ggX12_prop_X12_throwsIf
set_option maxRecDepth 20000 in
theorem ggX12_prop_X12_remembers : GoodIn wsX12_prop wsX12_remembers := goodIn_r _ [22, 23, 24, 2, 36, 37, 38, 39, 40, 41, 42, 43, 44, 45, 46, 47, 48, 49, 50, 51, 52, 53, 54, 55] (by decide +kernel) (by decide +kernel)
set_option maxRecDepth 20000 in
theorem gX12_prop_X12_remembers : GoodIn wsX12_prop (wsV RX12 336 RX12 yX12_remembers wsX12_remembers) := goodIn_app (goodIn_of _ (by decide +kernel)) ggX12_prop_X12_remembers
set_option maxRecDepth 20000 in
theorem ggX12_prop_X12_isPropped : GoodIn wsX12_prop wsX12_isPropped := goodIn_r _ [28, 29, 30, 31, 6, 32, 2, 33, 34, 35, 36, 37, 38, 39, 40, 41, 42, 43, 44, 45, 46, 47, 48, 49, 50, 51, 52, 53, 54, 55] (by decide +kernel) (by decide +kernel)
set_option maxRecDepth 20000 in
theorem gX12_prop_X12_isPropped : GoodIn wsX12_prop (wsV RX12 266 RX12 yX12_isPropped wsX12_isPropped) := goodIn_app (goodIn_of _ (by decide +kernel)) ggX12_prop_X12_isPropped
set_option maxRecDepth 20000 in
theorem ggX12_prop_X12_plankAt : GoodIn wsX12_prop wsX12_plankAt := goodIn_r _ [35] (by decide +kernel) (by decide +kernel)
set_option maxRecDepth 20000 in
theorem gX12_prop_X12_plankAt : GoodIn wsX12_prop (va_wsS RX12 59 yX12_plankAt wsX12_plankAt) := goodIn_app (goodIn_of _ (by decide +kernel)) ggX12_prop_X12_plankAt
theorem dX12_prop_0 : decode cX12_prop 0 = .ok (.aload_n 0, 1) := by decide +kernel
theorem dX12_prop_1 : decode cX12_prop 1 = .ok (.iconst 0, 1) := by decide +kernel
theorem dX12_prop_2 : decode cX12_prop 2 = .ok (.putfield 3, 3) := by decide +kernel
theorem dX12_prop_5 : decode cX12_prop 5 = .ok (.aload_n 0, 1) := by decide +kernel
theorem dX12_prop_6 : decode cX12_prop 6 = .ok (.aload_n 0, 1) := by decide +kernel
theorem dX12_prop_7 : decode cX12_prop 7 = .ok (.iload_n 1, 1) := by decide +kernel
theorem dX12_prop_8 : decode cX12_prop 8 = .ok (.invokevirtual 309, 3) := by decide +kernel
theorem dX12_prop_11 : decode cX12_prop 11 = .ok (.iconst 1, 1) := by decide +kernel
theorem dX12_prop_12 : decode cX12_prop 12 = .ok (.invokevirtual 242, 3) := by decide +kernel
theorem dX12_prop_15 : decode cX12_prop 15 = .ok (.ifCond .eq 5, 3) := by decide +kernel
theorem dX12_prop_18 : decode cX12_prop 18 = .ok (.iconst 0, 1) := by decide +kernel
theorem dX12_prop_19 : decode cX12_prop 19 = .ok (.ireturn, 1) := by decide +kernel
theorem dX12_prop_20 : decode cX12_prop 20 = .ok (.aload_n 0, 1) := by decide +kernel
theorem dX12_prop_21 : decode cX12_prop 21 = .ok (.invokevirtual 336, 3) := by decide +kernel
theorem dX12_prop_24 : decode cX12_prop 24 = .ok (.aload_n 0, 1) := by decide +kernel
theorem dX12_prop_25 : decode cX12_prop 25 = .ok (.iload_n 1, 1) := by decide +kernel
theorem dX12_prop_26 : decode cX12_prop 26 = .ok (.invokevirtual 266, 3) := by decide +kernel
theorem dX12_prop_29 : decode cX12_prop 29 = .ok (.istore_n 3, 1) := by decide +kernel
theorem dX12_prop_30 : decode cX12_prop 30 = .ok (.aload_n 0, 1) := by decide +kernel
theorem dX12_prop_31 : decode cX12_prop 31 = .ok (.getfield 13, 3) := by decide +kernel
theorem dX12_prop_34 : decode cX12_prop 34 = .ok (.iload_n 1, 1) := by decide +kernel
theorem dX12_prop_35 : decode cX12_prop 35 = .ok (.iconst 2, 1) := by decide +kernel
theorem dX12_prop_36 : decode cX12_prop 36 = .ok (.invokestatic 59, 3) := by decide +kernel
theorem dX12_prop_39 : decode cX12_prop 39 = .ok (.iload_n 2, 1) := by decide +kernel
theorem dX12_prop_40 : decode cX12_prop 40 = .ok (.ifCond .eq 7, 3) := by decide +kernel
theorem dX12_prop_43 : decode cX12_prop 43 = .ok (.iconst 1, 1) := by decide +kernel
theorem dX12_prop_44 : decode cX12_prop 44 = .ok (.goto 4, 3) := by decide +kernel
theorem dX12_prop_47 : decode cX12_prop 47 = .ok (.iconst 0, 1) := by decide +kernel
theorem dX12_prop_48 : decode cX12_prop 48 = .ok (.iastore, 1) := by decide +kernel
theorem dX12_prop_49 : decode cX12_prop 49 = .ok (.iload_n 3, 1) := by decide +kernel
theorem dX12_prop_50 : decode cX12_prop 50 = .ok (.iload_n 2, 1) := by decide +kernel
theorem dX12_prop_51 : decode cX12_prop 51 = .ok (.if_icmp .eq 7, 3) := by decide +kernel
theorem dX12_prop_54 : decode cX12_prop 54 = .ok (.iconst 1, 1) := by decide +kernel
theorem dX12_prop_55 : decode cX12_prop 55 = .ok (.goto 4, 3) := by decide +kernel
theorem dX12_prop_58 : decode cX12_prop 58 = .ok (.iconst 0, 1) := by decide +kernel
theorem dX12_prop_59 : decode cX12_prop 59 = .ok (.ireturn, 1) := by decide +kernel
set_option maxRecDepth 20000 in
theorem ggX12_mend_X12_noPlank : GoodIn wsX12_mend wsX12_noPlank := goodIn_r _ [7, 8, 9, 10, 6, 11, 2, 12, 13, 14, 36, 37, 38, 39, 40, 41, 42, 43, 44, 45, 46, 47, 48, 49, 50, 51, 52, 53, 54, 55] (by decide +kernel) (by decide +kernel)
set_option maxRecDepth 20000 in
theorem gX12_mend_X12_noPlank : GoodIn wsX12_mend (wsV RX12 309 RX12 yX12_noPlank wsX12_noPlank) := goodIn_app (goodIn_of _ (by decide +kernel)) ggX12_mend_X12_noPlank
set_option maxRecDepth 20000 in
theorem ggX12_mend_X12_throwsIf : GoodIn wsX12_mend wsX12_throwsIf := goodIn_r _ [18, 1, 36, 37, 38, 39, 40, 41, 42, 43, 44, 45, 46, 47, 48, 49, 50, 51, 52, 53, 54, 55] (by decide +kernel) (by decide +kernel)
set_option maxRecDepth 20000 in
theorem gX12_mend_X12_throwsIf : GoodIn wsX12_mend (wsV RX12 242 RX12 yX12_throwsIf wsX12_throwsIf) := goodIn_app (goodIn_of _ (by decide +kernel)) ggX12_mend_X12_throwsIf
set_option maxRecDepth 20000 in
theorem ggX12_mend_X12_isBroken : GoodIn wsX12_mend wsX12_isBroken := goodIn_r _ [22, 23, 24, 25, 6, 26, 2, 27, 28, 29, 36, 37, 38, 39, 40, 41, 42, 43, 44, 45, 46, 47, 48, 49, 50, 51, 52, 53, 54, 55] (by decide +kernel) (by decide +kernel)
set_option maxRecDepth 20000 in
theorem gX12_mend_X12_isBroken : GoodIn wsX12_mend (wsV RX12 278 RX12 yX12_isBroken wsX12_isBroken) := goodIn_app (goodIn_of _ (by decide +kernel)) ggX12_mend_X12_isBroken
set_option maxRecDepth 20000 in
theorem ggX12_mend_X12_remembers : GoodIn wsX12_mend wsX12_remembers := goodIn_r _ [33, 34, 35, 2, 36, 37, 38, 39, 40, 41, 42, 43, 44, 45, 46, 47, 48, 49, 50, 51, 52, 53, 54, 55] (by decide +kernel) (by decide +kernel)
set_option maxRecDepth 20000 in
theorem gX12_mend_X12_remembers : GoodIn wsX12_mend (wsV RX12 336 RX12 yX12_remembers wsX12_remembers) := goodIn_app (goodIn_of _ (by decide +kernel)) ggX12_mend_X12_remembers
set_option maxRecDepth 20000 in
theorem ggX12_mend_X12_ofPlank : GoodIn wsX12_mend wsX12_ofPlank := goodIn_r _ [26, 2, 27, 28, 6, 29, 36, 37, 38, 39, 40, 41, 42, 43, 44, 45, 46, 47, 48, 49, 50, 51, 52, 53, 54, 55] (by decide +kernel) (by decide +kernel)
set_option maxRecDepth 20000 in
theorem gX12_mend_X12_ofPlank : GoodIn wsX12_mend (wsV RX12 63 RX12 yX12_ofPlank wsX12_ofPlank) := goodIn_app (goodIn_of _ (by decide +kernel)) ggX12_mend_X12_ofPlank
set_option maxRecDepth 20000 in
theorem ggX12_mend_X12_plankAt : GoodIn wsX12_mend wsX12_plankAt := goodIn_r _ [29] (by decide +kernel) (by decide +kernel)
set_option maxRecDepth 20000 in
theorem gX12_mend_X12_plankAt : GoodIn wsX12_mend (va_wsS RX12 59 yX12_plankAt wsX12_plankAt) := goodIn_app (goodIn_of _ (by decide +kernel)) ggX12_mend_X12_plankAt
theorem dX12_mend_0 : decode cX12_mend 0 = .ok (.aload_n 0, 1) := by decide +kernel
theorem dX12_mend_1 : decode cX12_mend 1 = .ok (.iconst 0, 1) := by decide +kernel
theorem dX12_mend_2 : decode cX12_mend 2 = .ok (.putfield 3, 3) := by decide +kernel
theorem dX12_mend_5 : decode cX12_mend 5 = .ok (.aload_n 0, 1) := by decide +kernel
theorem dX12_mend_6 : decode cX12_mend 6 = .ok (.aload_n 0, 1) := by decide +kernel
theorem dX12_mend_7 : decode cX12_mend 7 = .ok (.iload_n 1, 1) := by decide +kernel
theorem dX12_mend_8 : decode cX12_mend 8 = .ok (.invokevirtual 309, 3) := by decide +kernel
theorem dX12_mend_11 : decode cX12_mend 11 = .ok (.iconst 1, 1) := by decide +kernel
theorem dX12_mend_12 : decode cX12_mend 12 = .ok (.invokevirtual 242, 3) := by decide +kernel
theorem dX12_mend_15 : decode cX12_mend 15 = .ok (.ifCond .ne 24, 3) := by decide +kernel
theorem dX12_mend_18 : decode cX12_mend 18 = .ok (.aload_n 0, 1) := by decide +kernel
theorem dX12_mend_19 : decode cX12_mend 19 = .ok (.aload_n 0, 1) := by decide +kernel
theorem dX12_mend_20 : decode cX12_mend 20 = .ok (.iload_n 1, 1) := by decide +kernel
theorem dX12_mend_21 : decode cX12_mend 21 = .ok (.invokevirtual 278, 3) := by decide +kernel
theorem dX12_mend_24 : decode cX12_mend 24 = .ok (.ifCond .ne 7, 3) := by decide +kernel
theorem dX12_mend_27 : decode cX12_mend 27 = .ok (.iconst 1, 1) := by decide +kernel
theorem dX12_mend_28 : decode cX12_mend 28 = .ok (.goto 4, 3) := by decide +kernel
theorem dX12_mend_31 : decode cX12_mend 31 = .ok (.iconst 0, 1) := by decide +kernel
theorem dX12_mend_32 : decode cX12_mend 32 = .ok (.iconst 2, 1) := by decide +kernel
theorem dX12_mend_33 : decode cX12_mend 33 = .ok (.invokevirtual 242, 3) := by decide +kernel
theorem dX12_mend_36 : decode cX12_mend 36 = .ok (.ifCond .eq 5, 3) := by decide +kernel
theorem dX12_mend_39 : decode cX12_mend 39 = .ok (.iconst 0, 1) := by decide +kernel
theorem dX12_mend_40 : decode cX12_mend 40 = .ok (.ireturn, 1) := by decide +kernel
theorem dX12_mend_41 : decode cX12_mend 41 = .ok (.aload_n 0, 1) := by decide +kernel
theorem dX12_mend_42 : decode cX12_mend 42 = .ok (.invokevirtual 336, 3) := by decide +kernel
theorem dX12_mend_45 : decode cX12_mend 45 = .ok (.aload_n 0, 1) := by decide +kernel
theorem dX12_mend_46 : decode cX12_mend 46 = .ok (.iload_n 1, 1) := by decide +kernel
theorem dX12_mend_47 : decode cX12_mend 47 = .ok (.iconst 1, 1) := by decide +kernel
theorem dX12_mend_48 : decode cX12_mend 48 = .ok (.invokevirtual 63, 3) := by decide +kernel
theorem dX12_mend_51 : decode cX12_mend 51 = .ok (.istore_n 2, 1) := by decide +kernel
theorem dX12_mend_52 : decode cX12_mend 52 = .ok (.aload_n 0, 1) := by decide +kernel
theorem dX12_mend_53 : decode cX12_mend 53 = .ok (.getfield 13, 3) := by decide +kernel
theorem dX12_mend_56 : decode cX12_mend 56 = .ok (.iload_n 1, 1) := by decide +kernel
theorem dX12_mend_57 : decode cX12_mend 57 = .ok (.iconst 1, 1) := by decide +kernel
theorem dX12_mend_58 : decode cX12_mend 58 = .ok (.invokestatic 59, 3) := by decide +kernel
theorem dX12_mend_61 : decode cX12_mend 61 = .ok (.iconst 0, 1) := by decide +kernel
theorem dX12_mend_62 : decode cX12_mend 62 = .ok (.iastore, 1) := by decide +kernel
theorem dX12_mend_63 : decode cX12_mend 63 = .ok (.aload_n 0, 1) := by decide +kernel
theorem dX12_mend_64 : decode cX12_mend 64 = .ok (.getfield 13, 3) := by decide +kernel
theorem dX12_mend_67 : decode cX12_mend 67 = .ok (.iload_n 1, 1) := by decide +kernel
theorem dX12_mend_68 : decode cX12_mend 68 = .ok (.iconst 3, 1) := by decide +kernel
theorem dX12_mend_69 : decode cX12_mend 69 = .ok (.invokestatic 59, 3) := by decide +kernel
theorem dX12_mend_72 : decode cX12_mend 72 = .ok (.iconst 0, 1) := by decide +kernel
theorem dX12_mend_73 : decode cX12_mend 73 = .ok (.iastore, 1) := by decide +kernel
theorem dX12_mend_74 : decode cX12_mend 74 = .ok (.iload_n 2, 1) := by decide +kernel
theorem dX12_mend_75 : decode cX12_mend 75 = .ok (.ireturn, 1) := by decide +kernel
set_option maxRecDepth 20000 in
theorem ggX12_give_X12_noHouse : GoodIn wsX12_give wsX12_noHouse := goodIn_r _ [11, 12, 13, 14, 10, 15, 16, 17, 18, 19, 2, 20, 21, 22, 40, 41, 42, 43, 44, 45, 46, 47, 48, 49, 50, 51, 52, 53, 54, 55, 56, 57, 58, 59] (by decide +kernel) (by decide +kernel)
set_option maxRecDepth 20000 in
theorem gX12_give_X12_noHouse : GoodIn wsX12_give (wsV RX12 315 RX12 yX12_noHouse wsX12_noHouse) := goodIn_app (goodIn_of _ (by decide +kernel)) ggX12_give_X12_noHouse
set_option maxRecDepth 20000 in
theorem ggX12_give_X12_throwsIf : GoodIn wsX12_give wsX12_throwsIf := goodIn_r _ [26, 1, 40, 41, 42, 43, 44, 45, 46, 47, 48, 49, 50, 51, 52, 53, 54, 55, 56, 57, 58, 59] (by decide +kernel) (by decide +kernel)
set_option maxRecDepth 20000 in
theorem gX12_give_X12_throwsIf : GoodIn wsX12_give (wsV RX12 242 RX12 yX12_throwsIf wsX12_throwsIf) := goodIn_app (goodIn_of _ (by decide +kernel)) ggX12_give_X12_throwsIf
set_option maxRecDepth 20000 in
theorem ggX12_give_X12_of : GoodIn wsX12_give wsX12_of := goodIn_r _ [30, 2, 31, 32, 10, 33, 40, 41, 42, 43, 44, 45, 46, 47, 48, 49, 50, 51, 52, 53, 54, 55, 56, 57, 58, 59] (by decide +kernel) (by decide +kernel)
set_option maxRecDepth 20000 in
theorem gX12_give_X12_of : GoodIn wsX12_give (wsV RX12 255 RX12 yX12_of wsX12_of) := goodIn_app (goodIn_of _ (by decide +kernel)) ggX12_give_X12_of
set_option maxRecDepth 20000 in
theorem ggX12_give_X12_in : GoodIn wsX12_give wsX12_in := goodIn_r _ [22] (by decide +kernel) (by decide +kernel)
set_option maxRecDepth 20000 in
theorem gX12_give_X12_in : GoodIn wsX12_give (va_wsS RX12 75 yX12_in wsX12_in) := goodIn_app (goodIn_of _ (by decide +kernel)) ggX12_give_X12_in
set_option maxRecDepth 20000 in
theorem ggX12_give_X12_remembers : GoodIn wsX12_give wsX12_remembers := goodIn_r _ [37, 38, 39, 2, 40, 41, 42, 43, 44, 45, 46, 47, 48, 49, 50, 51, 52, 53, 54, 55, 56, 57, 58, 59] (by decide +kernel) (by decide +kernel)
set_option maxRecDepth 20000 in
theorem gX12_give_X12_remembers : GoodIn wsX12_give (wsV RX12 336 RX12 yX12_remembers wsX12_remembers) := goodIn_app (goodIn_of _ (by decide +kernel)) ggX12_give_X12_remembers
set_option maxRecDepth 20000 in
theorem ggX12_give_X12_houseAt : GoodIn wsX12_give wsX12_houseAt := goodIn_r _ [33] (by decide +kernel) (by decide +kernel)
set_option maxRecDepth 20000 in
theorem gX12_give_X12_houseAt : GoodIn wsX12_give (va_wsS RX12 66 yX12_houseAt wsX12_houseAt) := goodIn_app (goodIn_of _ (by decide +kernel)) ggX12_give_X12_houseAt
theorem dX12_give_0 : decode cX12_give 0 = .ok (.aload_n 0, 1) := by decide +kernel
theorem dX12_give_1 : decode cX12_give 1 = .ok (.iconst 0, 1) := by decide +kernel
theorem dX12_give_2 : decode cX12_give 2 = .ok (.putfield 3, 3) := by decide +kernel
theorem dX12_give_5 : decode cX12_give 5 = .ok (.aload_n 0, 1) := by decide +kernel
theorem dX12_give_6 : decode cX12_give 6 = .ok (.aload_n 0, 1) := by decide +kernel
theorem dX12_give_7 : decode cX12_give 7 = .ok (.iload_n 1, 1) := by decide +kernel
theorem dX12_give_8 : decode cX12_give 8 = .ok (.invokevirtual 315, 3) := by decide +kernel
theorem dX12_give_11 : decode cX12_give 11 = .ok (.ifCond .ne 11, 3) := by decide +kernel
theorem dX12_give_14 : decode cX12_give 14 = .ok (.aload_n 0, 1) := by decide +kernel
theorem dX12_give_15 : decode cX12_give 15 = .ok (.iload_n 2, 1) := by decide +kernel
theorem dX12_give_16 : decode cX12_give 16 = .ok (.invokevirtual 315, 3) := by decide +kernel
theorem dX12_give_19 : decode cX12_give 19 = .ok (.ifCond .eq 7, 3) := by decide +kernel
theorem dX12_give_22 : decode cX12_give 22 = .ok (.iconst 1, 1) := by decide +kernel
theorem dX12_give_23 : decode cX12_give 23 = .ok (.goto 4, 3) := by decide +kernel
theorem dX12_give_26 : decode cX12_give 26 = .ok (.iconst 0, 1) := by decide +kernel
theorem dX12_give_27 : decode cX12_give 27 = .ok (.iconst 1, 1) := by decide +kernel
theorem dX12_give_28 : decode cX12_give 28 = .ok (.invokevirtual 242, 3) := by decide +kernel
theorem dX12_give_31 : decode cX12_give 31 = .ok (.ifCond .ne 35, 3) := by decide +kernel
theorem dX12_give_34 : decode cX12_give 34 = .ok (.aload_n 0, 1) := by decide +kernel
theorem dX12_give_35 : decode cX12_give 35 = .ok (.iload_n 1, 1) := by decide +kernel
theorem dX12_give_36 : decode cX12_give 36 = .ok (.iload_n 2, 1) := by decide +kernel
theorem dX12_give_37 : decode cX12_give 37 = .ok (.if_icmp .eq 17, 3) := by decide +kernel
theorem dX12_give_40 : decode cX12_give 40 = .ok (.iload_n 3, 1) := by decide +kernel
theorem dX12_give_41 : decode cX12_give 41 = .ok (.iconst 1, 1) := by decide +kernel
theorem dX12_give_42 : decode cX12_give 42 = .ok (.aload_n 0, 1) := by decide +kernel
theorem dX12_give_43 : decode cX12_give 43 = .ok (.iload_n 1, 1) := by decide +kernel
theorem dX12_give_44 : decode cX12_give 44 = .ok (.iconst 0, 1) := by decide +kernel
theorem dX12_give_45 : decode cX12_give 45 = .ok (.invokevirtual 255, 3) := by decide +kernel
theorem dX12_give_48 : decode cX12_give 48 = .ok (.invokestatic 75, 3) := by decide +kernel
theorem dX12_give_51 : decode cX12_give 51 = .ok (.ifCond .ne 7, 3) := by decide +kernel
theorem dX12_give_54 : decode cX12_give 54 = .ok (.iconst 1, 1) := by decide +kernel
theorem dX12_give_55 : decode cX12_give 55 = .ok (.goto 4, 3) := by decide +kernel
theorem dX12_give_58 : decode cX12_give 58 = .ok (.iconst 0, 1) := by decide +kernel
theorem dX12_give_59 : decode cX12_give 59 = .ok (.iconst 2, 1) := by decide +kernel
theorem dX12_give_60 : decode cX12_give 60 = .ok (.invokevirtual 242, 3) := by decide +kernel
theorem dX12_give_63 : decode cX12_give 63 = .ok (.ifCond .eq 5, 3) := by decide +kernel
theorem dX12_give_66 : decode cX12_give 66 = .ok (.iconst 0, 1) := by decide +kernel
theorem dX12_give_67 : decode cX12_give 67 = .ok (.ireturn, 1) := by decide +kernel
theorem dX12_give_68 : decode cX12_give 68 = .ok (.aload_n 0, 1) := by decide +kernel
theorem dX12_give_69 : decode cX12_give 69 = .ok (.invokevirtual 336, 3) := by decide +kernel
theorem dX12_give_72 : decode cX12_give 72 = .ok (.aload_n 0, 1) := by decide +kernel
theorem dX12_give_73 : decode cX12_give 73 = .ok (.getfield 13, 3) := by decide +kernel
theorem dX12_give_76 : decode cX12_give 76 = .ok (.iload_n 1, 1) := by decide +kernel
theorem dX12_give_77 : decode cX12_give 77 = .ok (.iconst 0, 1) := by decide +kernel
theorem dX12_give_78 : decode cX12_give 78 = .ok (.invokestatic 66, 3) := by decide +kernel
theorem dX12_give_81 : decode cX12_give 81 = .ok (.dup2, 1) := by decide +kernel
theorem dX12_give_82 : decode cX12_give 82 = .ok (.iaload, 1) := by decide +kernel
theorem dX12_give_83 : decode cX12_give 83 = .ok (.iload_n 3, 1) := by decide +kernel
theorem dX12_give_84 : decode cX12_give 84 = .ok (.isub, 1) := by decide +kernel
theorem dX12_give_85 : decode cX12_give 85 = .ok (.iastore, 1) := by decide +kernel
theorem dX12_give_86 : decode cX12_give 86 = .ok (.aload_n 0, 1) := by decide +kernel
theorem dX12_give_87 : decode cX12_give 87 = .ok (.getfield 13, 3) := by decide +kernel
theorem dX12_give_90 : decode cX12_give 90 = .ok (.iload_n 2, 1) := by decide +kernel
theorem dX12_give_91 : decode cX12_give 91 = .ok (.iconst 0, 1) := by decide +kernel
theorem dX12_give_92 : decode cX12_give 92 = .ok (.invokestatic 66, 3) := by decide +kernel
theorem dX12_give_95 : decode cX12_give 95 = .ok (.sipush 9999, 3) := by decide +kernel
theorem dX12_give_98 : decode cX12_give 98 = .ok (.aload_n 0, 1) := by decide +kernel
theorem dX12_give_99 : decode cX12_give 99 = .ok (.iload_n 2, 1) := by decide +kernel
theorem dX12_give_100 : decode cX12_give 100 = .ok (.iconst 0, 1) := by decide +kernel
theorem dX12_give_101 : decode cX12_give 101 = .ok (.invokevirtual 255, 3) := by decide +kernel
theorem dX12_give_104 : decode cX12_give 104 = .ok (.iload_n 3, 1) := by decide +kernel
theorem dX12_give_105 : decode cX12_give 105 = .ok (.iadd, 1) := by decide +kernel
theorem dX12_give_106 : decode cX12_give 106 = .ok (.invokestatic 258, 3) := by decide +kernel
theorem dX12_give_109 : decode cX12_give 109 = .ok (.iastore, 1) := by decide +kernel
theorem dX12_give_110 : decode cX12_give 110 = .ok (.aload_n 0, 1) := by decide +kernel
theorem dX12_give_111 : decode cX12_give 111 = .ok (.iload_n 2, 1) := by decide +kernel
theorem dX12_give_112 : decode cX12_give 112 = .ok (.iconst 0, 1) := by decide +kernel
theorem dX12_give_113 : decode cX12_give 113 = .ok (.invokevirtual 255, 3) := by decide +kernel
theorem dX12_give_116 : decode cX12_give 116 = .ok (.ireturn, 1) := by decide +kernel
set_option maxRecDepth 20000 in
theorem ggX12_sweep_X12_remembers : GoodIn wsX12_sweep wsX12_remembers := goodIn_r _ [7, 8, 9, 2, 10, 11, 12, 13, 14, 15, 16, 17, 18, 19, 20, 21, 22, 23, 24, 25, 26, 27, 28, 29] (by decide +kernel) (by decide +kernel)
set_option maxRecDepth 20000 in
theorem gX12_sweep_X12_remembers : GoodIn wsX12_sweep (wsV RX12 336 RX12 yX12_remembers wsX12_remembers) := goodIn_app (goodIn_of _ (by decide +kernel)) ggX12_sweep_X12_remembers
theorem dX12_sweep_0 : decode cX12_sweep 0 = .ok (.aload_n 0, 1) := by decide +kernel
theorem dX12_sweep_1 : decode cX12_sweep 1 = .ok (.iconst 0, 1) := by decide +kernel
theorem dX12_sweep_2 : decode cX12_sweep 2 = .ok (.putfield 3, 3) := by decide +kernel
theorem dX12_sweep_5 : decode cX12_sweep 5 = .ok (.aload_n 0, 1) := by decide +kernel
theorem dX12_sweep_6 : decode cX12_sweep 6 = .ok (.invokevirtual 336, 3) := by decide +kernel
theorem dX12_sweep_9 : decode cX12_sweep 9 = .ok (.aload_n 0, 1) := by decide +kernel
theorem dX12_sweep_10 : decode cX12_sweep 10 = .ok (.getfield 13, 3) := by decide +kernel
theorem dX12_sweep_13 : decode cX12_sweep 13 = .ok (.iconst 5, 1) := by decide +kernel
theorem dX12_sweep_14 : decode cX12_sweep 14 = .ok (.iaload, 1) := by decide +kernel
theorem dX12_sweep_15 : decode cX12_sweep 15 = .ok (.istore_n 1, 1) := by decide +kernel
theorem dX12_sweep_16 : decode cX12_sweep 16 = .ok (.aload_n 0, 1) := by decide +kernel
theorem dX12_sweep_17 : decode cX12_sweep 17 = .ok (.getfield 13, 3) := by decide +kernel
theorem dX12_sweep_20 : decode cX12_sweep 20 = .ok (.iconst 5, 1) := by decide +kernel
theorem dX12_sweep_21 : decode cX12_sweep 21 = .ok (.iconst 0, 1) := by decide +kernel
theorem dX12_sweep_22 : decode cX12_sweep 22 = .ok (.iastore, 1) := by decide +kernel
theorem dX12_sweep_23 : decode cX12_sweep 23 = .ok (.iload_n 1, 1) := by decide +kernel
theorem dX12_sweep_24 : decode cX12_sweep 24 = .ok (.ireturn, 1) := by decide +kernel
set_option maxRecDepth 20000 in
theorem ggX12_luredTo_X12_houses : GoodIn wsX12_luredTo wsX12_houses := goodIn_r _ [9, 10, 11, 12, 8, 13, 14, 109, 110, 111, 112, 113, 114, 115, 116, 117, 118, 119, 120, 121, 122, 123, 124, 125, 126, 127, 128] (by decide +kernel) (by decide +kernel)
set_option maxRecDepth 20000 in
theorem gX12_luredTo_X12_houses : GoodIn wsX12_luredTo (wsV RX12 79 RX12 yX12_houses wsX12_houses) := goodIn_app (goodIn_of _ (by decide +kernel)) ggX12_luredTo_X12_houses
set_option maxRecDepth 20000 in
theorem ggX12_luredTo_X12_holds : GoodIn wsX12_luredTo wsX12_holds := goodIn_r _ [17] (by decide +kernel) (by decide +kernel)
set_option maxRecDepth 20000 in
theorem gX12_luredTo_X12_holds : GoodIn wsX12_luredTo (va_wsS RX12 245 yX12_holds wsX12_holds) := goodIn_app (goodIn_of _ (by decide +kernel)) ggX12_luredTo_X12_holds
set_option maxRecDepth 20000 in
theorem ggX12_luredTo_X12_luresBy : GoodIn wsX12_luredTo wsX12_luresBy := goodIn_r _ [21, 22, 23, 24, 8, 25, 26, 27, 28, 29, 14, 30, 31, 32, 33, 34, 35, 36, 37, 38, 39, 40, 15, 16, 17, 41, 42, 43, 44, 45, 46, 47, 48, 49, 50, 51, 52, 53, 54, 55, 56, 57, 58, 59, 60, 61, 62, 63, 64, 65, 66, 67, 68, 69, 70, 71, 72, 73, 74, 75, 76, 77, 78, 79, 80, 81, 82, 83, 84, 85, 86, 87, 88, 89, 90, 91, 92, 93, 94, 95, 96, 97, 98, 99, 100, 3, 101, 1, 2, 4, 102, 103, 104, 105, 106, 107, 108, 109, 110, 111, 112, 113, 114, 115, 116, 117, 118, 119, 120, 121, 122, 123, 124, 125, 126, 127, 128] (by decide +kernel) (by decide +kernel)
set_option maxRecDepth 20000 in
theorem gX12_luredTo_X12_luresBy : GoodIn wsX12_luredTo (wsV RX12 321 RX12 yX12_luresBy wsX12_luresBy) := goodIn_app (goodIn_of _ (by decide +kernel)) ggX12_luredTo_X12_luresBy
theorem dX12_luredTo_0 : decode cX12_luredTo 0 = .ok (.iconst (-1), 1) := by decide +kernel
theorem dX12_luredTo_1 : decode cX12_luredTo 1 = .ok (.istore_n 2, 1) := by decide +kernel
theorem dX12_luredTo_2 : decode cX12_luredTo 2 = .ok (.iconst (-1), 1) := by decide +kernel
theorem dX12_luredTo_3 : decode cX12_luredTo 3 = .ok (.istore_n 3, 1) := by decide +kernel
theorem dX12_luredTo_4 : decode cX12_luredTo 4 = .ok (.iconst 0, 1) := by decide +kernel
theorem dX12_luredTo_5 : decode cX12_luredTo 5 = .ok (.istore 4, 2) := by decide +kernel
theorem dX12_luredTo_7 : decode cX12_luredTo 7 = .ok (.iload 4, 2) := by decide +kernel
theorem dX12_luredTo_9 : decode cX12_luredTo 9 = .ok (.aload_n 0, 1) := by decide +kernel
theorem dX12_luredTo_10 : decode cX12_luredTo 10 = .ok (.invokevirtual 79, 3) := by decide +kernel
theorem dX12_luredTo_13 : decode cX12_luredTo 13 = .ok (.if_icmp .ge 50, 3) := by decide +kernel
theorem dX12_luredTo_16 : decode cX12_luredTo 16 = .ok (.iload_n 1, 1) := by decide +kernel
theorem dX12_luredTo_17 : decode cX12_luredTo 17 = .ok (.iload 4, 2) := by decide +kernel
theorem dX12_luredTo_19 : decode cX12_luredTo 19 = .ok (.invokestatic 245, 3) := by decide +kernel
theorem dX12_luredTo_22 : decode cX12_luredTo 22 = .ok (.ifCond .eq 7, 3) := by decide +kernel
theorem dX12_luredTo_25 : decode cX12_luredTo 25 = .ok (.iconst (-1), 1) := by decide +kernel
theorem dX12_luredTo_26 : decode cX12_luredTo 26 = .ok (.goto 9, 3) := by decide +kernel
theorem dX12_luredTo_29 : decode cX12_luredTo 29 = .ok (.aload_n 0, 1) := by decide +kernel
theorem dX12_luredTo_30 : decode cX12_luredTo 30 = .ok (.iload 4, 2) := by decide +kernel
theorem dX12_luredTo_32 : decode cX12_luredTo 32 = .ok (.invokevirtual 321, 3) := by decide +kernel
theorem dX12_luredTo_35 : decode cX12_luredTo 35 = .ok (.istore 5, 2) := by decide +kernel
theorem dX12_luredTo_37 : decode cX12_luredTo 37 = .ok (.iload 5, 2) := by decide +kernel
theorem dX12_luredTo_39 : decode cX12_luredTo 39 = .ok (.iload_n 3, 1) := by decide +kernel
theorem dX12_luredTo_40 : decode cX12_luredTo 40 = .ok (.if_icmp .le 8, 3) := by decide +kernel
theorem dX12_luredTo_43 : decode cX12_luredTo 43 = .ok (.iload 4, 2) := by decide +kernel
theorem dX12_luredTo_45 : decode cX12_luredTo 45 = .ok (.goto 4, 3) := by decide +kernel
theorem dX12_luredTo_48 : decode cX12_luredTo 48 = .ok (.iload_n 2, 1) := by decide +kernel
theorem dX12_luredTo_49 : decode cX12_luredTo 49 = .ok (.istore_n 2, 1) := by decide +kernel
theorem dX12_luredTo_50 : decode cX12_luredTo 50 = .ok (.iload_n 3, 1) := by decide +kernel
theorem dX12_luredTo_51 : decode cX12_luredTo 51 = .ok (.iload 5, 2) := by decide +kernel
theorem dX12_luredTo_53 : decode cX12_luredTo 53 = .ok (.invokestatic 263, 3) := by decide +kernel
theorem dX12_luredTo_56 : decode cX12_luredTo 56 = .ok (.istore_n 3, 1) := by decide +kernel
theorem dX12_luredTo_57 : decode cX12_luredTo 57 = .ok (.iinc 4 1, 3) := by decide +kernel
theorem dX12_luredTo_60 : decode cX12_luredTo 60 = .ok (.goto (-53), 3) := by decide +kernel
theorem dX12_luredTo_63 : decode cX12_luredTo 63 = .ok (.iload_n 2, 1) := by decide +kernel
theorem dX12_luredTo_64 : decode cX12_luredTo 64 = .ok (.ireturn, 1) := by decide +kernel
set_option maxRecDepth 20000 in
theorem ggX12_dearestIn_X12_things : GoodIn wsX12_dearestIn wsX12_things := goodIn_r _ [5, 6, 14, 15, 16, 17, 18, 19, 20, 21, 22, 23, 24, 25, 26, 27, 28, 29, 30, 31, 32, 33] (by decide +kernel) (by decide +kernel)
set_option maxRecDepth 20000 in
theorem gX12_dearestIn_X12_things : GoodIn wsX12_dearestIn (wsV RX12 82 RX12 yX12_things wsX12_things) := goodIn_app (goodIn_of _ (by decide +kernel)) ggX12_dearestIn_X12_things
set_option maxRecDepth 20000 in
theorem ggX12_dearestIn_X12_ofThing : GoodIn wsX12_dearestIn wsX12_ofThing := goodIn_r _ [10, 6, 11, 12, 4, 13, 14, 15, 16, 17, 18, 19, 20, 21, 22, 23, 24, 25, 26, 27, 28, 29, 30, 31, 32, 33] (by decide +kernel) (by decide +kernel)
set_option maxRecDepth 20000 in
theorem gX12_dearestIn_X12_ofThing : GoodIn wsX12_dearestIn (wsV RX12 72 RX12 yX12_ofThing wsX12_ofThing) := goodIn_app (goodIn_of _ (by decide +kernel)) ggX12_dearestIn_X12_ofThing
theorem dX12_dearestIn_0 : decode cX12_dearestIn 0 = .ok (.iconst (-1), 1) := by decide +kernel
theorem dX12_dearestIn_1 : decode cX12_dearestIn 1 = .ok (.istore_n 2, 1) := by decide +kernel
theorem dX12_dearestIn_2 : decode cX12_dearestIn 2 = .ok (.iconst 0, 1) := by decide +kernel
theorem dX12_dearestIn_3 : decode cX12_dearestIn 3 = .ok (.istore_n 3, 1) := by decide +kernel
theorem dX12_dearestIn_4 : decode cX12_dearestIn 4 = .ok (.iload_n 3, 1) := by decide +kernel
theorem dX12_dearestIn_5 : decode cX12_dearestIn 5 = .ok (.aload_n 0, 1) := by decide +kernel
theorem dX12_dearestIn_6 : decode cX12_dearestIn 6 = .ok (.invokevirtual 82, 3) := by decide +kernel
theorem dX12_dearestIn_9 : decode cX12_dearestIn 9 = .ok (.if_icmp .ge 41, 3) := by decide +kernel
theorem dX12_dearestIn_12 : decode cX12_dearestIn 12 = .ok (.aload_n 0, 1) := by decide +kernel
theorem dX12_dearestIn_13 : decode cX12_dearestIn 13 = .ok (.iload_n 3, 1) := by decide +kernel
theorem dX12_dearestIn_14 : decode cX12_dearestIn 14 = .ok (.iconst 2, 1) := by decide +kernel
theorem dX12_dearestIn_15 : decode cX12_dearestIn 15 = .ok (.invokevirtual 72, 3) := by decide +kernel
theorem dX12_dearestIn_18 : decode cX12_dearestIn 18 = .ok (.iload_n 1, 1) := by decide +kernel
theorem dX12_dearestIn_19 : decode cX12_dearestIn 19 = .ok (.if_icmp .ne 25, 3) := by decide +kernel
theorem dX12_dearestIn_22 : decode cX12_dearestIn 22 = .ok (.iload_n 2, 1) := by decide +kernel
theorem dX12_dearestIn_23 : decode cX12_dearestIn 23 = .ok (.iconst (-1), 1) := by decide +kernel
theorem dX12_dearestIn_24 : decode cX12_dearestIn 24 = .ok (.if_icmp .eq 18, 3) := by decide +kernel
theorem dX12_dearestIn_27 : decode cX12_dearestIn 27 = .ok (.aload_n 0, 1) := by decide +kernel
theorem dX12_dearestIn_28 : decode cX12_dearestIn 28 = .ok (.iload_n 3, 1) := by decide +kernel
theorem dX12_dearestIn_29 : decode cX12_dearestIn 29 = .ok (.iconst 1, 1) := by decide +kernel
theorem dX12_dearestIn_30 : decode cX12_dearestIn 30 = .ok (.invokevirtual 72, 3) := by decide +kernel
theorem dX12_dearestIn_33 : decode cX12_dearestIn 33 = .ok (.aload_n 0, 1) := by decide +kernel
theorem dX12_dearestIn_34 : decode cX12_dearestIn 34 = .ok (.iload_n 2, 1) := by decide +kernel
theorem dX12_dearestIn_35 : decode cX12_dearestIn 35 = .ok (.iconst 1, 1) := by decide +kernel
theorem dX12_dearestIn_36 : decode cX12_dearestIn 36 = .ok (.invokevirtual 72, 3) := by decide +kernel
theorem dX12_dearestIn_39 : decode cX12_dearestIn 39 = .ok (.if_icmp .le 5, 3) := by decide +kernel
theorem dX12_dearestIn_42 : decode cX12_dearestIn 42 = .ok (.iload_n 3, 1) := by decide +kernel
theorem dX12_dearestIn_43 : decode cX12_dearestIn 43 = .ok (.istore_n 2, 1) := by decide +kernel
theorem dX12_dearestIn_44 : decode cX12_dearestIn 44 = .ok (.iinc 3 1, 3) := by decide +kernel
theorem dX12_dearestIn_47 : decode cX12_dearestIn 47 = .ok (.goto (-43), 3) := by decide +kernel
theorem dX12_dearestIn_50 : decode cX12_dearestIn 50 = .ok (.iload_n 2, 1) := by decide +kernel
theorem dX12_dearestIn_51 : decode cX12_dearestIn 51 = .ok (.ireturn, 1) := by decide +kernel
set_option maxRecDepth 20000 in
theorem ggX12_steals_X12_luredTo : GoodIn wsX12_steals wsX12_luredTo := goodIn_r _ [6, 7, 8, 9, 10, 11, 12, 13, 5, 14, 15, 16, 17, 18, 1, 19, 20, 21, 22, 23, 24, 25, 26, 27, 28, 29, 30, 31, 32, 33, 34, 35, 36, 37, 38, 39, 40, 41, 42, 43, 44, 45, 46, 47, 48, 49, 50, 51, 52, 53, 54, 55, 56, 57, 58, 59, 60, 61, 62, 63, 64, 65, 66, 67, 68, 69, 70, 71, 72, 73, 74, 75, 76, 77, 78, 79, 80, 81, 82, 83, 84, 85, 86, 87, 88, 89, 90, 91, 92, 93, 94, 95, 96, 97, 98, 99, 100, 101, 102, 103, 104, 105, 106, 107, 108, 109, 110, 111, 112, 117, 118, 119, 120, 121, 122, 123, 124, 125, 126, 127, 128, 129, 130, 131, 132, 133, 134, 135, 136] (by decide +kernel) (by decide +kernel)
set_option maxRecDepth 20000 in
theorem gX12_steals_X12_luredTo : GoodIn wsX12_steals (wsV RX12 343 RX12 yX12_luredTo wsX12_luredTo) := goodIn_app (goodIn_of _ (by decide +kernel)) ggX12_steals_X12_luredTo
set_option maxRecDepth 20000 in
theorem ggX12_steals_X12_dearestIn : GoodIn wsX12_steals wsX12_dearestIn := goodIn_r _ [116, 30, 31, 32, 5, 33, 1, 34, 35, 36, 37, 38, 39, 40, 117, 118, 119, 120, 121, 122, 123, 124, 125, 126, 127, 128, 129, 130, 131, 132, 133, 134, 135, 136] (by decide +kernel) (by decide +kernel)
set_option maxRecDepth 20000 in
theorem gX12_steals_X12_dearestIn : GoodIn wsX12_steals (wsV RX12 346 RX12 yX12_dearestIn wsX12_dearestIn) := goodIn_app (goodIn_of _ (by decide +kernel)) ggX12_steals_X12_dearestIn
set_option maxRecDepth 20000 in
theorem ggX12_steals_X12_thingAt : GoodIn wsX12_steals wsX12_thingAt := goodIn_r _ [40] (by decide +kernel) (by decide +kernel)
set_option maxRecDepth 20000 in
theorem gX12_steals_X12_thingAt : GoodIn wsX12_steals (va_wsS RX12 69 yX12_thingAt wsX12_thingAt) := goodIn_app (goodIn_of _ (by decide +kernel)) ggX12_steals_X12_thingAt
theorem dX12_steals_0 : decode cX12_steals 0 = .ok (.aload_n 0, 1) := by decide +kernel
theorem dX12_steals_1 : decode cX12_steals 1 = .ok (.iload_n 1, 1) := by decide +kernel
theorem dX12_steals_2 : decode cX12_steals 2 = .ok (.invokevirtual 343, 3) := by decide +kernel
theorem dX12_steals_5 : decode cX12_steals 5 = .ok (.istore_n 2, 1) := by decide +kernel
theorem dX12_steals_6 : decode cX12_steals 6 = .ok (.iload_n 2, 1) := by decide +kernel
theorem dX12_steals_7 : decode cX12_steals 7 = .ok (.iconst (-1), 1) := by decide +kernel
theorem dX12_steals_8 : decode cX12_steals 8 = .ok (.if_icmp .ne 7, 3) := by decide +kernel
theorem dX12_steals_11 : decode cX12_steals 11 = .ok (.iconst (-1), 1) := by decide +kernel
theorem dX12_steals_12 : decode cX12_steals 12 = .ok (.goto 8, 3) := by decide +kernel
theorem dX12_steals_15 : decode cX12_steals 15 = .ok (.aload_n 0, 1) := by decide +kernel
theorem dX12_steals_16 : decode cX12_steals 16 = .ok (.iload_n 2, 1) := by decide +kernel
theorem dX12_steals_17 : decode cX12_steals 17 = .ok (.invokevirtual 346, 3) := by decide +kernel
theorem dX12_steals_20 : decode cX12_steals 20 = .ok (.istore_n 3, 1) := by decide +kernel
theorem dX12_steals_21 : decode cX12_steals 21 = .ok (.iload_n 3, 1) := by decide +kernel
theorem dX12_steals_22 : decode cX12_steals 22 = .ok (.iconst (-1), 1) := by decide +kernel
theorem dX12_steals_23 : decode cX12_steals 23 = .ok (.if_icmp .eq 14, 3) := by decide +kernel
theorem dX12_steals_26 : decode cX12_steals 26 = .ok (.aload_n 0, 1) := by decide +kernel
theorem dX12_steals_27 : decode cX12_steals 27 = .ok (.getfield 13, 3) := by decide +kernel
theorem dX12_steals_30 : decode cX12_steals 30 = .ok (.iload_n 3, 1) := by decide +kernel
theorem dX12_steals_31 : decode cX12_steals 31 = .ok (.iconst 2, 1) := by decide +kernel
theorem dX12_steals_32 : decode cX12_steals 32 = .ok (.invokestatic 69, 3) := by decide +kernel
theorem dX12_steals_35 : decode cX12_steals 35 = .ok (.iconst (-1), 1) := by decide +kernel
theorem dX12_steals_36 : decode cX12_steals 36 = .ok (.iastore, 1) := by decide +kernel
theorem dX12_steals_37 : decode cX12_steals 37 = .ok (.iload_n 3, 1) := by decide +kernel
theorem dX12_steals_38 : decode cX12_steals 38 = .ok (.ireturn, 1) := by decide +kernel
theorem dX12_keepsAll_0 : decode cX12_keepsAll 0 = .ok (.iconst 0, 1) := by decide +kernel
theorem dX12_keepsAll_1 : decode cX12_keepsAll 1 = .ok (.istore_n 1, 1) := by decide +kernel
theorem dX12_keepsAll_2 : decode cX12_keepsAll 2 = .ok (.iload_n 1, 1) := by decide +kernel
theorem dX12_keepsAll_3 : decode cX12_keepsAll 3 = .ok (.sipush 382, 3) := by decide +kernel
theorem dX12_keepsAll_6 : decode cX12_keepsAll 6 = .ok (.if_icmp .ge 21, 3) := by decide +kernel
theorem dX12_keepsAll_9 : decode cX12_keepsAll 9 = .ok (.aload_n 0, 1) := by decide +kernel
theorem dX12_keepsAll_10 : decode cX12_keepsAll 10 = .ok (.getfield 23, 3) := by decide +kernel
theorem dX12_keepsAll_13 : decode cX12_keepsAll 13 = .ok (.iload_n 1, 1) := by decide +kernel
theorem dX12_keepsAll_14 : decode cX12_keepsAll 14 = .ok (.aload_n 0, 1) := by decide +kernel
theorem dX12_keepsAll_15 : decode cX12_keepsAll 15 = .ok (.getfield 13, 3) := by decide +kernel
theorem dX12_keepsAll_18 : decode cX12_keepsAll 18 = .ok (.iload_n 1, 1) := by decide +kernel
theorem dX12_keepsAll_19 : decode cX12_keepsAll 19 = .ok (.iaload, 1) := by decide +kernel
theorem dX12_keepsAll_20 : decode cX12_keepsAll 20 = .ok (.iastore, 1) := by decide +kernel
theorem dX12_keepsAll_21 : decode cX12_keepsAll 21 = .ok (.iinc 1 1, 3) := by decide +kernel
theorem dX12_keepsAll_24 : decode cX12_keepsAll 24 = .ok (.goto (-22), 3) := by decide +kernel
theorem dX12_keepsAll_27 : decode cX12_keepsAll 27 = .ok (.return_, 1) := by decide +kernel
theorem dX12_bringsBack_0 : decode cX12_bringsBack 0 = .ok (.iconst 0, 1) := by decide +kernel
theorem dX12_bringsBack_1 : decode cX12_bringsBack 1 = .ok (.istore_n 1, 1) := by decide +kernel
theorem dX12_bringsBack_2 : decode cX12_bringsBack 2 = .ok (.iload_n 1, 1) := by decide +kernel
theorem dX12_bringsBack_3 : decode cX12_bringsBack 3 = .ok (.sipush 382, 3) := by decide +kernel
theorem dX12_bringsBack_6 : decode cX12_bringsBack 6 = .ok (.if_icmp .ge 21, 3) := by decide +kernel
theorem dX12_bringsBack_9 : decode cX12_bringsBack 9 = .ok (.aload_n 0, 1) := by decide +kernel
theorem dX12_bringsBack_10 : decode cX12_bringsBack 10 = .ok (.getfield 13, 3) := by decide +kernel
theorem dX12_bringsBack_13 : decode cX12_bringsBack 13 = .ok (.iload_n 1, 1) := by decide +kernel
theorem dX12_bringsBack_14 : decode cX12_bringsBack 14 = .ok (.aload_n 0, 1) := by decide +kernel
theorem dX12_bringsBack_15 : decode cX12_bringsBack 15 = .ok (.getfield 23, 3) := by decide +kernel
theorem dX12_bringsBack_18 : decode cX12_bringsBack 18 = .ok (.iload_n 1, 1) := by decide +kernel
theorem dX12_bringsBack_19 : decode cX12_bringsBack 19 = .ok (.iaload, 1) := by decide +kernel
theorem dX12_bringsBack_20 : decode cX12_bringsBack 20 = .ok (.iastore, 1) := by decide +kernel
theorem dX12_bringsBack_21 : decode cX12_bringsBack 21 = .ok (.iinc 1 1, 3) := by decide +kernel
theorem dX12_bringsBack_24 : decode cX12_bringsBack 24 = .ok (.goto (-22), 3) := by decide +kernel
theorem dX12_bringsBack_27 : decode cX12_bringsBack 27 = .ok (.return_, 1) := by decide +kernel
set_option maxRecDepth 20000 in
theorem ggX12_worstOf_X12_keepsAll : GoodIn wsX12_worstOf wsX12_keepsAll := goodIn_r _ [9, 10, 11, 130, 131, 132, 133, 134, 135, 136, 137, 138, 139, 140, 141, 142, 143, 144, 145, 146, 147, 148, 149] (by decide +kernel) (by decide +kernel)
set_option maxRecDepth 20000 in
theorem gX12_worstOf_X12_keepsAll : GoodIn wsX12_worstOf (wsV RX12 349 RX12 yX12_keepsAll wsX12_keepsAll) := goodIn_app (goodIn_of _ (by decide +kernel)) ggX12_worstOf_X12_keepsAll
set_option maxRecDepth 20000 in
theorem ggX12_worstOf_X12_steals : GoodIn wsX12_worstOf wsX12_steals := goodIn_r _ [15, 11, 16, 17, 18, 8, 19, 1, 2, 3, 4, 20, 21, 22, 23, 24, 25, 26, 27, 28, 29, 30, 31, 32, 33, 34, 35, 36, 37, 38, 39, 40, 41, 42, 43, 44, 45, 46, 47, 48, 49, 50, 51, 52, 53, 54, 55, 56, 57, 58, 59, 60, 61, 62, 63, 64, 65, 66, 67, 68, 69, 70, 71, 72, 73, 74, 75, 76, 77, 78, 79, 80, 81, 82, 83, 84, 85, 86, 87, 88, 89, 90, 91, 92, 93, 94, 95, 96, 97, 98, 99, 100, 101, 102, 103, 104, 105, 106, 107, 108, 109, 110, 111, 112, 113, 114, 115, 116, 117, 118, 119, 120, 121, 122, 123, 124, 125, 130, 131, 132, 133, 134, 135, 136, 137, 138, 139, 140, 141, 142, 143, 144, 145, 146, 147, 148, 149] (by decide +kernel) (by decide +kernel)
set_option maxRecDepth 20000 in
theorem gX12_worstOf_X12_steals : GoodIn wsX12_worstOf (wsV RX12 352 RX12 yX12_steals wsX12_steals) := goodIn_app (goodIn_of _ (by decide +kernel)) ggX12_worstOf_X12_steals
set_option maxRecDepth 20000 in
theorem ggX12_worstOf_X12_ofThing : GoodIn wsX12_worstOf wsX12_ofThing := goodIn_r _ [46, 11, 47, 48, 8, 49, 130, 131, 132, 133, 134, 135, 136, 137, 138, 139, 140, 141, 142, 143, 144, 145, 146, 147, 148, 149] (by decide +kernel) (by decide +kernel)
set_option maxRecDepth 20000 in
theorem gX12_worstOf_X12_ofThing : GoodIn wsX12_worstOf (wsV RX12 72 RX12 yX12_ofThing wsX12_ofThing) := goodIn_app (goodIn_of _ (by decide +kernel)) ggX12_worstOf_X12_ofThing
set_option maxRecDepth 20000 in
theorem ggX12_worstOf_X12_bringsBack : GoodIn wsX12_worstOf wsX12_bringsBack := goodIn_r _ [129, 11, 10, 130, 131, 132, 133, 134, 135, 136, 137, 138, 139, 140, 141, 142, 143, 144, 145, 146, 147, 148, 149] (by decide +kernel) (by decide +kernel)
set_option maxRecDepth 20000 in
theorem gX12_worstOf_X12_bringsBack : GoodIn wsX12_worstOf (wsV RX12 355 RX12 yX12_bringsBack wsX12_bringsBack) := goodIn_app (goodIn_of _ (by decide +kernel)) ggX12_worstOf_X12_bringsBack
theorem dX12_worstOf_0 : decode cX12_worstOf 0 = .ok (.iconst (-1), 1) := by decide +kernel
theorem dX12_worstOf_1 : decode cX12_worstOf 1 = .ok (.istore_n 3, 1) := by decide +kernel
theorem dX12_worstOf_2 : decode cX12_worstOf 2 = .ok (.aload_n 0, 1) := by decide +kernel
theorem dX12_worstOf_3 : decode cX12_worstOf 3 = .ok (.invokevirtual 349, 3) := by decide +kernel
theorem dX12_worstOf_6 : decode cX12_worstOf 6 = .ok (.iconst 0, 1) := by decide +kernel
theorem dX12_worstOf_7 : decode cX12_worstOf 7 = .ok (.istore 4, 2) := by decide +kernel
theorem dX12_worstOf_9 : decode cX12_worstOf 9 = .ok (.iload 4, 2) := by decide +kernel
theorem dX12_worstOf_11 : decode cX12_worstOf 11 = .ok (.iload_n 1, 1) := by decide +kernel
theorem dX12_worstOf_12 : decode cX12_worstOf 12 = .ok (.if_icmp .ge 38, 3) := by decide +kernel
theorem dX12_worstOf_15 : decode cX12_worstOf 15 = .ok (.aload_n 0, 1) := by decide +kernel
theorem dX12_worstOf_16 : decode cX12_worstOf 16 = .ok (.iload_n 2, 1) := by decide +kernel
theorem dX12_worstOf_17 : decode cX12_worstOf 17 = .ok (.invokevirtual 352, 3) := by decide +kernel
theorem dX12_worstOf_20 : decode cX12_worstOf 20 = .ok (.istore 5, 2) := by decide +kernel
theorem dX12_worstOf_22 : decode cX12_worstOf 22 = .ok (.iload 5, 2) := by decide +kernel
theorem dX12_worstOf_24 : decode cX12_worstOf 24 = .ok (.iconst (-1), 1) := by decide +kernel
theorem dX12_worstOf_25 : decode cX12_worstOf 25 = .ok (.if_icmp .ne 7, 3) := by decide +kernel
theorem dX12_worstOf_28 : decode cX12_worstOf 28 = .ok (.iload_n 3, 1) := by decide +kernel
theorem dX12_worstOf_29 : decode cX12_worstOf 29 = .ok (.goto 14, 3) := by decide +kernel
theorem dX12_worstOf_32 : decode cX12_worstOf 32 = .ok (.iload_n 3, 1) := by decide +kernel
theorem dX12_worstOf_33 : decode cX12_worstOf 33 = .ok (.aload_n 0, 1) := by decide +kernel
theorem dX12_worstOf_34 : decode cX12_worstOf 34 = .ok (.iload 5, 2) := by decide +kernel
theorem dX12_worstOf_36 : decode cX12_worstOf 36 = .ok (.iconst 1, 1) := by decide +kernel
theorem dX12_worstOf_37 : decode cX12_worstOf 37 = .ok (.invokevirtual 72, 3) := by decide +kernel
theorem dX12_worstOf_40 : decode cX12_worstOf 40 = .ok (.invokestatic 263, 3) := by decide +kernel
theorem dX12_worstOf_43 : decode cX12_worstOf 43 = .ok (.istore_n 3, 1) := by decide +kernel
theorem dX12_worstOf_44 : decode cX12_worstOf 44 = .ok (.iinc 4 1, 3) := by decide +kernel
theorem dX12_worstOf_47 : decode cX12_worstOf 47 = .ok (.goto (-38), 3) := by decide +kernel
theorem dX12_worstOf_50 : decode cX12_worstOf 50 = .ok (.aload_n 0, 1) := by decide +kernel
theorem dX12_worstOf_51 : decode cX12_worstOf 51 = .ok (.invokevirtual 355, 3) := by decide +kernel
theorem dX12_worstOf_54 : decode cX12_worstOf 54 = .ok (.iload_n 3, 1) := by decide +kernel
theorem dX12_worstOf_55 : decode cX12_worstOf 55 = .ok (.ireturn, 1) := by decide +kernel
set_option maxRecDepth 20000 in
theorem ggX12_thief_X12_luredTo : GoodIn wsX12_thief wsX12_luredTo := goodIn_r _ [6, 7, 8, 9, 10, 11, 12, 13, 5, 14, 15, 16, 17, 18, 19, 20, 21, 22, 23, 24, 25, 26, 27, 28, 29, 30, 31, 32, 33, 34, 35, 36, 37, 38, 39, 40, 41, 42, 43, 44, 45, 46, 47, 48, 49, 50, 51, 52, 53, 54, 55, 56, 57, 58, 59, 60, 61, 62, 63, 64, 65, 66, 67, 68, 69, 70, 71, 72, 73, 74, 75, 76, 77, 78, 79, 80, 81, 82, 83, 84, 85, 86, 87, 88, 89, 90, 91, 92, 93, 94, 95, 96, 97, 98, 99, 100, 101, 102, 103, 104, 105, 106, 107, 108, 109, 110, 111, 112, 113, 114, 115, 116, 117, 118, 119, 120, 121, 122, 123, 124, 125, 126, 127, 128, 129, 130, 131, 132, 133] (by decide +kernel) (by decide +kernel)
set_option maxRecDepth 20000 in
theorem gX12_thief_X12_luredTo : GoodIn wsX12_thief (wsV RX12 343 RX12 yX12_luredTo wsX12_luredTo) := goodIn_app (goodIn_of _ (by decide +kernel)) ggX12_thief_X12_luredTo
theorem dX12_thief_0 : decode cX12_thief 0 = .ok (.aload_n 0, 1) := by decide +kernel
theorem dX12_thief_1 : decode cX12_thief 1 = .ok (.iconst 0, 1) := by decide +kernel
theorem dX12_thief_2 : decode cX12_thief 2 = .ok (.putfield 3, 3) := by decide +kernel
theorem dX12_thief_5 : decode cX12_thief 5 = .ok (.aload_n 0, 1) := by decide +kernel
theorem dX12_thief_6 : decode cX12_thief 6 = .ok (.iconst 0, 1) := by decide +kernel
theorem dX12_thief_7 : decode cX12_thief 7 = .ok (.invokevirtual 343, 3) := by decide +kernel
theorem dX12_thief_10 : decode cX12_thief 10 = .ok (.ireturn, 1) := by decide +kernel
set_option maxRecDepth 20000 in
theorem ggX12_loot_X12_in : GoodIn wsX12_loot wsX12_in := goodIn_r _ [5] (by decide +kernel) (by decide +kernel)
set_option maxRecDepth 20000 in
theorem gX12_loot_X12_in : GoodIn wsX12_loot (va_wsS RX12 75 yX12_in wsX12_in) := goodIn_app (goodIn_of _ (by decide +kernel)) ggX12_loot_X12_in
set_option maxRecDepth 20000 in
theorem ggX12_loot_X12_throwsIf : GoodIn wsX12_loot wsX12_throwsIf := goodIn_r _ [9, 1, 138, 139, 140, 141, 142, 143, 144, 145, 146, 147, 148, 149, 150, 151, 152, 153, 154, 155, 156, 157] (by decide +kernel) (by decide +kernel)
set_option maxRecDepth 20000 in
theorem gX12_loot_X12_throwsIf : GoodIn wsX12_loot (wsV RX12 242 RX12 yX12_throwsIf wsX12_throwsIf) := goodIn_app (goodIn_of _ (by decide +kernel)) ggX12_loot_X12_throwsIf
set_option maxRecDepth 20000 in
theorem ggX12_loot_X12_keepsAll : GoodIn wsX12_loot wsX12_keepsAll := goodIn_r _ [13, 14, 15, 138, 139, 140, 141, 142, 143, 144, 145, 146, 147, 148, 149, 150, 151, 152, 153, 154, 155, 156, 157] (by decide +kernel) (by decide +kernel)
set_option maxRecDepth 20000 in
theorem gX12_loot_X12_keepsAll : GoodIn wsX12_loot (wsV RX12 349 RX12 yX12_keepsAll wsX12_keepsAll) := goodIn_app (goodIn_of _ (by decide +kernel)) ggX12_loot_X12_keepsAll
set_option maxRecDepth 20000 in
theorem ggX12_loot_X12_steals : GoodIn wsX12_loot wsX12_steals := goodIn_r _ [19, 15, 20, 21, 22, 4, 23, 24, 25, 26, 27, 28, 29, 30, 31, 32, 33, 34, 35, 36, 37, 38, 39, 40, 41, 42, 43, 44, 45, 46, 47, 48, 49, 50, 51, 52, 53, 54, 55, 56, 57, 58, 59, 60, 61, 62, 63, 64, 65, 66, 67, 68, 69, 70, 71, 72, 73, 74, 75, 76, 77, 78, 79, 80, 81, 82, 83, 84, 85, 86, 87, 88, 89, 90, 91, 92, 93, 94, 95, 96, 97, 98, 99, 100, 101, 102, 103, 104, 105, 106, 107, 108, 109, 110, 111, 112, 113, 114, 115, 116, 117, 118, 119, 120, 121, 122, 123, 124, 125, 126, 127, 128, 129, 130, 131, 132, 133, 138, 139, 140, 141, 142, 143, 144, 145, 146, 147, 148, 149, 150, 151, 152, 153, 154, 155, 156, 157] (by decide +kernel) (by decide +kernel)
set_option maxRecDepth 20000 in
theorem gX12_loot_X12_steals : GoodIn wsX12_loot (wsV RX12 352 RX12 yX12_steals wsX12_steals) := goodIn_app (goodIn_of _ (by decide +kernel)) ggX12_loot_X12_steals
set_option maxRecDepth 20000 in
theorem ggX12_loot_X12_ofThing : GoodIn wsX12_loot wsX12_ofThing := goodIn_r _ [54, 15, 55, 56, 4, 57, 138, 139, 140, 141, 142, 143, 144, 145, 146, 147, 148, 149, 150, 151, 152, 153, 154, 155, 156, 157] (by decide +kernel) (by decide +kernel)
set_option maxRecDepth 20000 in
theorem gX12_loot_X12_ofThing : GoodIn wsX12_loot (wsV RX12 72 RX12 yX12_ofThing wsX12_ofThing) := goodIn_app (goodIn_of _ (by decide +kernel)) ggX12_loot_X12_ofThing
set_option maxRecDepth 20000 in
theorem ggX12_loot_X12_bringsBack : GoodIn wsX12_loot wsX12_bringsBack := goodIn_r _ [137, 15, 14, 138, 139, 140, 141, 142, 143, 144, 145, 146, 147, 148, 149, 150, 151, 152, 153, 154, 155, 156, 157] (by decide +kernel) (by decide +kernel)
set_option maxRecDepth 20000 in
theorem gX12_loot_X12_bringsBack : GoodIn wsX12_loot (wsV RX12 355 RX12 yX12_bringsBack wsX12_bringsBack) := goodIn_app (goodIn_of _ (by decide +kernel)) ggX12_loot_X12_bringsBack
theorem dX12_loot_0 : decode cX12_loot 0 = .ok (.aload_n 0, 1) := by decide +kernel
theorem dX12_loot_1 : decode cX12_loot 1 = .ok (.iconst 0, 1) := by decide +kernel
theorem dX12_loot_2 : decode cX12_loot 2 = .ok (.putfield 3, 3) := by decide +kernel
theorem dX12_loot_5 : decode cX12_loot 5 = .ok (.aload_n 0, 1) := by decide +kernel
theorem dX12_loot_6 : decode cX12_loot 6 = .ok (.iload_n 1, 1) := by decide +kernel
theorem dX12_loot_7 : decode cX12_loot 7 = .ok (.iconst 0, 1) := by decide +kernel
theorem dX12_loot_8 : decode cX12_loot 8 = .ok (.bipush 10, 2) := by decide +kernel
theorem dX12_loot_10 : decode cX12_loot 10 = .ok (.invokestatic 75, 3) := by decide +kernel
theorem dX12_loot_13 : decode cX12_loot 13 = .ok (.ifCond .ne 7, 3) := by decide +kernel
theorem dX12_loot_16 : decode cX12_loot 16 = .ok (.iconst 1, 1) := by decide +kernel
theorem dX12_loot_17 : decode cX12_loot 17 = .ok (.goto 4, 3) := by decide +kernel
theorem dX12_loot_20 : decode cX12_loot 20 = .ok (.iconst 0, 1) := by decide +kernel
theorem dX12_loot_21 : decode cX12_loot 21 = .ok (.iconst 1, 1) := by decide +kernel
theorem dX12_loot_22 : decode cX12_loot 22 = .ok (.invokevirtual 242, 3) := by decide +kernel
theorem dX12_loot_25 : decode cX12_loot 25 = .ok (.ifCond .eq 5, 3) := by decide +kernel
theorem dX12_loot_28 : decode cX12_loot 28 = .ok (.iconst 0, 1) := by decide +kernel
theorem dX12_loot_29 : decode cX12_loot 29 = .ok (.ireturn, 1) := by decide +kernel
theorem dX12_loot_30 : decode cX12_loot 30 = .ok (.iconst 0, 1) := by decide +kernel
theorem dX12_loot_31 : decode cX12_loot 31 = .ok (.istore_n 2, 1) := by decide +kernel
theorem dX12_loot_32 : decode cX12_loot 32 = .ok (.aload_n 0, 1) := by decide +kernel
theorem dX12_loot_33 : decode cX12_loot 33 = .ok (.invokevirtual 349, 3) := by decide +kernel
theorem dX12_loot_36 : decode cX12_loot 36 = .ok (.iconst 0, 1) := by decide +kernel
theorem dX12_loot_37 : decode cX12_loot 37 = .ok (.istore_n 3, 1) := by decide +kernel
theorem dX12_loot_38 : decode cX12_loot 38 = .ok (.iload_n 3, 1) := by decide +kernel
theorem dX12_loot_39 : decode cX12_loot 39 = .ok (.iload_n 1, 1) := by decide +kernel
theorem dX12_loot_40 : decode cX12_loot 40 = .ok (.if_icmp .ge 36, 3) := by decide +kernel
theorem dX12_loot_43 : decode cX12_loot 43 = .ok (.aload_n 0, 1) := by decide +kernel
theorem dX12_loot_44 : decode cX12_loot 44 = .ok (.iconst 0, 1) := by decide +kernel
theorem dX12_loot_45 : decode cX12_loot 45 = .ok (.invokevirtual 352, 3) := by decide +kernel
theorem dX12_loot_48 : decode cX12_loot 48 = .ok (.istore 4, 2) := by decide +kernel
theorem dX12_loot_50 : decode cX12_loot 50 = .ok (.iload_n 2, 1) := by decide +kernel
theorem dX12_loot_51 : decode cX12_loot 51 = .ok (.iload 4, 2) := by decide +kernel
theorem dX12_loot_53 : decode cX12_loot 53 = .ok (.iconst (-1), 1) := by decide +kernel
theorem dX12_loot_54 : decode cX12_loot 54 = .ok (.if_icmp .ne 7, 3) := by decide +kernel
theorem dX12_loot_57 : decode cX12_loot 57 = .ok (.iconst 0, 1) := by decide +kernel
theorem dX12_loot_58 : decode cX12_loot 58 = .ok (.goto 10, 3) := by decide +kernel
theorem dX12_loot_61 : decode cX12_loot 61 = .ok (.aload_n 0, 1) := by decide +kernel
theorem dX12_loot_62 : decode cX12_loot 62 = .ok (.iload 4, 2) := by decide +kernel
theorem dX12_loot_64 : decode cX12_loot 64 = .ok (.iconst 1, 1) := by decide +kernel
theorem dX12_loot_65 : decode cX12_loot 65 = .ok (.invokevirtual 72, 3) := by decide +kernel
theorem dX12_loot_68 : decode cX12_loot 68 = .ok (.iadd, 1) := by decide +kernel
theorem dX12_loot_69 : decode cX12_loot 69 = .ok (.istore_n 2, 1) := by decide +kernel
theorem dX12_loot_70 : decode cX12_loot 70 = .ok (.iinc 3 1, 3) := by decide +kernel
theorem dX12_loot_73 : decode cX12_loot 73 = .ok (.goto (-35), 3) := by decide +kernel
theorem dX12_loot_76 : decode cX12_loot 76 = .ok (.aload_n 0, 1) := by decide +kernel
theorem dX12_loot_77 : decode cX12_loot 77 = .ok (.invokevirtual 355, 3) := by decide +kernel
theorem dX12_loot_80 : decode cX12_loot 80 = .ok (.iload_n 2, 1) := by decide +kernel
theorem dX12_loot_81 : decode cX12_loot 81 = .ok (.ireturn, 1) := by decide +kernel
set_option maxRecDepth 20000 in
theorem ggX12_guards_X12_in : GoodIn wsX12_guards wsX12_in := goodIn_r _ [5] (by decide +kernel) (by decide +kernel)
set_option maxRecDepth 20000 in
theorem gX12_guards_X12_in : GoodIn wsX12_guards (va_wsS RX12 75 yX12_in wsX12_in) := goodIn_app (goodIn_of _ (by decide +kernel)) ggX12_guards_X12_in
set_option maxRecDepth 20000 in
theorem ggX12_guards_X12_throwsIf : GoodIn wsX12_guards wsX12_throwsIf := goodIn_r _ [9, 1, 149, 150, 151, 152, 153, 154, 155, 156, 157, 158, 159, 160, 161, 162, 163, 164, 165, 166, 167, 168] (by decide +kernel) (by decide +kernel)
set_option maxRecDepth 20000 in
theorem gX12_guards_X12_throwsIf : GoodIn wsX12_guards (wsV RX12 242 RX12 yX12_throwsIf wsX12_throwsIf) := goodIn_app (goodIn_of _ (by decide +kernel)) ggX12_guards_X12_throwsIf
set_option maxRecDepth 20000 in
theorem ggX12_guards_X12_houses : GoodIn wsX12_guards wsX12_houses := goodIn_r _ [13, 14, 15, 16, 4, 17, 18, 149, 150, 151, 152, 153, 154, 155, 156, 157, 158, 159, 160, 161, 162, 163, 164, 165, 166, 167, 168] (by decide +kernel) (by decide +kernel)
set_option maxRecDepth 20000 in
theorem gX12_guards_X12_houses : GoodIn wsX12_guards (wsV RX12 79 RX12 yX12_houses wsX12_houses) := goodIn_app (goodIn_of _ (by decide +kernel)) ggX12_guards_X12_houses
set_option maxRecDepth 20000 in
theorem ggX12_guards_J6_bitCount_0f7a4 : GoodIn wsX12_guards wsJ6_bitCount_0f7a4 := goodIn_r _ [22, 23, 24, 25] (by decide +kernel) (by decide +kernel)
set_option maxRecDepth 20000 in
theorem gX12_guards_J6_bitCount_0f7a4 : GoodIn wsX12_guards (va_wsS RX12 358 yJ6_bitCount_0f7a4 wsJ6_bitCount_0f7a4) := goodIn_app (goodIn_of _ (by decide +kernel)) ggX12_guards_J6_bitCount_0f7a4
set_option maxRecDepth 20000 in
theorem ggX12_guards_X12_worstOf : GoodIn wsX12_guards wsX12_worstOf := goodIn_r _ [29, 30, 31, 32, 33, 34, 35, 36, 4, 37, 38, 18, 39, 40, 41, 42, 43, 44, 45, 46, 10, 11, 12, 13, 14, 15, 16, 17, 47, 48, 49, 50, 51, 52, 53, 54, 55, 56, 57, 58, 59, 60, 61, 62, 63, 64, 65, 66, 67, 68, 69, 70, 71, 72, 73, 74, 75, 76, 77, 78, 79, 80, 81, 82, 83, 84, 85, 86, 87, 88, 89, 90, 91, 92, 93, 94, 95, 96, 97, 98, 99, 100, 101, 102, 103, 104, 105, 106, 107, 108, 109, 110, 111, 112, 113, 114, 115, 116, 117, 118, 119, 120, 121, 122, 123, 124, 125, 126, 127, 128, 129, 130, 131, 132, 133, 134, 135, 136, 137, 138, 139, 140, 141, 142, 143, 144, 145, 146, 147, 148, 149, 150, 151, 152, 153, 154, 155, 156, 157, 158, 159, 160, 161, 162, 163, 164, 165, 166, 167, 168] (by decide +kernel) (by decide +kernel)
set_option maxRecDepth 20000 in
theorem gX12_guards_X12_worstOf : GoodIn wsX12_guards (wsV RX12 363 RX12 yX12_worstOf wsX12_worstOf) := goodIn_app (goodIn_of _ (by decide +kernel)) ggX12_guards_X12_worstOf
theorem dX12_guards_0 : decode cX12_guards 0 = .ok (.aload_n 0, 1) := by decide +kernel
theorem dX12_guards_1 : decode cX12_guards 1 = .ok (.iconst 0, 1) := by decide +kernel
theorem dX12_guards_2 : decode cX12_guards 2 = .ok (.putfield 3, 3) := by decide +kernel
theorem dX12_guards_5 : decode cX12_guards 5 = .ok (.aload_n 0, 1) := by decide +kernel
theorem dX12_guards_6 : decode cX12_guards 6 = .ok (.iload_n 1, 1) := by decide +kernel
theorem dX12_guards_7 : decode cX12_guards 7 = .ok (.iconst 0, 1) := by decide +kernel
theorem dX12_guards_8 : decode cX12_guards 8 = .ok (.bipush 8, 2) := by decide +kernel
theorem dX12_guards_10 : decode cX12_guards 10 = .ok (.invokestatic 75, 3) := by decide +kernel
theorem dX12_guards_13 : decode cX12_guards 13 = .ok (.ifCond .eq 13, 3) := by decide +kernel
theorem dX12_guards_16 : decode cX12_guards 16 = .ok (.iload_n 2, 1) := by decide +kernel
theorem dX12_guards_17 : decode cX12_guards 17 = .ok (.iconst 0, 1) := by decide +kernel
theorem dX12_guards_18 : decode cX12_guards 18 = .ok (.bipush 99, 2) := by decide +kernel
theorem dX12_guards_20 : decode cX12_guards 20 = .ok (.invokestatic 75, 3) := by decide +kernel
theorem dX12_guards_23 : decode cX12_guards 23 = .ok (.ifCond .ne 7, 3) := by decide +kernel
theorem dX12_guards_26 : decode cX12_guards 26 = .ok (.iconst 1, 1) := by decide +kernel
theorem dX12_guards_27 : decode cX12_guards 27 = .ok (.goto 4, 3) := by decide +kernel
theorem dX12_guards_30 : decode cX12_guards 30 = .ok (.iconst 0, 1) := by decide +kernel
theorem dX12_guards_31 : decode cX12_guards 31 = .ok (.iconst 1, 1) := by decide +kernel
theorem dX12_guards_32 : decode cX12_guards 32 = .ok (.invokevirtual 242, 3) := by decide +kernel
theorem dX12_guards_35 : decode cX12_guards 35 = .ok (.ifCond .eq 5, 3) := by decide +kernel
theorem dX12_guards_38 : decode cX12_guards 38 = .ok (.iconst 0, 1) := by decide +kernel
theorem dX12_guards_39 : decode cX12_guards 39 = .ok (.ireturn, 1) := by decide +kernel
theorem dX12_guards_40 : decode cX12_guards 40 = .ok (.iconst (-1), 1) := by decide +kernel
theorem dX12_guards_41 : decode cX12_guards 41 = .ok (.istore_n 3, 1) := by decide +kernel
theorem dX12_guards_42 : decode cX12_guards 42 = .ok (.iconst 4, 1) := by decide +kernel
theorem dX12_guards_43 : decode cX12_guards 43 = .ok (.istore 4, 2) := by decide +kernel
theorem dX12_guards_45 : decode cX12_guards 45 = .ok (.iconst 0, 1) := by decide +kernel
theorem dX12_guards_46 : decode cX12_guards 46 = .ok (.istore 5, 2) := by decide +kernel
theorem dX12_guards_48 : decode cX12_guards 48 = .ok (.iload 5, 2) := by decide +kernel
theorem dX12_guards_50 : decode cX12_guards 50 = .ok (.iconst 1, 1) := by decide +kernel
theorem dX12_guards_51 : decode cX12_guards 51 = .ok (.aload_n 0, 1) := by decide +kernel
theorem dX12_guards_52 : decode cX12_guards 52 = .ok (.invokevirtual 79, 3) := by decide +kernel
theorem dX12_guards_55 : decode cX12_guards 55 = .ok (.ishl, 1) := by decide +kernel
theorem dX12_guards_56 : decode cX12_guards 56 = .ok (.if_icmp .ge 43, 3) := by decide +kernel
theorem dX12_guards_59 : decode cX12_guards 59 = .ok (.iload 5, 2) := by decide +kernel
theorem dX12_guards_61 : decode cX12_guards 61 = .ok (.invokestatic 358, 3) := by decide +kernel
theorem dX12_guards_64 : decode cX12_guards 64 = .ok (.iload 4, 2) := by decide +kernel
theorem dX12_guards_66 : decode cX12_guards 66 = .ok (.if_icmp .ge 27, 3) := by decide +kernel
theorem dX12_guards_69 : decode cX12_guards 69 = .ok (.aload_n 0, 1) := by decide +kernel
theorem dX12_guards_70 : decode cX12_guards 70 = .ok (.iload_n 1, 1) := by decide +kernel
theorem dX12_guards_71 : decode cX12_guards 71 = .ok (.iload 5, 2) := by decide +kernel
theorem dX12_guards_73 : decode cX12_guards 73 = .ok (.invokevirtual 363, 3) := by decide +kernel
theorem dX12_guards_76 : decode cX12_guards 76 = .ok (.iload_n 2, 1) := by decide +kernel
theorem dX12_guards_77 : decode cX12_guards 77 = .ok (.if_icmp .le 6, 3) := by decide +kernel
theorem dX12_guards_80 : decode cX12_guards 80 = .ok (.goto 13, 3) := by decide +kernel
theorem dX12_guards_83 : decode cX12_guards 83 = .ok (.iload 5, 2) := by decide +kernel
theorem dX12_guards_85 : decode cX12_guards 85 = .ok (.istore_n 3, 1) := by decide +kernel
theorem dX12_guards_86 : decode cX12_guards 86 = .ok (.iload 5, 2) := by decide +kernel
theorem dX12_guards_88 : decode cX12_guards 88 = .ok (.invokestatic 358, 3) := by decide +kernel
theorem dX12_guards_91 : decode cX12_guards 91 = .ok (.istore 4, 2) := by decide +kernel
theorem dX12_guards_93 : decode cX12_guards 93 = .ok (.iinc 5 1, 3) := by decide +kernel
theorem dX12_guards_96 : decode cX12_guards 96 = .ok (.goto (-48), 3) := by decide +kernel
theorem dX12_guards_99 : decode cX12_guards 99 = .ok (.iload_n 3, 1) := by decide +kernel
theorem dX12_guards_100 : decode cX12_guards 100 = .ok (.ireturn, 1) := by decide +kernel
set_option maxRecDepth 20000 in
theorem ggX12_snowsAndSteals_X12_drawn : GoodIn wsX12_snowsAndSteals wsX12_drawn := goodIn_r _ [10, 1, 11, 130, 131, 132, 133, 134, 135, 136, 137, 138, 139, 140, 141, 142, 143, 144, 145, 146, 147, 148, 149] (by decide +kernel) (by decide +kernel)
set_option maxRecDepth 20000 in
theorem gX12_snowsAndSteals_X12_drawn : GoodIn wsX12_snowsAndSteals (wsV RX12 366 RX12 yX12_drawn wsX12_drawn) := goodIn_app (goodIn_of _ (by decide +kernel)) ggX12_snowsAndSteals_X12_drawn
set_option maxRecDepth 20000 in
theorem ggX12_snowsAndSteals_X12_luredTo : GoodIn wsX12_snowsAndSteals wsX12_luredTo := goodIn_r _ [15, 16, 17, 4, 18, 19, 20, 21, 9, 22, 23, 24, 25, 26, 1, 27, 28, 29, 30, 31, 32, 33, 34, 35, 36, 37, 38, 39, 40, 41, 42, 43, 44, 45, 46, 47, 48, 49, 50, 51, 52, 53, 54, 55, 56, 57, 58, 59, 60, 61, 62, 63, 64, 65, 66, 67, 68, 69, 70, 71, 72, 73, 74, 75, 76, 77, 78, 79, 80, 81, 82, 83, 84, 85, 86, 87, 88, 89, 90, 91, 92, 93, 94, 95, 96, 97, 98, 99, 100, 101, 102, 103, 104, 105, 106, 107, 108, 109, 110, 2, 3, 5, 111, 112, 113, 114, 115, 116, 117, 130, 131, 132, 133, 134, 135, 136, 137, 138, 139, 140, 141, 142, 143, 144, 145, 146, 147, 148, 149] (by decide +kernel) (by decide +kernel)
set_option maxRecDepth 20000 in
theorem gX12_snowsAndSteals_X12_luredTo : GoodIn wsX12_snowsAndSteals (wsV RX12 343 RX12 yX12_luredTo wsX12_luredTo) := goodIn_app (goodIn_of _ (by decide +kernel)) ggX12_snowsAndSteals_X12_luredTo
set_option maxRecDepth 20000 in
theorem ggX12_snowsAndSteals_X12_steals : GoodIn wsX12_snowsAndSteals wsX12_steals := goodIn_r _ [121, 1, 12, 13, 14, 9, 15, 16, 17, 4, 18, 19, 20, 21, 22, 23, 24, 25, 26, 27, 28, 29, 30, 31, 32, 33, 34, 35, 36, 37, 38, 39, 40, 41, 42, 43, 44, 45, 46, 47, 48, 49, 50, 51, 52, 53, 54, 55, 56, 57, 58, 59, 60, 61, 62, 63, 64, 65, 66, 67, 68, 69, 70, 71, 72, 73, 74, 75, 76, 77, 78, 79, 80, 81, 82, 83, 84, 85, 86, 87, 88, 89, 90, 91, 92, 93, 94, 95, 96, 97, 98, 99, 100, 101, 102, 103, 104, 105, 106, 107, 108, 109, 110, 2, 3, 5, 111, 112, 113, 114, 115, 116, 117, 122, 123, 124, 125, 130, 131, 132, 133, 134, 135, 136, 137, 138, 139, 140, 141, 142, 143, 144, 145, 146, 147, 148, 149] (by decide +kernel) (by decide +kernel)
set_option maxRecDepth 20000 in
theorem gX12_snowsAndSteals_X12_steals : GoodIn wsX12_snowsAndSteals (wsV RX12 352 RX12 yX12_steals wsX12_steals) := goodIn_app (goodIn_of _ (by decide +kernel)) ggX12_snowsAndSteals_X12_steals
set_option maxRecDepth 20000 in
theorem ggX12_snowsAndSteals_X12_tells : GoodIn wsX12_snowsAndSteals wsX12_tells := goodIn_r _ [129, 1, 2, 3, 4, 5, 130, 131, 132, 133, 134, 135, 136, 137, 138, 139, 140, 141, 142, 143, 144, 145, 146, 147, 148, 149] (by decide +kernel) (by decide +kernel)
set_option maxRecDepth 20000 in
theorem gX12_snowsAndSteals_X12_tells : GoodIn wsX12_snowsAndSteals (wsV RX12 339 RX12 yX12_tells wsX12_tells) := goodIn_app (goodIn_of _ (by decide +kernel)) ggX12_snowsAndSteals_X12_tells
theorem dX12_snowsAndSteals_0 : decode cX12_snowsAndSteals 0 = .ok (.iload_n 1, 1) := by decide +kernel
theorem dX12_snowsAndSteals_1 : decode cX12_snowsAndSteals 1 = .ok (.ifCond .eq 55, 3) := by decide +kernel
theorem dX12_snowsAndSteals_4 : decode cX12_snowsAndSteals 4 = .ok (.aload_n 0, 1) := by decide +kernel
theorem dX12_snowsAndSteals_5 : decode cX12_snowsAndSteals 5 = .ok (.getfield 13, 3) := by decide +kernel
theorem dX12_snowsAndSteals_8 : decode cX12_snowsAndSteals 8 = .ok (.iconst 5, 1) := by decide +kernel
theorem dX12_snowsAndSteals_9 : decode cX12_snowsAndSteals 9 = .ok (.aload_n 0, 1) := by decide +kernel
theorem dX12_snowsAndSteals_10 : decode cX12_snowsAndSteals 10 = .ok (.bipush 100, 2) := by decide +kernel
theorem dX12_snowsAndSteals_12 : decode cX12_snowsAndSteals 12 = .ok (.invokevirtual 366, 3) := by decide +kernel
theorem dX12_snowsAndSteals_15 : decode cX12_snowsAndSteals 15 = .ok (.aload_n 0, 1) := by decide +kernel
theorem dX12_snowsAndSteals_16 : decode cX12_snowsAndSteals 16 = .ok (.getfield 13, 3) := by decide +kernel
theorem dX12_snowsAndSteals_19 : decode cX12_snowsAndSteals 19 = .ok (.bipush 7, 2) := by decide +kernel
theorem dX12_snowsAndSteals_21 : decode cX12_snowsAndSteals 21 = .ok (.iaload, 1) := by decide +kernel
theorem dX12_snowsAndSteals_22 : decode cX12_snowsAndSteals 22 = .ok (.if_icmp .ge 24, 3) := by decide +kernel
theorem dX12_snowsAndSteals_25 : decode cX12_snowsAndSteals 25 = .ok (.bipush 99, 2) := by decide +kernel
theorem dX12_snowsAndSteals_27 : decode cX12_snowsAndSteals 27 = .ok (.aload_n 0, 1) := by decide +kernel
theorem dX12_snowsAndSteals_28 : decode cX12_snowsAndSteals 28 = .ok (.getfield 13, 3) := by decide +kernel
theorem dX12_snowsAndSteals_31 : decode cX12_snowsAndSteals 31 = .ok (.iconst 5, 1) := by decide +kernel
theorem dX12_snowsAndSteals_32 : decode cX12_snowsAndSteals 32 = .ok (.iaload, 1) := by decide +kernel
theorem dX12_snowsAndSteals_33 : decode cX12_snowsAndSteals 33 = .ok (.aload_n 0, 1) := by decide +kernel
theorem dX12_snowsAndSteals_34 : decode cX12_snowsAndSteals 34 = .ok (.bipush 10, 2) := by decide +kernel
theorem dX12_snowsAndSteals_36 : decode cX12_snowsAndSteals 36 = .ok (.invokevirtual 366, 3) := by decide +kernel
theorem dX12_snowsAndSteals_39 : decode cX12_snowsAndSteals 39 = .ok (.iadd, 1) := by decide +kernel
theorem dX12_snowsAndSteals_40 : decode cX12_snowsAndSteals 40 = .ok (.invokestatic 258, 3) := by decide +kernel
theorem dX12_snowsAndSteals_43 : decode cX12_snowsAndSteals 43 = .ok (.goto 11, 3) := by decide +kernel
theorem dX12_snowsAndSteals_46 : decode cX12_snowsAndSteals 46 = .ok (.aload_n 0, 1) := by decide +kernel
theorem dX12_snowsAndSteals_47 : decode cX12_snowsAndSteals 47 = .ok (.getfield 13, 3) := by decide +kernel
theorem dX12_snowsAndSteals_50 : decode cX12_snowsAndSteals 50 = .ok (.iconst 5, 1) := by decide +kernel
theorem dX12_snowsAndSteals_51 : decode cX12_snowsAndSteals 51 = .ok (.iaload, 1) := by decide +kernel
theorem dX12_snowsAndSteals_52 : decode cX12_snowsAndSteals 52 = .ok (.iconst 2, 1) := by decide +kernel
theorem dX12_snowsAndSteals_53 : decode cX12_snowsAndSteals 53 = .ok (.idiv, 1) := by decide +kernel
theorem dX12_snowsAndSteals_54 : decode cX12_snowsAndSteals 54 = .ok (.iastore, 1) := by decide +kernel
theorem dX12_snowsAndSteals_55 : decode cX12_snowsAndSteals 55 = .ok (.return_, 1) := by decide +kernel
theorem dX12_snowsAndSteals_56 : decode cX12_snowsAndSteals 56 = .ok (.aload_n 0, 1) := by decide +kernel
theorem dX12_snowsAndSteals_57 : decode cX12_snowsAndSteals 57 = .ok (.bipush 100, 2) := by decide +kernel
theorem dX12_snowsAndSteals_59 : decode cX12_snowsAndSteals 59 = .ok (.invokevirtual 366, 3) := by decide +kernel
theorem dX12_snowsAndSteals_62 : decode cX12_snowsAndSteals 62 = .ok (.aload_n 0, 1) := by decide +kernel
theorem dX12_snowsAndSteals_63 : decode cX12_snowsAndSteals 63 = .ok (.getfield 13, 3) := by decide +kernel
theorem dX12_snowsAndSteals_66 : decode cX12_snowsAndSteals 66 = .ok (.bipush 8, 2) := by decide +kernel
theorem dX12_snowsAndSteals_68 : decode cX12_snowsAndSteals 68 = .ok (.iaload, 1) := by decide +kernel
theorem dX12_snowsAndSteals_69 : decode cX12_snowsAndSteals 69 = .ok (.if_icmp .lt 4, 3) := by decide +kernel
theorem dX12_snowsAndSteals_72 : decode cX12_snowsAndSteals 72 = .ok (.return_, 1) := by decide +kernel
theorem dX12_snowsAndSteals_73 : decode cX12_snowsAndSteals 73 = .ok (.aload_n 0, 1) := by decide +kernel
theorem dX12_snowsAndSteals_74 : decode cX12_snowsAndSteals 74 = .ok (.iconst 0, 1) := by decide +kernel
theorem dX12_snowsAndSteals_75 : decode cX12_snowsAndSteals 75 = .ok (.invokevirtual 343, 3) := by decide +kernel
theorem dX12_snowsAndSteals_78 : decode cX12_snowsAndSteals 78 = .ok (.istore_n 2, 1) := by decide +kernel
theorem dX12_snowsAndSteals_79 : decode cX12_snowsAndSteals 79 = .ok (.aload_n 0, 1) := by decide +kernel
theorem dX12_snowsAndSteals_80 : decode cX12_snowsAndSteals 80 = .ok (.iconst 0, 1) := by decide +kernel
theorem dX12_snowsAndSteals_81 : decode cX12_snowsAndSteals 81 = .ok (.invokevirtual 352, 3) := by decide +kernel
theorem dX12_snowsAndSteals_84 : decode cX12_snowsAndSteals 84 = .ok (.istore_n 3, 1) := by decide +kernel
theorem dX12_snowsAndSteals_85 : decode cX12_snowsAndSteals 85 = .ok (.iload_n 3, 1) := by decide +kernel
theorem dX12_snowsAndSteals_86 : decode cX12_snowsAndSteals 86 = .ok (.iconst (-1), 1) := by decide +kernel
theorem dX12_snowsAndSteals_87 : decode cX12_snowsAndSteals 87 = .ok (.if_icmp .eq 11, 3) := by decide +kernel
theorem dX12_snowsAndSteals_90 : decode cX12_snowsAndSteals 90 = .ok (.aload_n 0, 1) := by decide +kernel
theorem dX12_snowsAndSteals_91 : decode cX12_snowsAndSteals 91 = .ok (.iload_n 3, 1) := by decide +kernel
theorem dX12_snowsAndSteals_92 : decode cX12_snowsAndSteals 92 = .ok (.iload_n 2, 1) := by decide +kernel
theorem dX12_snowsAndSteals_93 : decode cX12_snowsAndSteals 93 = .ok (.iconst (-1), 1) := by decide +kernel
theorem dX12_snowsAndSteals_94 : decode cX12_snowsAndSteals 94 = .ok (.iconst 1, 1) := by decide +kernel
theorem dX12_snowsAndSteals_95 : decode cX12_snowsAndSteals 95 = .ok (.invokevirtual 339, 3) := by decide +kernel
theorem dX12_snowsAndSteals_98 : decode cX12_snowsAndSteals 98 = .ok (.return_, 1) := by decide +kernel
set_option maxRecDepth 20000 in
theorem ggX12_ages_X12_isBroken : GoodIn wsX12_ages wsX12_isBroken := goodIn_r _ [10, 11, 12, 13, 9, 14, 1, 15, 16, 17, 97, 98, 99, 100, 101, 102, 103, 104, 105, 106, 107, 108, 109, 110, 111, 112, 113, 114, 115, 116] (by decide +kernel) (by decide +kernel)
set_option maxRecDepth 20000 in
theorem gX12_ages_X12_isBroken : GoodIn wsX12_ages (wsV RX12 278 RX12 yX12_isBroken wsX12_isBroken) := goodIn_app (goodIn_of _ (by decide +kernel)) ggX12_ages_X12_isBroken
set_option maxRecDepth 20000 in
theorem ggX12_ages_X12_plankAt : GoodIn wsX12_ages wsX12_plankAt := goodIn_r _ [17] (by decide +kernel) (by decide +kernel)
set_option maxRecDepth 20000 in
theorem gX12_ages_X12_plankAt : GoodIn wsX12_ages (va_wsS RX12 59 yX12_plankAt wsX12_plankAt) := goodIn_app (goodIn_of _ (by decide +kernel)) ggX12_ages_X12_plankAt
set_option maxRecDepth 20000 in
theorem ggX12_ages_X12_ofPlank : GoodIn wsX12_ages wsX12_ofPlank := goodIn_r _ [14, 1, 15, 16, 9, 17, 97, 98, 99, 100, 101, 102, 103, 104, 105, 106, 107, 108, 109, 110, 111, 112, 113, 114, 115, 116] (by decide +kernel) (by decide +kernel)
set_option maxRecDepth 20000 in
theorem gX12_ages_X12_ofPlank : GoodIn wsX12_ages (wsV RX12 63 RX12 yX12_ofPlank wsX12_ofPlank) := goodIn_app (goodIn_of _ (by decide +kernel)) ggX12_ages_X12_ofPlank
set_option maxRecDepth 20000 in
theorem ggX12_ages_X12_agesBy : GoodIn wsX12_ages wsX12_agesBy := goodIn_r _ [21, 22, 23, 24, 9, 25, 1, 26, 27, 28, 29, 30, 31, 32, 33, 34, 35, 36, 37, 38, 39, 40, 41, 6, 7, 8, 10, 11, 12, 13, 14, 15, 16, 17, 42, 43, 44, 45, 46, 47, 48, 49, 50, 51, 52, 53, 54, 55, 56, 57, 58, 59, 60, 61, 62, 63, 64, 65, 66, 67, 68, 69, 70, 71, 72, 73, 74, 75, 76, 77, 78, 79, 80, 81, 82, 83, 84, 85, 86, 2, 3, 4, 5, 87, 88, 89, 90, 91, 92, 93, 94, 95, 96, 97, 98, 99, 100, 101, 102, 103, 104, 105, 106, 107, 108, 109, 110, 111, 112, 113, 114, 115, 116] (by decide +kernel) (by decide +kernel)
set_option maxRecDepth 20000 in
theorem gX12_ages_X12_agesBy : GoodIn wsX12_ages (wsV RX12 312 RX12 yX12_agesBy wsX12_agesBy) := goodIn_app (goodIn_of _ (by decide +kernel)) ggX12_ages_X12_agesBy
set_option maxRecDepth 20000 in
theorem ggX12_ages_X12_loadOf : GoodIn wsX12_ages wsX12_loadOf := goodIn_r _ [53, 1, 54, 55, 56, 9, 57, 58, 59, 60, 61, 62, 63, 64, 65, 66, 67, 68, 69, 70, 71, 72, 73, 74, 75, 76, 77, 78, 79, 80, 81, 82, 97, 98, 99, 100, 101, 102, 103, 104, 105, 106, 107, 108, 109, 110, 111, 112, 113, 114, 115, 116] (by decide +kernel) (by decide +kernel)
set_option maxRecDepth 20000 in
theorem gX12_ages_X12_loadOf : GoodIn wsX12_ages (wsV RX12 269 RX12 yX12_loadOf wsX12_loadOf) := goodIn_app (goodIn_of _ (by decide +kernel)) ggX12_ages_X12_loadOf
theorem dX12_ages_0 : decode cX12_ages 0 = .ok (.aload_n 0, 1) := by decide +kernel
theorem dX12_ages_1 : decode cX12_ages 1 = .ok (.iload_n 1, 1) := by decide +kernel
theorem dX12_ages_2 : decode cX12_ages 2 = .ok (.invokevirtual 278, 3) := by decide +kernel
theorem dX12_ages_5 : decode cX12_ages 5 = .ok (.ifCond .eq 4, 3) := by decide +kernel
theorem dX12_ages_8 : decode cX12_ages 8 = .ok (.return_, 1) := by decide +kernel
theorem dX12_ages_9 : decode cX12_ages 9 = .ok (.aload_n 0, 1) := by decide +kernel
theorem dX12_ages_10 : decode cX12_ages 10 = .ok (.getfield 13, 3) := by decide +kernel
theorem dX12_ages_13 : decode cX12_ages 13 = .ok (.iload_n 1, 1) := by decide +kernel
theorem dX12_ages_14 : decode cX12_ages 14 = .ok (.iconst 1, 1) := by decide +kernel
theorem dX12_ages_15 : decode cX12_ages 15 = .ok (.invokestatic 59, 3) := by decide +kernel
theorem dX12_ages_18 : decode cX12_ages 18 = .ok (.bipush 99, 2) := by decide +kernel
theorem dX12_ages_20 : decode cX12_ages 20 = .ok (.aload_n 0, 1) := by decide +kernel
theorem dX12_ages_21 : decode cX12_ages 21 = .ok (.iload_n 1, 1) := by decide +kernel
theorem dX12_ages_22 : decode cX12_ages 22 = .ok (.iconst 1, 1) := by decide +kernel
theorem dX12_ages_23 : decode cX12_ages 23 = .ok (.invokevirtual 63, 3) := by decide +kernel
theorem dX12_ages_26 : decode cX12_ages 26 = .ok (.aload_n 0, 1) := by decide +kernel
theorem dX12_ages_27 : decode cX12_ages 27 = .ok (.iload_n 1, 1) := by decide +kernel
theorem dX12_ages_28 : decode cX12_ages 28 = .ok (.invokevirtual 312, 3) := by decide +kernel
theorem dX12_ages_31 : decode cX12_ages 31 = .ok (.iadd, 1) := by decide +kernel
theorem dX12_ages_32 : decode cX12_ages 32 = .ok (.invokestatic 258, 3) := by decide +kernel
theorem dX12_ages_35 : decode cX12_ages 35 = .ok (.iastore, 1) := by decide +kernel
theorem dX12_ages_36 : decode cX12_ages 36 = .ok (.aload_n 0, 1) := by decide +kernel
theorem dX12_ages_37 : decode cX12_ages 37 = .ok (.iconst 2, 1) := by decide +kernel
theorem dX12_ages_38 : decode cX12_ages 38 = .ok (.iload_n 1, 1) := by decide +kernel
theorem dX12_ages_39 : decode cX12_ages 39 = .ok (.imul, 1) := by decide +kernel
theorem dX12_ages_40 : decode cX12_ages 40 = .ok (.invokevirtual 269, 3) := by decide +kernel
theorem dX12_ages_43 : decode cX12_ages 43 = .ok (.aload_n 0, 1) := by decide +kernel
theorem dX12_ages_44 : decode cX12_ages 44 = .ok (.iconst 2, 1) := by decide +kernel
theorem dX12_ages_45 : decode cX12_ages 45 = .ok (.iload_n 1, 1) := by decide +kernel
theorem dX12_ages_46 : decode cX12_ages 46 = .ok (.imul, 1) := by decide +kernel
theorem dX12_ages_47 : decode cX12_ages 47 = .ok (.iconst 1, 1) := by decide +kernel
theorem dX12_ages_48 : decode cX12_ages 48 = .ok (.iadd, 1) := by decide +kernel
theorem dX12_ages_49 : decode cX12_ages 49 = .ok (.invokevirtual 269, 3) := by decide +kernel
theorem dX12_ages_52 : decode cX12_ages 52 = .ok (.iadd, 1) := by decide +kernel
theorem dX12_ages_53 : decode cX12_ages 53 = .ok (.aload_n 0, 1) := by decide +kernel
theorem dX12_ages_54 : decode cX12_ages 54 = .ok (.iload_n 1, 1) := by decide +kernel
theorem dX12_ages_55 : decode cX12_ages 55 = .ok (.iconst 0, 1) := by decide +kernel
theorem dX12_ages_56 : decode cX12_ages 56 = .ok (.invokevirtual 63, 3) := by decide +kernel
theorem dX12_ages_59 : decode cX12_ages 59 = .ok (.aload_n 0, 1) := by decide +kernel
theorem dX12_ages_60 : decode cX12_ages 60 = .ok (.iload_n 1, 1) := by decide +kernel
theorem dX12_ages_61 : decode cX12_ages 61 = .ok (.iconst 1, 1) := by decide +kernel
theorem dX12_ages_62 : decode cX12_ages 62 = .ok (.invokevirtual 63, 3) := by decide +kernel
theorem dX12_ages_65 : decode cX12_ages 65 = .ok (.isub, 1) := by decide +kernel
theorem dX12_ages_66 : decode cX12_ages 66 = .ok (.if_icmp .le 14, 3) := by decide +kernel
theorem dX12_ages_69 : decode cX12_ages 69 = .ok (.aload_n 0, 1) := by decide +kernel
theorem dX12_ages_70 : decode cX12_ages 70 = .ok (.getfield 13, 3) := by decide +kernel
theorem dX12_ages_73 : decode cX12_ages 73 = .ok (.iload_n 1, 1) := by decide +kernel
theorem dX12_ages_74 : decode cX12_ages 74 = .ok (.iconst 3, 1) := by decide +kernel
theorem dX12_ages_75 : decode cX12_ages 75 = .ok (.invokestatic 59, 3) := by decide +kernel
theorem dX12_ages_78 : decode cX12_ages 78 = .ok (.iconst 1, 1) := by decide +kernel
theorem dX12_ages_79 : decode cX12_ages 79 = .ok (.iastore, 1) := by decide +kernel
theorem dX12_ages_80 : decode cX12_ages 80 = .ok (.return_, 1) := by decide +kernel
set_option maxRecDepth 20000 in
theorem ggX12_oneWeek_X12_snowsAndSteals : GoodIn wsX12_oneWeek wsX12_snowsAndSteals := goodIn_r _ [13, 1, 6, 7, 4, 8, 14, 15, 16, 12, 17, 18, 19, 20, 21, 22, 2, 3, 5, 23, 24, 25, 26, 27, 28, 29, 30, 31, 32, 33, 34, 35, 36, 37, 38, 39, 40, 41, 42, 43, 44, 45, 46, 47, 48, 49, 50, 51, 52, 53, 54, 55, 56, 57, 58, 59, 60, 61, 62, 63, 64, 65, 66, 67, 68, 69, 70, 71, 72, 73, 74, 75, 76, 77, 78, 79, 80, 81, 82, 83, 84, 85, 86, 87, 88, 89, 90, 91, 92, 93, 94, 95, 96, 97, 98, 99, 100, 101, 102, 103, 104, 105, 106, 107, 108, 109, 110, 111, 112, 113, 114, 115, 116, 117, 118, 119, 120, 121, 122, 123, 124, 125, 126, 127, 128, 129, 130, 131, 132, 133, 146, 147, 148, 149, 150, 151, 152, 153, 154, 155, 156, 157, 158, 159, 160, 161, 162, 163, 164, 165] (by decide +kernel) (by decide +kernel)
set_option maxRecDepth 20000 in
theorem gX12_oneWeek_X12_snowsAndSteals : GoodIn wsX12_oneWeek (wsV RX12 369 RX12 yX12_snowsAndSteals wsX12_snowsAndSteals) := goodIn_app (goodIn_of _ (by decide +kernel)) ggX12_oneWeek_X12_snowsAndSteals
set_option maxRecDepth 20000 in
theorem ggX12_oneWeek_X12_houses : GoodIn wsX12_oneWeek wsX12_houses := goodIn_r _ [26, 27, 28, 29, 12, 30, 1, 146, 147, 148, 149, 150, 151, 152, 153, 154, 155, 156, 157, 158, 159, 160, 161, 162, 163, 164, 165] (by decide +kernel) (by decide +kernel)
set_option maxRecDepth 20000 in
theorem gX12_oneWeek_X12_houses : GoodIn wsX12_oneWeek (wsV RX12 79 RX12 yX12_houses wsX12_houses) := goodIn_app (goodIn_of _ (by decide +kernel)) ggX12_oneWeek_X12_houses
set_option maxRecDepth 20000 in
theorem ggX12_oneWeek_X12_plankOf : GoodIn wsX12_oneWeek wsX12_plankOf := goodIn_r _ [76] (by decide +kernel) (by decide +kernel)
set_option maxRecDepth 20000 in
theorem gX12_oneWeek_X12_plankOf : GoodIn wsX12_oneWeek (va_wsS RX12 275 yX12_plankOf wsX12_plankOf) := goodIn_app (goodIn_of _ (by decide +kernel)) ggX12_oneWeek_X12_plankOf
set_option maxRecDepth 20000 in
theorem ggX12_oneWeek_X12_isBroken : GoodIn wsX12_oneWeek wsX12_isBroken := goodIn_r _ [80, 81, 82, 83, 12, 84, 1, 85, 86, 87, 146, 147, 148, 149, 150, 151, 152, 153, 154, 155, 156, 157, 158, 159, 160, 161, 162, 163, 164, 165] (by decide +kernel) (by decide +kernel)
set_option maxRecDepth 20000 in
theorem gX12_oneWeek_X12_isBroken : GoodIn wsX12_oneWeek (wsV RX12 278 RX12 yX12_isBroken wsX12_isBroken) := goodIn_app (goodIn_of _ (by decide +kernel)) ggX12_oneWeek_X12_isBroken
set_option maxRecDepth 20000 in
theorem ggX12_oneWeek_X12_houseAt : GoodIn wsX12_oneWeek wsX12_houseAt := goodIn_r _ [110] (by decide +kernel) (by decide +kernel)
set_option maxRecDepth 20000 in
theorem gX12_oneWeek_X12_houseAt : GoodIn wsX12_oneWeek (va_wsS RX12 66 yX12_houseAt wsX12_houseAt) := goodIn_app (goodIn_of _ (by decide +kernel)) ggX12_oneWeek_X12_houseAt
set_option maxRecDepth 20000 in
theorem ggX12_oneWeek_X12_of : GoodIn wsX12_oneWeek wsX12_of := goodIn_r _ [107, 1, 108, 109, 12, 110, 146, 147, 148, 149, 150, 151, 152, 153, 154, 155, 156, 157, 158, 159, 160, 161, 162, 163, 164, 165] (by decide +kernel) (by decide +kernel)
set_option maxRecDepth 20000 in
theorem gX12_oneWeek_X12_of : GoodIn wsX12_oneWeek (wsV RX12 255 RX12 yX12_of wsX12_of) := goodIn_app (goodIn_of _ (by decide +kernel)) ggX12_oneWeek_X12_of
set_option maxRecDepth 20000 in
theorem ggX12_oneWeek_X12_paysBy : GoodIn wsX12_oneWeek wsX12_paysBy := goodIn_r _ [137, 1, 70, 71, 72, 12, 73, 74, 75, 76, 77, 78, 79, 80, 81, 82, 83, 84, 85, 86, 87, 88, 89, 90, 91, 92, 93, 94, 95, 96, 97, 98, 99, 38, 39, 40, 41, 42, 43, 44, 45, 46, 47, 48, 49, 50, 51, 52, 100, 101, 102, 103, 31, 32, 33, 104, 105, 106, 107, 108, 109, 110, 111, 112, 113, 114, 6, 7, 4, 8, 2, 3, 5, 115, 116, 117, 57, 58, 59, 60, 61, 62, 63, 64, 65, 66, 67, 68, 69, 118, 119, 120, 121, 146, 147, 148, 149, 150, 151, 152, 153, 154, 155, 156, 157, 158, 159, 160, 161, 162, 163, 164, 165] (by decide +kernel) (by decide +kernel)
set_option maxRecDepth 20000 in
theorem gX12_oneWeek_X12_paysBy : GoodIn wsX12_oneWeek (wsV RX12 318 RX12 yX12_paysBy wsX12_paysBy) := goodIn_app (goodIn_of _ (by decide +kernel)) ggX12_oneWeek_X12_paysBy
set_option maxRecDepth 20000 in
theorem ggX12_oneWeek_X12_planks : GoodIn wsX12_oneWeek wsX12_planks := goodIn_r _ [30, 1, 146, 147, 148, 149, 150, 151, 152, 153, 154, 155, 156, 157, 158, 159, 160, 161, 162, 163, 164, 165] (by decide +kernel) (by decide +kernel)
set_option maxRecDepth 20000 in
theorem gX12_oneWeek_X12_planks : GoodIn wsX12_oneWeek (wsV RX12 55 RX12 yX12_planks wsX12_planks) := goodIn_app (goodIn_of _ (by decide +kernel)) ggX12_oneWeek_X12_planks
set_option maxRecDepth 20000 in
theorem ggX12_oneWeek_X12_ages : GoodIn wsX12_oneWeek wsX12_ages := goodIn_r _ [141, 1, 6, 7, 4, 8, 77, 78, 79, 12, 80, 81, 82, 83, 84, 85, 86, 87, 142, 143, 144, 145, 57, 58, 59, 60, 61, 62, 63, 64, 65, 66, 67, 68, 69, 70, 71, 72, 73, 74, 75, 76, 88, 89, 90, 91, 92, 93, 94, 95, 96, 97, 98, 99, 38, 39, 40, 41, 42, 43, 44, 45, 46, 47, 48, 49, 50, 51, 52, 100, 101, 102, 103, 31, 32, 33, 104, 105, 106, 107, 108, 109, 110, 111, 112, 113, 114, 2, 3, 5, 115, 116, 117, 118, 119, 120, 121, 146, 147, 148, 149, 150, 151, 152, 153, 154, 155, 156, 157, 158, 159, 160, 161, 162, 163, 164, 165] (by decide +kernel) (by decide +kernel)
set_option maxRecDepth 20000 in
theorem gX12_oneWeek_X12_ages : GoodIn wsX12_oneWeek (wsV RX12 373 RX12 yX12_ages wsX12_ages) := goodIn_app (goodIn_of _ (by decide +kernel)) ggX12_oneWeek_X12_ages
theorem dX12_oneWeek_0 : decode cX12_oneWeek 0 = .ok (.iload_n 1, 1) := by decide +kernel
theorem dX12_oneWeek_1 : decode cX12_oneWeek 1 = .ok (.ifCond .ne 8, 3) := by decide +kernel
theorem dX12_oneWeek_4 : decode cX12_oneWeek 4 = .ok (.aload_n 0, 1) := by decide +kernel
theorem dX12_oneWeek_5 : decode cX12_oneWeek 5 = .ok (.iconst 1, 1) := by decide +kernel
theorem dX12_oneWeek_6 : decode cX12_oneWeek 6 = .ok (.invokevirtual 369, 3) := by decide +kernel
theorem dX12_oneWeek_9 : decode cX12_oneWeek 9 = .ok (.iconst 0, 1) := by decide +kernel
theorem dX12_oneWeek_10 : decode cX12_oneWeek 10 = .ok (.istore_n 2, 1) := by decide +kernel
theorem dX12_oneWeek_11 : decode cX12_oneWeek 11 = .ok (.iload_n 2, 1) := by decide +kernel
theorem dX12_oneWeek_12 : decode cX12_oneWeek 12 = .ok (.aload_n 0, 1) := by decide +kernel
theorem dX12_oneWeek_13 : decode cX12_oneWeek 13 = .ok (.invokevirtual 79, 3) := by decide +kernel
theorem dX12_oneWeek_16 : decode cX12_oneWeek 16 = .ok (.if_icmp .ge 46, 3) := by decide +kernel
theorem dX12_oneWeek_19 : decode cX12_oneWeek 19 = .ok (.aload_n 0, 1) := by decide +kernel
theorem dX12_oneWeek_20 : decode cX12_oneWeek 20 = .ok (.iload_n 2, 1) := by decide +kernel
theorem dX12_oneWeek_21 : decode cX12_oneWeek 21 = .ok (.invokestatic 275, 3) := by decide +kernel
theorem dX12_oneWeek_24 : decode cX12_oneWeek 24 = .ok (.invokevirtual 278, 3) := by decide +kernel
theorem dX12_oneWeek_27 : decode cX12_oneWeek 27 = .ok (.ifCond .ne 29, 3) := by decide +kernel
theorem dX12_oneWeek_30 : decode cX12_oneWeek 30 = .ok (.aload_n 0, 1) := by decide +kernel
theorem dX12_oneWeek_31 : decode cX12_oneWeek 31 = .ok (.getfield 13, 3) := by decide +kernel
theorem dX12_oneWeek_34 : decode cX12_oneWeek 34 = .ok (.iload_n 2, 1) := by decide +kernel
theorem dX12_oneWeek_35 : decode cX12_oneWeek 35 = .ok (.iconst 0, 1) := by decide +kernel
theorem dX12_oneWeek_36 : decode cX12_oneWeek 36 = .ok (.invokestatic 66, 3) := by decide +kernel
theorem dX12_oneWeek_39 : decode cX12_oneWeek 39 = .ok (.iconst 0, 1) := by decide +kernel
theorem dX12_oneWeek_40 : decode cX12_oneWeek 40 = .ok (.aload_n 0, 1) := by decide +kernel
theorem dX12_oneWeek_41 : decode cX12_oneWeek 41 = .ok (.iload_n 2, 1) := by decide +kernel
theorem dX12_oneWeek_42 : decode cX12_oneWeek 42 = .ok (.iconst 0, 1) := by decide +kernel
theorem dX12_oneWeek_43 : decode cX12_oneWeek 43 = .ok (.invokevirtual 255, 3) := by decide +kernel
theorem dX12_oneWeek_46 : decode cX12_oneWeek 46 = .ok (.aload_n 0, 1) := by decide +kernel
theorem dX12_oneWeek_47 : decode cX12_oneWeek 47 = .ok (.iload_n 2, 1) := by decide +kernel
theorem dX12_oneWeek_48 : decode cX12_oneWeek 48 = .ok (.invokevirtual 318, 3) := by decide +kernel
theorem dX12_oneWeek_51 : decode cX12_oneWeek 51 = .ok (.isub, 1) := by decide +kernel
theorem dX12_oneWeek_52 : decode cX12_oneWeek 52 = .ok (.invokestatic 263, 3) := by decide +kernel
theorem dX12_oneWeek_55 : decode cX12_oneWeek 55 = .ok (.iastore, 1) := by decide +kernel
theorem dX12_oneWeek_56 : decode cX12_oneWeek 56 = .ok (.iinc 2 1, 3) := by decide +kernel
theorem dX12_oneWeek_59 : decode cX12_oneWeek 59 = .ok (.goto (-48), 3) := by decide +kernel
theorem dX12_oneWeek_62 : decode cX12_oneWeek 62 = .ok (.iload_n 1, 1) := by decide +kernel
theorem dX12_oneWeek_63 : decode cX12_oneWeek 63 = .ok (.ifCond .ne 8, 3) := by decide +kernel
theorem dX12_oneWeek_66 : decode cX12_oneWeek 66 = .ok (.aload_n 0, 1) := by decide +kernel
theorem dX12_oneWeek_67 : decode cX12_oneWeek 67 = .ok (.iconst 0, 1) := by decide +kernel
theorem dX12_oneWeek_68 : decode cX12_oneWeek 68 = .ok (.invokevirtual 369, 3) := by decide +kernel
theorem dX12_oneWeek_71 : decode cX12_oneWeek 71 = .ok (.iconst 0, 1) := by decide +kernel
theorem dX12_oneWeek_72 : decode cX12_oneWeek 72 = .ok (.istore_n 2, 1) := by decide +kernel
theorem dX12_oneWeek_73 : decode cX12_oneWeek 73 = .ok (.iload_n 2, 1) := by decide +kernel
theorem dX12_oneWeek_74 : decode cX12_oneWeek 74 = .ok (.aload_n 0, 1) := by decide +kernel
theorem dX12_oneWeek_75 : decode cX12_oneWeek 75 = .ok (.invokevirtual 55, 3) := by decide +kernel
theorem dX12_oneWeek_78 : decode cX12_oneWeek 78 = .ok (.if_icmp .ge 14, 3) := by decide +kernel
theorem dX12_oneWeek_81 : decode cX12_oneWeek 81 = .ok (.aload_n 0, 1) := by decide +kernel
theorem dX12_oneWeek_82 : decode cX12_oneWeek 82 = .ok (.iload_n 2, 1) := by decide +kernel
theorem dX12_oneWeek_83 : decode cX12_oneWeek 83 = .ok (.invokevirtual 373, 3) := by decide +kernel
theorem dX12_oneWeek_86 : decode cX12_oneWeek 86 = .ok (.iinc 2 1, 3) := by decide +kernel
theorem dX12_oneWeek_89 : decode cX12_oneWeek 89 = .ok (.goto (-16), 3) := by decide +kernel
theorem dX12_oneWeek_92 : decode cX12_oneWeek 92 = .ok (.aload_n 0, 1) := by decide +kernel
theorem dX12_oneWeek_93 : decode cX12_oneWeek 93 = .ok (.getfield 13, 3) := by decide +kernel
theorem dX12_oneWeek_96 : decode cX12_oneWeek 96 = .ok (.iconst 4, 1) := by decide +kernel
theorem dX12_oneWeek_97 : decode cX12_oneWeek 97 = .ok (.sipush 9999, 3) := by decide +kernel
theorem dX12_oneWeek_100 : decode cX12_oneWeek 100 = .ok (.aload_n 0, 1) := by decide +kernel
theorem dX12_oneWeek_101 : decode cX12_oneWeek 101 = .ok (.getfield 13, 3) := by decide +kernel
theorem dX12_oneWeek_104 : decode cX12_oneWeek 104 = .ok (.iconst 4, 1) := by decide +kernel
theorem dX12_oneWeek_105 : decode cX12_oneWeek 105 = .ok (.iaload, 1) := by decide +kernel
theorem dX12_oneWeek_106 : decode cX12_oneWeek 106 = .ok (.iconst 1, 1) := by decide +kernel
theorem dX12_oneWeek_107 : decode cX12_oneWeek 107 = .ok (.iadd, 1) := by decide +kernel
theorem dX12_oneWeek_108 : decode cX12_oneWeek 108 = .ok (.invokestatic 258, 3) := by decide +kernel
theorem dX12_oneWeek_111 : decode cX12_oneWeek 111 = .ok (.iastore, 1) := by decide +kernel
theorem dX12_oneWeek_112 : decode cX12_oneWeek 112 = .ok (.return_, 1) := by decide +kernel
set_option maxRecDepth 20000 in
theorem ggX12_goneOnes_X12_things : GoodIn wsX12_goneOnes wsX12_things := goodIn_r _ [5, 6, 18, 19, 20, 21, 22, 23, 24, 25, 26, 27, 28, 29, 30, 31, 32, 33, 34, 35, 36, 37] (by decide +kernel) (by decide +kernel)
set_option maxRecDepth 20000 in
theorem gX12_goneOnes_X12_things : GoodIn wsX12_goneOnes (wsV RX12 82 RX12 yX12_things wsX12_things) := goodIn_app (goodIn_of _ (by decide +kernel)) ggX12_goneOnes_X12_things
set_option maxRecDepth 20000 in
theorem ggX12_goneOnes_X12_isGone : GoodIn wsX12_goneOnes wsX12_isGone := goodIn_r _ [10, 11, 12, 13, 4, 14, 6, 15, 16, 17, 18, 19, 20, 21, 22, 23, 24, 25, 26, 27, 28, 29, 30, 31, 32, 33, 34, 35, 36, 37] (by decide +kernel) (by decide +kernel)
set_option maxRecDepth 20000 in
theorem gX12_goneOnes_X12_isGone : GoodIn wsX12_goneOnes (wsV RX12 333 RX12 yX12_isGone wsX12_isGone) := goodIn_app (goodIn_of _ (by decide +kernel)) ggX12_goneOnes_X12_isGone
theorem dX12_goneOnes_0 : decode cX12_goneOnes 0 = .ok (.iconst 0, 1) := by decide +kernel
theorem dX12_goneOnes_1 : decode cX12_goneOnes 1 = .ok (.istore_n 1, 1) := by decide +kernel
theorem dX12_goneOnes_2 : decode cX12_goneOnes 2 = .ok (.iconst 0, 1) := by decide +kernel
theorem dX12_goneOnes_3 : decode cX12_goneOnes 3 = .ok (.istore_n 2, 1) := by decide +kernel
theorem dX12_goneOnes_4 : decode cX12_goneOnes 4 = .ok (.iload_n 2, 1) := by decide +kernel
theorem dX12_goneOnes_5 : decode cX12_goneOnes 5 = .ok (.aload_n 0, 1) := by decide +kernel
theorem dX12_goneOnes_6 : decode cX12_goneOnes 6 = .ok (.invokevirtual 82, 3) := by decide +kernel
theorem dX12_goneOnes_9 : decode cX12_goneOnes 9 = .ok (.if_icmp .ge 27, 3) := by decide +kernel
theorem dX12_goneOnes_12 : decode cX12_goneOnes 12 = .ok (.iload_n 1, 1) := by decide +kernel
theorem dX12_goneOnes_13 : decode cX12_goneOnes 13 = .ok (.aload_n 0, 1) := by decide +kernel
theorem dX12_goneOnes_14 : decode cX12_goneOnes 14 = .ok (.iload_n 2, 1) := by decide +kernel
theorem dX12_goneOnes_15 : decode cX12_goneOnes 15 = .ok (.invokevirtual 333, 3) := by decide +kernel
theorem dX12_goneOnes_18 : decode cX12_goneOnes 18 = .ok (.ifCond .eq 9, 3) := by decide +kernel
theorem dX12_goneOnes_21 : decode cX12_goneOnes 21 = .ok (.iconst 1, 1) := by decide +kernel
theorem dX12_goneOnes_22 : decode cX12_goneOnes 22 = .ok (.iload_n 2, 1) := by decide +kernel
theorem dX12_goneOnes_23 : decode cX12_goneOnes 23 = .ok (.ishl, 1) := by decide +kernel
theorem dX12_goneOnes_24 : decode cX12_goneOnes 24 = .ok (.goto 4, 3) := by decide +kernel
theorem dX12_goneOnes_27 : decode cX12_goneOnes 27 = .ok (.iconst 0, 1) := by decide +kernel
theorem dX12_goneOnes_28 : decode cX12_goneOnes 28 = .ok (.ior, 1) := by decide +kernel
theorem dX12_goneOnes_29 : decode cX12_goneOnes 29 = .ok (.istore_n 1, 1) := by decide +kernel
theorem dX12_goneOnes_30 : decode cX12_goneOnes 30 = .ok (.iinc 2 1, 3) := by decide +kernel
theorem dX12_goneOnes_33 : decode cX12_goneOnes 33 = .ok (.goto (-29), 3) := by decide +kernel
theorem dX12_goneOnes_36 : decode cX12_goneOnes 36 = .ok (.iload_n 1, 1) := by decide +kernel
theorem dX12_goneOnes_37 : decode cX12_goneOnes 37 = .ok (.ireturn, 1) := by decide +kernel
set_option maxRecDepth 20000 in
theorem ggX12_brokenOnes_X12_planks : GoodIn wsX12_brokenOnes wsX12_planks := goodIn_r _ [5, 6, 18, 19, 20, 21, 22, 23, 24, 25, 26, 27, 28, 29, 30, 31, 32, 33, 34, 35, 36, 37] (by decide +kernel) (by decide +kernel)
set_option maxRecDepth 20000 in
theorem gX12_brokenOnes_X12_planks : GoodIn wsX12_brokenOnes (wsV RX12 55 RX12 yX12_planks wsX12_planks) := goodIn_app (goodIn_of _ (by decide +kernel)) ggX12_brokenOnes_X12_planks
set_option maxRecDepth 20000 in
theorem ggX12_brokenOnes_X12_isBroken : GoodIn wsX12_brokenOnes wsX12_isBroken := goodIn_r _ [10, 11, 12, 13, 4, 14, 6, 15, 16, 17, 18, 19, 20, 21, 22, 23, 24, 25, 26, 27, 28, 29, 30, 31, 32, 33, 34, 35, 36, 37] (by decide +kernel) (by decide +kernel)
set_option maxRecDepth 20000 in
theorem gX12_brokenOnes_X12_isBroken : GoodIn wsX12_brokenOnes (wsV RX12 278 RX12 yX12_isBroken wsX12_isBroken) := goodIn_app (goodIn_of _ (by decide +kernel)) ggX12_brokenOnes_X12_isBroken
theorem dX12_brokenOnes_0 : decode cX12_brokenOnes 0 = .ok (.iconst 0, 1) := by decide +kernel
theorem dX12_brokenOnes_1 : decode cX12_brokenOnes 1 = .ok (.istore_n 1, 1) := by decide +kernel
theorem dX12_brokenOnes_2 : decode cX12_brokenOnes 2 = .ok (.iconst 0, 1) := by decide +kernel
theorem dX12_brokenOnes_3 : decode cX12_brokenOnes 3 = .ok (.istore_n 2, 1) := by decide +kernel
theorem dX12_brokenOnes_4 : decode cX12_brokenOnes 4 = .ok (.iload_n 2, 1) := by decide +kernel
theorem dX12_brokenOnes_5 : decode cX12_brokenOnes 5 = .ok (.aload_n 0, 1) := by decide +kernel
theorem dX12_brokenOnes_6 : decode cX12_brokenOnes 6 = .ok (.invokevirtual 55, 3) := by decide +kernel
theorem dX12_brokenOnes_9 : decode cX12_brokenOnes 9 = .ok (.if_icmp .ge 27, 3) := by decide +kernel
theorem dX12_brokenOnes_12 : decode cX12_brokenOnes 12 = .ok (.iload_n 1, 1) := by decide +kernel
theorem dX12_brokenOnes_13 : decode cX12_brokenOnes 13 = .ok (.aload_n 0, 1) := by decide +kernel
theorem dX12_brokenOnes_14 : decode cX12_brokenOnes 14 = .ok (.iload_n 2, 1) := by decide +kernel
theorem dX12_brokenOnes_15 : decode cX12_brokenOnes 15 = .ok (.invokevirtual 278, 3) := by decide +kernel
theorem dX12_brokenOnes_18 : decode cX12_brokenOnes 18 = .ok (.ifCond .eq 9, 3) := by decide +kernel
theorem dX12_brokenOnes_21 : decode cX12_brokenOnes 21 = .ok (.iconst 1, 1) := by decide +kernel
theorem dX12_brokenOnes_22 : decode cX12_brokenOnes 22 = .ok (.iload_n 2, 1) := by decide +kernel
theorem dX12_brokenOnes_23 : decode cX12_brokenOnes 23 = .ok (.ishl, 1) := by decide +kernel
theorem dX12_brokenOnes_24 : decode cX12_brokenOnes 24 = .ok (.goto 4, 3) := by decide +kernel
theorem dX12_brokenOnes_27 : decode cX12_brokenOnes 27 = .ok (.iconst 0, 1) := by decide +kernel
theorem dX12_brokenOnes_28 : decode cX12_brokenOnes 28 = .ok (.ior, 1) := by decide +kernel
theorem dX12_brokenOnes_29 : decode cX12_brokenOnes 29 = .ok (.istore_n 1, 1) := by decide +kernel
theorem dX12_brokenOnes_30 : decode cX12_brokenOnes 30 = .ok (.iinc 2 1, 3) := by decide +kernel
theorem dX12_brokenOnes_33 : decode cX12_brokenOnes 33 = .ok (.goto (-29), 3) := by decide +kernel
theorem dX12_brokenOnes_36 : decode cX12_brokenOnes 36 = .ok (.iload_n 1, 1) := by decide +kernel
theorem dX12_brokenOnes_37 : decode cX12_brokenOnes 37 = .ok (.ireturn, 1) := by decide +kernel
set_option maxRecDepth 20000 in
theorem ggX12_weeks_X12_in : GoodIn wsX12_weeks wsX12_in := goodIn_r _ [5] (by decide +kernel) (by decide +kernel)
set_option maxRecDepth 20000 in
theorem gX12_weeks_X12_in : GoodIn wsX12_weeks (va_wsS RX12 75 yX12_in wsX12_in) := goodIn_app (goodIn_of _ (by decide +kernel)) ggX12_weeks_X12_in
set_option maxRecDepth 20000 in
theorem ggX12_weeks_X12_throwsIf : GoodIn wsX12_weeks wsX12_throwsIf := goodIn_r _ [9, 1, 179, 180, 181, 182, 183, 184, 185, 186, 187, 188, 189, 190, 191, 192, 193, 194, 195, 196, 197, 198] (by decide +kernel) (by decide +kernel)
set_option maxRecDepth 20000 in
theorem gX12_weeks_X12_throwsIf : GoodIn wsX12_weeks (wsV RX12 242 RX12 yX12_throwsIf wsX12_throwsIf) := goodIn_app (goodIn_of _ (by decide +kernel)) ggX12_weeks_X12_throwsIf
set_option maxRecDepth 20000 in
theorem ggX12_weeks_X12_remembers : GoodIn wsX12_weeks wsX12_remembers := goodIn_r _ [13, 14, 15, 16, 179, 180, 181, 182, 183, 184, 185, 186, 187, 188, 189, 190, 191, 192, 193, 194, 195, 196, 197, 198] (by decide +kernel) (by decide +kernel)
set_option maxRecDepth 20000 in
theorem gX12_weeks_X12_remembers : GoodIn wsX12_weeks (wsV RX12 336 RX12 yX12_remembers wsX12_remembers) := goodIn_app (goodIn_of _ (by decide +kernel)) ggX12_weeks_X12_remembers
set_option maxRecDepth 20000 in
theorem ggX12_weeks_X12_goneOnes : GoodIn wsX12_weeks wsX12_goneOnes := goodIn_r _ [20, 21, 22, 23, 4, 24, 16, 25, 26, 27, 28, 29, 30, 31, 32, 33, 34, 35, 179, 180, 181, 182, 183, 184, 185, 186, 187, 188, 189, 190, 191, 192, 193, 194, 195, 196, 197, 198] (by decide +kernel) (by decide +kernel)
set_option maxRecDepth 20000 in
theorem gX12_weeks_X12_goneOnes : GoodIn wsX12_weeks (wsV RX12 377 RX12 yX12_goneOnes wsX12_goneOnes) := goodIn_app (goodIn_of _ (by decide +kernel)) ggX12_weeks_X12_goneOnes
set_option maxRecDepth 20000 in
theorem ggX12_weeks_J6_bitCount_0f7a4 : GoodIn wsX12_weeks wsJ6_bitCount_0f7a4 := goodIn_r _ [39, 40, 41, 42] (by decide +kernel) (by decide +kernel)
set_option maxRecDepth 20000 in
theorem gX12_weeks_J6_bitCount_0f7a4 : GoodIn wsX12_weeks (va_wsS RX12 358 yJ6_bitCount_0f7a4 wsJ6_bitCount_0f7a4) := goodIn_app (goodIn_of _ (by decide +kernel)) ggX12_weeks_J6_bitCount_0f7a4
set_option maxRecDepth 20000 in
theorem ggX12_weeks_X12_oneWeek : GoodIn wsX12_weeks wsX12_oneWeek := goodIn_r _ [46, 16, 47, 48, 49, 50, 51, 52, 53, 54, 55, 56, 4, 57, 58, 59, 60, 61, 62, 63, 64, 65, 66, 67, 68, 69, 70, 71, 72, 73, 74, 75, 76, 77, 78, 79, 80, 81, 82, 83, 84, 85, 21, 22, 23, 24, 29, 30, 31, 32, 33, 34, 35, 86, 87, 88, 89, 90, 91, 92, 93, 94, 95, 96, 97, 98, 99, 100, 101, 102, 103, 104, 105, 106, 107, 108, 109, 110, 111, 112, 113, 114, 115, 116, 117, 118, 119, 120, 121, 122, 123, 124, 125, 126, 127, 128, 129, 130, 131, 132, 133, 134, 135, 136, 137, 138, 139, 140, 141, 142, 143, 144, 145, 146, 147, 148, 149, 150, 151, 152, 153, 154, 155, 156, 157, 158, 159, 160, 161, 162, 163, 164, 165, 166, 167, 168, 169, 170, 171, 172, 173, 174, 175, 176, 177, 178, 179, 180, 181, 182, 183, 184, 185, 186, 187, 188, 189, 190, 191, 192, 193, 194, 195, 196, 197, 198] (by decide +kernel) (by decide +kernel)
set_option maxRecDepth 20000 in
theorem gX12_weeks_X12_oneWeek : GoodIn wsX12_weeks (wsV RX12 380 RX12 yX12_oneWeek wsX12_oneWeek) := goodIn_app (goodIn_of _ (by decide +kernel)) ggX12_weeks_X12_oneWeek
theorem dX12_weeks_0 : decode cX12_weeks 0 = .ok (.aload_n 0, 1) := by decide +kernel
theorem dX12_weeks_1 : decode cX12_weeks 1 = .ok (.iconst 0, 1) := by decide +kernel
theorem dX12_weeks_2 : decode cX12_weeks 2 = .ok (.putfield 3, 3) := by decide +kernel
theorem dX12_weeks_5 : decode cX12_weeks 5 = .ok (.aload_n 0, 1) := by decide +kernel
theorem dX12_weeks_6 : decode cX12_weeks 6 = .ok (.iload_n 1, 1) := by decide +kernel
theorem dX12_weeks_7 : decode cX12_weeks 7 = .ok (.iconst 1, 1) := by decide +kernel
theorem dX12_weeks_8 : decode cX12_weeks 8 = .ok (.bipush 60, 2) := by decide +kernel
theorem dX12_weeks_10 : decode cX12_weeks 10 = .ok (.invokestatic 75, 3) := by decide +kernel
theorem dX12_weeks_13 : decode cX12_weeks 13 = .ok (.ifCond .ne 7, 3) := by decide +kernel
theorem dX12_weeks_16 : decode cX12_weeks 16 = .ok (.iconst 1, 1) := by decide +kernel
theorem dX12_weeks_17 : decode cX12_weeks 17 = .ok (.goto 4, 3) := by decide +kernel
theorem dX12_weeks_20 : decode cX12_weeks 20 = .ok (.iconst 0, 1) := by decide +kernel
theorem dX12_weeks_21 : decode cX12_weeks 21 = .ok (.iconst 1, 1) := by decide +kernel
theorem dX12_weeks_22 : decode cX12_weeks 22 = .ok (.invokevirtual 242, 3) := by decide +kernel
theorem dX12_weeks_25 : decode cX12_weeks 25 = .ok (.ifCond .eq 5, 3) := by decide +kernel
theorem dX12_weeks_28 : decode cX12_weeks 28 = .ok (.iconst 0, 1) := by decide +kernel
theorem dX12_weeks_29 : decode cX12_weeks 29 = .ok (.ireturn, 1) := by decide +kernel
theorem dX12_weeks_30 : decode cX12_weeks 30 = .ok (.aload_n 0, 1) := by decide +kernel
theorem dX12_weeks_31 : decode cX12_weeks 31 = .ok (.invokevirtual 336, 3) := by decide +kernel
theorem dX12_weeks_34 : decode cX12_weeks 34 = .ok (.aload_n 0, 1) := by decide +kernel
theorem dX12_weeks_35 : decode cX12_weeks 35 = .ok (.invokevirtual 377, 3) := by decide +kernel
theorem dX12_weeks_38 : decode cX12_weeks 38 = .ok (.invokestatic 358, 3) := by decide +kernel
theorem dX12_weeks_41 : decode cX12_weeks 41 = .ok (.istore_n 2, 1) := by decide +kernel
theorem dX12_weeks_42 : decode cX12_weeks 42 = .ok (.iconst 0, 1) := by decide +kernel
theorem dX12_weeks_43 : decode cX12_weeks 43 = .ok (.istore_n 3, 1) := by decide +kernel
theorem dX12_weeks_44 : decode cX12_weeks 44 = .ok (.iload_n 3, 1) := by decide +kernel
theorem dX12_weeks_45 : decode cX12_weeks 45 = .ok (.iload_n 1, 1) := by decide +kernel
theorem dX12_weeks_46 : decode cX12_weeks 46 = .ok (.if_icmp .ge 14, 3) := by decide +kernel
theorem dX12_weeks_49 : decode cX12_weeks 49 = .ok (.aload_n 0, 1) := by decide +kernel
theorem dX12_weeks_50 : decode cX12_weeks 50 = .ok (.iconst 0, 1) := by decide +kernel
theorem dX12_weeks_51 : decode cX12_weeks 51 = .ok (.invokevirtual 380, 3) := by decide +kernel
theorem dX12_weeks_54 : decode cX12_weeks 54 = .ok (.iinc 3 1, 3) := by decide +kernel
theorem dX12_weeks_57 : decode cX12_weeks 57 = .ok (.goto (-13), 3) := by decide +kernel
theorem dX12_weeks_60 : decode cX12_weeks 60 = .ok (.aload_n 0, 1) := by decide +kernel
theorem dX12_weeks_61 : decode cX12_weeks 61 = .ok (.invokevirtual 377, 3) := by decide +kernel
theorem dX12_weeks_64 : decode cX12_weeks 64 = .ok (.invokestatic 358, 3) := by decide +kernel
theorem dX12_weeks_67 : decode cX12_weeks 67 = .ok (.iload_n 2, 1) := by decide +kernel
theorem dX12_weeks_68 : decode cX12_weeks 68 = .ok (.isub, 1) := by decide +kernel
theorem dX12_weeks_69 : decode cX12_weeks 69 = .ok (.ireturn, 1) := by decide +kernel
set_option maxRecDepth 20000 in
theorem ggX12_goesAhead_X12_keepsAll : GoodIn wsX12_goesAhead wsX12_keepsAll := goodIn_r _ [5, 6, 7, 155, 156, 157, 158, 159, 160, 161, 162, 163, 164, 165, 166, 167, 168, 169, 170, 171, 172, 173, 174] (by decide +kernel) (by decide +kernel)
set_option maxRecDepth 20000 in
theorem gX12_goesAhead_X12_keepsAll : GoodIn wsX12_goesAhead (wsV RX12 349 RX12 yX12_keepsAll wsX12_keepsAll) := goodIn_app (goodIn_of _ (by decide +kernel)) ggX12_goesAhead_X12_keepsAll
set_option maxRecDepth 20000 in
theorem ggX12_goesAhead_X12_oneWeek : GoodIn wsX12_goesAhead wsX12_oneWeek := goodIn_r _ [11, 7, 12, 13, 14, 15, 16, 17, 18, 19, 20, 21, 4, 22, 23, 24, 25, 26, 27, 28, 29, 30, 31, 32, 33, 34, 35, 36, 37, 38, 39, 40, 41, 42, 43, 44, 45, 46, 47, 48, 49, 50, 51, 52, 53, 54, 55, 56, 57, 58, 59, 60, 61, 62, 63, 64, 65, 66, 67, 68, 69, 70, 71, 72, 73, 74, 75, 76, 77, 78, 79, 80, 81, 82, 83, 84, 85, 86, 87, 88, 89, 90, 91, 92, 93, 94, 95, 96, 97, 98, 99, 100, 101, 102, 103, 104, 105, 106, 107, 108, 109, 110, 111, 112, 113, 114, 115, 116, 117, 118, 119, 120, 121, 122, 123, 124, 125, 126, 127, 128, 129, 130, 131, 132, 133, 134, 135, 136, 137, 138, 139, 140, 141, 142, 143, 144, 145, 146, 147, 148, 149, 150, 151, 152, 153, 154, 155, 156, 157, 158, 159, 160, 161, 162, 163, 164, 165, 166, 167, 168, 169, 170, 171, 172, 173, 174] (by decide +kernel) (by decide +kernel)
set_option maxRecDepth 20000 in
theorem gX12_goesAhead_X12_oneWeek : GoodIn wsX12_goesAhead (wsV RX12 380 RX12 yX12_oneWeek wsX12_oneWeek) := goodIn_app (goodIn_of _ (by decide +kernel)) ggX12_goesAhead_X12_oneWeek
theorem dX12_goesAhead_0 : decode cX12_goesAhead 0 = .ok (.aload_n 0, 1) := by decide +kernel
theorem dX12_goesAhead_1 : decode cX12_goesAhead 1 = .ok (.invokevirtual 349, 3) := by decide +kernel
theorem dX12_goesAhead_4 : decode cX12_goesAhead 4 = .ok (.iconst 0, 1) := by decide +kernel
theorem dX12_goesAhead_5 : decode cX12_goesAhead 5 = .ok (.istore_n 2, 1) := by decide +kernel
theorem dX12_goesAhead_6 : decode cX12_goesAhead 6 = .ok (.iload_n 2, 1) := by decide +kernel
theorem dX12_goesAhead_7 : decode cX12_goesAhead 7 = .ok (.iload_n 1, 1) := by decide +kernel
theorem dX12_goesAhead_8 : decode cX12_goesAhead 8 = .ok (.if_icmp .ge 14, 3) := by decide +kernel
theorem dX12_goesAhead_11 : decode cX12_goesAhead 11 = .ok (.aload_n 0, 1) := by decide +kernel
theorem dX12_goesAhead_12 : decode cX12_goesAhead 12 = .ok (.iconst 1, 1) := by decide +kernel
theorem dX12_goesAhead_13 : decode cX12_goesAhead 13 = .ok (.invokevirtual 380, 3) := by decide +kernel
theorem dX12_goesAhead_16 : decode cX12_goesAhead 16 = .ok (.iinc 2 1, 3) := by decide +kernel
theorem dX12_goesAhead_19 : decode cX12_goesAhead 19 = .ok (.goto (-13), 3) := by decide +kernel
theorem dX12_goesAhead_22 : decode cX12_goesAhead 22 = .ok (.return_, 1) := by decide +kernel
set_option maxRecDepth 20000 in
theorem ggX12_ahead_X12_noHouse : GoodIn wsX12_ahead wsX12_noHouse := goodIn_r _ [6, 7, 8, 9, 5, 10, 11, 12, 13, 14, 15, 16, 17, 18, 175, 176, 177, 178, 179, 180, 181, 182, 183, 184, 185, 186, 187, 188, 189, 190, 191, 192, 193, 194] (by decide +kernel) (by decide +kernel)
set_option maxRecDepth 20000 in
theorem gX12_ahead_X12_noHouse : GoodIn wsX12_ahead (wsV RX12 315 RX12 yX12_noHouse wsX12_noHouse) := goodIn_app (goodIn_of _ (by decide +kernel)) ggX12_ahead_X12_noHouse
set_option maxRecDepth 20000 in
theorem ggX12_ahead_X12_throwsIf : GoodIn wsX12_ahead wsX12_throwsIf := goodIn_r _ [22, 1, 175, 176, 177, 178, 179, 180, 181, 182, 183, 184, 185, 186, 187, 188, 189, 190, 191, 192, 193, 194] (by decide +kernel) (by decide +kernel)
set_option maxRecDepth 20000 in
theorem gX12_ahead_X12_throwsIf : GoodIn wsX12_ahead (wsV RX12 242 RX12 yX12_throwsIf wsX12_throwsIf) := goodIn_app (goodIn_of _ (by decide +kernel)) ggX12_ahead_X12_throwsIf
set_option maxRecDepth 20000 in
theorem ggX12_ahead_X12_in : GoodIn wsX12_ahead wsX12_in := goodIn_r _ [18] (by decide +kernel) (by decide +kernel)
set_option maxRecDepth 20000 in
theorem gX12_ahead_X12_in : GoodIn wsX12_ahead (va_wsS RX12 75 yX12_in wsX12_in) := goodIn_app (goodIn_of _ (by decide +kernel)) ggX12_ahead_X12_in
set_option maxRecDepth 20000 in
theorem ggX12_ahead_X12_goesAhead : GoodIn wsX12_ahead wsX12_goesAhead := goodIn_r _ [26, 27, 28, 29, 5, 30, 31, 15, 32, 33, 34, 35, 36, 37, 38, 39, 40, 41, 42, 43, 44, 45, 46, 47, 48, 49, 50, 51, 52, 53, 54, 55, 7, 8, 9, 10, 11, 12, 13, 14, 56, 57, 58, 59, 60, 61, 62, 63, 64, 65, 66, 67, 68, 69, 70, 71, 72, 73, 74, 75, 76, 77, 78, 79, 80, 81, 82, 83, 84, 85, 86, 87, 88, 89, 90, 91, 92, 93, 94, 95, 96, 97, 98, 99, 100, 101, 102, 103, 104, 105, 106, 107, 108, 109, 110, 111, 112, 113, 114, 115, 116, 117, 118, 119, 120, 121, 122, 123, 124, 125, 126, 127, 128, 129, 130, 131, 132, 133, 134, 135, 136, 137, 138, 139, 140, 141, 142, 143, 144, 145, 146, 147, 148, 149, 150, 151, 152, 153, 154, 155, 156, 157, 158, 159, 160, 161, 162, 163, 164, 165, 166, 167, 168, 169, 170, 175, 176, 177, 178, 179, 180, 181, 182, 183, 184, 185, 186, 187, 188, 189, 190, 191, 192, 193, 194] (by decide +kernel) (by decide +kernel)
set_option maxRecDepth 20000 in
theorem gX12_ahead_X12_goesAhead : GoodIn wsX12_ahead (wsV RX12 383 RX12 yX12_goesAhead wsX12_goesAhead) := goodIn_app (goodIn_of _ (by decide +kernel)) ggX12_ahead_X12_goesAhead
set_option maxRecDepth 20000 in
theorem ggX12_ahead_X12_of : GoodIn wsX12_ahead wsX12_of := goodIn_r _ [132, 15, 133, 134, 5, 135, 175, 176, 177, 178, 179, 180, 181, 182, 183, 184, 185, 186, 187, 188, 189, 190, 191, 192, 193, 194] (by decide +kernel) (by decide +kernel)
set_option maxRecDepth 20000 in
theorem gX12_ahead_X12_of : GoodIn wsX12_ahead (wsV RX12 255 RX12 yX12_of wsX12_of) := goodIn_app (goodIn_of _ (by decide +kernel)) ggX12_ahead_X12_of
set_option maxRecDepth 20000 in
theorem ggX12_ahead_X12_heightOf : GoodIn wsX12_ahead wsX12_heightOf := goodIn_r _ [98, 99, 100, 5, 101, 102, 103, 104, 105, 106, 107, 108, 109, 15, 110, 111, 112, 113, 114, 115, 116, 117, 118, 119, 120, 121, 122, 123, 124, 63, 64, 65, 66, 67, 68, 69, 70, 71, 72, 73, 74, 75, 76, 77, 125, 126, 127, 128, 56, 57, 58, 129, 130, 131, 132, 133, 134, 135, 136, 137, 138, 139, 40, 41, 38, 42, 36, 37, 39, 140, 141, 142, 175, 176, 177, 178, 179, 180, 181, 182, 183, 184, 185, 186, 187, 188, 189, 190, 191, 192, 193, 194] (by decide +kernel) (by decide +kernel)
set_option maxRecDepth 20000 in
theorem gX12_ahead_X12_heightOf : GoodIn wsX12_ahead (wsV RX12 287 RX12 yX12_heightOf wsX12_heightOf) := goodIn_app (goodIn_of _ (by decide +kernel)) ggX12_ahead_X12_heightOf
set_option maxRecDepth 20000 in
theorem ggX12_ahead_X12_bringsBack : GoodIn wsX12_ahead wsX12_bringsBack := goodIn_r _ [174, 15, 31, 175, 176, 177, 178, 179, 180, 181, 182, 183, 184, 185, 186, 187, 188, 189, 190, 191, 192, 193, 194] (by decide +kernel) (by decide +kernel)
set_option maxRecDepth 20000 in
theorem gX12_ahead_X12_bringsBack : GoodIn wsX12_ahead (wsV RX12 355 RX12 yX12_bringsBack wsX12_bringsBack) := goodIn_app (goodIn_of _ (by decide +kernel)) ggX12_ahead_X12_bringsBack
theorem dX12_ahead_0 : decode cX12_ahead 0 = .ok (.aload_n 0, 1) := by decide +kernel
theorem dX12_ahead_1 : decode cX12_ahead 1 = .ok (.iconst 0, 1) := by decide +kernel
theorem dX12_ahead_2 : decode cX12_ahead 2 = .ok (.putfield 3, 3) := by decide +kernel
theorem dX12_ahead_5 : decode cX12_ahead 5 = .ok (.aload_n 0, 1) := by decide +kernel
theorem dX12_ahead_6 : decode cX12_ahead 6 = .ok (.aload_n 0, 1) := by decide +kernel
theorem dX12_ahead_7 : decode cX12_ahead 7 = .ok (.iload_n 1, 1) := by decide +kernel
theorem dX12_ahead_8 : decode cX12_ahead 8 = .ok (.invokevirtual 315, 3) := by decide +kernel
theorem dX12_ahead_11 : decode cX12_ahead 11 = .ok (.iconst 1, 1) := by decide +kernel
theorem dX12_ahead_12 : decode cX12_ahead 12 = .ok (.invokevirtual 242, 3) := by decide +kernel
theorem dX12_ahead_15 : decode cX12_ahead 15 = .ok (.ifCond .ne 26, 3) := by decide +kernel
theorem dX12_ahead_18 : decode cX12_ahead 18 = .ok (.aload_n 0, 1) := by decide +kernel
theorem dX12_ahead_19 : decode cX12_ahead 19 = .ok (.iload_n 2, 1) := by decide +kernel
theorem dX12_ahead_20 : decode cX12_ahead 20 = .ok (.iconst 0, 1) := by decide +kernel
theorem dX12_ahead_21 : decode cX12_ahead 21 = .ok (.bipush 100, 2) := by decide +kernel
theorem dX12_ahead_23 : decode cX12_ahead 23 = .ok (.invokestatic 75, 3) := by decide +kernel
theorem dX12_ahead_26 : decode cX12_ahead 26 = .ok (.ifCond .ne 7, 3) := by decide +kernel
theorem dX12_ahead_29 : decode cX12_ahead 29 = .ok (.iconst 1, 1) := by decide +kernel
theorem dX12_ahead_30 : decode cX12_ahead 30 = .ok (.goto 4, 3) := by decide +kernel
theorem dX12_ahead_33 : decode cX12_ahead 33 = .ok (.iconst 0, 1) := by decide +kernel
theorem dX12_ahead_34 : decode cX12_ahead 34 = .ok (.iconst 2, 1) := by decide +kernel
theorem dX12_ahead_35 : decode cX12_ahead 35 = .ok (.invokevirtual 242, 3) := by decide +kernel
theorem dX12_ahead_38 : decode cX12_ahead 38 = .ok (.ifCond .eq 5, 3) := by decide +kernel
theorem dX12_ahead_41 : decode cX12_ahead 41 = .ok (.iconst 0, 1) := by decide +kernel
theorem dX12_ahead_42 : decode cX12_ahead 42 = .ok (.ireturn, 1) := by decide +kernel
theorem dX12_ahead_43 : decode cX12_ahead 43 = .ok (.aload_n 0, 1) := by decide +kernel
theorem dX12_ahead_44 : decode cX12_ahead 44 = .ok (.iload_n 2, 1) := by decide +kernel
theorem dX12_ahead_45 : decode cX12_ahead 45 = .ok (.invokevirtual 383, 3) := by decide +kernel
theorem dX12_ahead_48 : decode cX12_ahead 48 = .ok (.iload_n 3, 1) := by decide +kernel
theorem dX12_ahead_49 : decode cX12_ahead 49 = .ok (.ifCond .eq 12, 3) := by decide +kernel
theorem dX12_ahead_52 : decode cX12_ahead 52 = .ok (.aload_n 0, 1) := by decide +kernel
theorem dX12_ahead_53 : decode cX12_ahead 53 = .ok (.iload_n 1, 1) := by decide +kernel
theorem dX12_ahead_54 : decode cX12_ahead 54 = .ok (.iconst 0, 1) := by decide +kernel
theorem dX12_ahead_55 : decode cX12_ahead 55 = .ok (.invokevirtual 255, 3) := by decide +kernel
theorem dX12_ahead_58 : decode cX12_ahead 58 = .ok (.goto 8, 3) := by decide +kernel
theorem dX12_ahead_61 : decode cX12_ahead 61 = .ok (.aload_n 0, 1) := by decide +kernel
theorem dX12_ahead_62 : decode cX12_ahead 62 = .ok (.iload_n 1, 1) := by decide +kernel
theorem dX12_ahead_63 : decode cX12_ahead 63 = .ok (.invokevirtual 287, 3) := by decide +kernel
theorem dX12_ahead_66 : decode cX12_ahead 66 = .ok (.istore 4, 2) := by decide +kernel
theorem dX12_ahead_68 : decode cX12_ahead 68 = .ok (.aload_n 0, 1) := by decide +kernel
theorem dX12_ahead_69 : decode cX12_ahead 69 = .ok (.invokevirtual 355, 3) := by decide +kernel
theorem dX12_ahead_72 : decode cX12_ahead 72 = .ok (.iload 4, 2) := by decide +kernel
theorem dX12_ahead_74 : decode cX12_ahead 74 = .ok (.ireturn, 1) := by decide +kernel
set_option maxRecDepth 20000 in
theorem ggX12_rent_X12_noHouse : GoodIn wsX12_rent wsX12_noHouse := goodIn_r _ [6, 7, 8, 9, 5, 10, 11, 12, 13, 14, 15, 16, 17, 18, 175, 176, 177, 178, 179, 180, 181, 182, 183, 184, 185, 186, 187, 188, 189, 190, 191, 192, 193, 194] (by decide +kernel) (by decide +kernel)
set_option maxRecDepth 20000 in
theorem gX12_rent_X12_noHouse : GoodIn wsX12_rent (wsV RX12 315 RX12 yX12_noHouse wsX12_noHouse) := goodIn_app (goodIn_of _ (by decide +kernel)) ggX12_rent_X12_noHouse
set_option maxRecDepth 20000 in
theorem ggX12_rent_X12_throwsIf : GoodIn wsX12_rent wsX12_throwsIf := goodIn_r _ [22, 1, 175, 176, 177, 178, 179, 180, 181, 182, 183, 184, 185, 186, 187, 188, 189, 190, 191, 192, 193, 194] (by decide +kernel) (by decide +kernel)
set_option maxRecDepth 20000 in
theorem gX12_rent_X12_throwsIf : GoodIn wsX12_rent (wsV RX12 242 RX12 yX12_throwsIf wsX12_throwsIf) := goodIn_app (goodIn_of _ (by decide +kernel)) ggX12_rent_X12_throwsIf
set_option maxRecDepth 20000 in
theorem ggX12_rent_X12_in : GoodIn wsX12_rent wsX12_in := goodIn_r _ [18] (by decide +kernel) (by decide +kernel)
set_option maxRecDepth 20000 in
theorem gX12_rent_X12_in : GoodIn wsX12_rent (va_wsS RX12 75 yX12_in wsX12_in) := goodIn_app (goodIn_of _ (by decide +kernel)) ggX12_rent_X12_in
set_option maxRecDepth 20000 in
theorem ggX12_rent_X12_of : GoodIn wsX12_rent wsX12_of := goodIn_r _ [26, 15, 27, 28, 5, 29, 175, 176, 177, 178, 179, 180, 181, 182, 183, 184, 185, 186, 187, 188, 189, 190, 191, 192, 193, 194] (by decide +kernel) (by decide +kernel)
set_option maxRecDepth 20000 in
theorem gX12_rent_X12_of : GoodIn wsX12_rent (wsV RX12 255 RX12 yX12_of wsX12_of) := goodIn_app (goodIn_of _ (by decide +kernel)) ggX12_rent_X12_of
set_option maxRecDepth 20000 in
theorem ggX12_rent_X12_goesAhead : GoodIn wsX12_rent wsX12_goesAhead := goodIn_r _ [33, 34, 35, 36, 5, 37, 38, 15, 39, 40, 41, 42, 43, 44, 45, 46, 47, 48, 49, 50, 51, 52, 53, 54, 55, 56, 57, 58, 59, 60, 61, 62, 7, 8, 9, 10, 11, 12, 13, 14, 63, 64, 65, 66, 67, 68, 69, 70, 71, 72, 73, 74, 75, 76, 77, 78, 79, 80, 81, 82, 83, 84, 85, 86, 87, 88, 89, 90, 91, 92, 93, 94, 95, 96, 97, 98, 99, 100, 101, 102, 103, 104, 105, 106, 107, 108, 109, 110, 111, 112, 113, 114, 115, 116, 117, 118, 119, 120, 121, 122, 123, 124, 125, 126, 127, 128, 129, 130, 131, 132, 133, 134, 135, 23, 24, 25, 26, 27, 28, 29, 136, 137, 138, 139, 140, 141, 142, 143, 144, 145, 146, 147, 148, 149, 150, 151, 152, 153, 154, 155, 156, 157, 158, 159, 160, 161, 162, 163, 164, 165, 166, 167, 168, 169, 170, 175, 176, 177, 178, 179, 180, 181, 182, 183, 184, 185, 186, 187, 188, 189, 190, 191, 192, 193, 194] (by decide +kernel) (by decide +kernel)
set_option maxRecDepth 20000 in
theorem gX12_rent_X12_goesAhead : GoodIn wsX12_rent (wsV RX12 383 RX12 yX12_goesAhead wsX12_goesAhead) := goodIn_app (goodIn_of _ (by decide +kernel)) ggX12_rent_X12_goesAhead
set_option maxRecDepth 20000 in
theorem ggX12_rent_X12_bringsBack : GoodIn wsX12_rent wsX12_bringsBack := goodIn_r _ [174, 15, 38, 175, 176, 177, 178, 179, 180, 181, 182, 183, 184, 185, 186, 187, 188, 189, 190, 191, 192, 193, 194] (by decide +kernel) (by decide +kernel)
set_option maxRecDepth 20000 in
theorem gX12_rent_X12_bringsBack : GoodIn wsX12_rent (wsV RX12 355 RX12 yX12_bringsBack wsX12_bringsBack) := goodIn_app (goodIn_of _ (by decide +kernel)) ggX12_rent_X12_bringsBack
theorem dX12_rent_0 : decode cX12_rent 0 = .ok (.aload_n 0, 1) := by decide +kernel
theorem dX12_rent_1 : decode cX12_rent 1 = .ok (.iconst 0, 1) := by decide +kernel
theorem dX12_rent_2 : decode cX12_rent 2 = .ok (.putfield 3, 3) := by decide +kernel
theorem dX12_rent_5 : decode cX12_rent 5 = .ok (.aload_n 0, 1) := by decide +kernel
theorem dX12_rent_6 : decode cX12_rent 6 = .ok (.aload_n 0, 1) := by decide +kernel
theorem dX12_rent_7 : decode cX12_rent 7 = .ok (.iload_n 1, 1) := by decide +kernel
theorem dX12_rent_8 : decode cX12_rent 8 = .ok (.invokevirtual 315, 3) := by decide +kernel
theorem dX12_rent_11 : decode cX12_rent 11 = .ok (.iconst 1, 1) := by decide +kernel
theorem dX12_rent_12 : decode cX12_rent 12 = .ok (.invokevirtual 242, 3) := by decide +kernel
theorem dX12_rent_15 : decode cX12_rent 15 = .ok (.ifCond .ne 26, 3) := by decide +kernel
theorem dX12_rent_18 : decode cX12_rent 18 = .ok (.aload_n 0, 1) := by decide +kernel
theorem dX12_rent_19 : decode cX12_rent 19 = .ok (.iload_n 2, 1) := by decide +kernel
theorem dX12_rent_20 : decode cX12_rent 20 = .ok (.iconst 0, 1) := by decide +kernel
theorem dX12_rent_21 : decode cX12_rent 21 = .ok (.bipush 100, 2) := by decide +kernel
theorem dX12_rent_23 : decode cX12_rent 23 = .ok (.invokestatic 75, 3) := by decide +kernel
theorem dX12_rent_26 : decode cX12_rent 26 = .ok (.ifCond .ne 7, 3) := by decide +kernel
theorem dX12_rent_29 : decode cX12_rent 29 = .ok (.iconst 1, 1) := by decide +kernel
theorem dX12_rent_30 : decode cX12_rent 30 = .ok (.goto 4, 3) := by decide +kernel
theorem dX12_rent_33 : decode cX12_rent 33 = .ok (.iconst 0, 1) := by decide +kernel
theorem dX12_rent_34 : decode cX12_rent 34 = .ok (.iconst 2, 1) := by decide +kernel
theorem dX12_rent_35 : decode cX12_rent 35 = .ok (.invokevirtual 242, 3) := by decide +kernel
theorem dX12_rent_38 : decode cX12_rent 38 = .ok (.ifCond .eq 5, 3) := by decide +kernel
theorem dX12_rent_41 : decode cX12_rent 41 = .ok (.iconst 0, 1) := by decide +kernel
theorem dX12_rent_42 : decode cX12_rent 42 = .ok (.ireturn, 1) := by decide +kernel
theorem dX12_rent_43 : decode cX12_rent 43 = .ok (.aload_n 0, 1) := by decide +kernel
theorem dX12_rent_44 : decode cX12_rent 44 = .ok (.iload_n 1, 1) := by decide +kernel
theorem dX12_rent_45 : decode cX12_rent 45 = .ok (.iconst 0, 1) := by decide +kernel
theorem dX12_rent_46 : decode cX12_rent 46 = .ok (.invokevirtual 255, 3) := by decide +kernel
theorem dX12_rent_49 : decode cX12_rent 49 = .ok (.istore_n 3, 1) := by decide +kernel
theorem dX12_rent_50 : decode cX12_rent 50 = .ok (.aload_n 0, 1) := by decide +kernel
theorem dX12_rent_51 : decode cX12_rent 51 = .ok (.iload_n 2, 1) := by decide +kernel
theorem dX12_rent_52 : decode cX12_rent 52 = .ok (.invokevirtual 383, 3) := by decide +kernel
theorem dX12_rent_55 : decode cX12_rent 55 = .ok (.iload_n 3, 1) := by decide +kernel
theorem dX12_rent_56 : decode cX12_rent 56 = .ok (.aload_n 0, 1) := by decide +kernel
theorem dX12_rent_57 : decode cX12_rent 57 = .ok (.iload_n 1, 1) := by decide +kernel
theorem dX12_rent_58 : decode cX12_rent 58 = .ok (.iconst 0, 1) := by decide +kernel
theorem dX12_rent_59 : decode cX12_rent 59 = .ok (.invokevirtual 255, 3) := by decide +kernel
theorem dX12_rent_62 : decode cX12_rent 62 = .ok (.isub, 1) := by decide +kernel
theorem dX12_rent_63 : decode cX12_rent 63 = .ok (.istore 4, 2) := by decide +kernel
theorem dX12_rent_65 : decode cX12_rent 65 = .ok (.aload_n 0, 1) := by decide +kernel
theorem dX12_rent_66 : decode cX12_rent 66 = .ok (.invokevirtual 355, 3) := by decide +kernel
theorem dX12_rent_69 : decode cX12_rent 69 = .ok (.iload 4, 2) := by decide +kernel
theorem dX12_rent_71 : decode cX12_rent 71 = .ok (.ireturn, 1) := by decide +kernel
set_option maxRecDepth 20000 in
theorem ggX12_isPoor_X12_houses : GoodIn wsX12_isPoor wsX12_houses := goodIn_r _ [5, 6, 7, 8, 4, 9, 10, 18, 19, 20, 21, 22, 23, 24, 25, 26, 27, 28, 29, 30, 31, 32, 33, 34, 35, 36, 37] (by decide +kernel) (by decide +kernel)
set_option maxRecDepth 20000 in
theorem gX12_isPoor_X12_houses : GoodIn wsX12_isPoor (wsV RX12 79 RX12 yX12_houses wsX12_houses) := goodIn_app (goodIn_of _ (by decide +kernel)) ggX12_isPoor_X12_houses
set_option maxRecDepth 20000 in
theorem ggX12_isPoor_X12_of : GoodIn wsX12_isPoor wsX12_of := goodIn_r _ [14, 10, 15, 16, 4, 17, 18, 19, 20, 21, 22, 23, 24, 25, 26, 27, 28, 29, 30, 31, 32, 33, 34, 35, 36, 37] (by decide +kernel) (by decide +kernel)
set_option maxRecDepth 20000 in
theorem gX12_isPoor_X12_of : GoodIn wsX12_isPoor (wsV RX12 255 RX12 yX12_of wsX12_of) := goodIn_app (goodIn_of _ (by decide +kernel)) ggX12_isPoor_X12_of
theorem dX12_isPoor_0 : decode cX12_isPoor 0 = .ok (.iconst 0, 1) := by decide +kernel
theorem dX12_isPoor_1 : decode cX12_isPoor 1 = .ok (.istore_n 1, 1) := by decide +kernel
theorem dX12_isPoor_2 : decode cX12_isPoor 2 = .ok (.iconst 0, 1) := by decide +kernel
theorem dX12_isPoor_3 : decode cX12_isPoor 3 = .ok (.istore_n 2, 1) := by decide +kernel
theorem dX12_isPoor_4 : decode cX12_isPoor 4 = .ok (.iload_n 2, 1) := by decide +kernel
theorem dX12_isPoor_5 : decode cX12_isPoor 5 = .ok (.aload_n 0, 1) := by decide +kernel
theorem dX12_isPoor_6 : decode cX12_isPoor 6 = .ok (.invokevirtual 79, 3) := by decide +kernel
theorem dX12_isPoor_9 : decode cX12_isPoor 9 = .ok (.if_icmp .ge 28, 3) := by decide +kernel
theorem dX12_isPoor_12 : decode cX12_isPoor 12 = .ok (.iload_n 1, 1) := by decide +kernel
theorem dX12_isPoor_13 : decode cX12_isPoor 13 = .ok (.ifCond .ne 12, 3) := by decide +kernel
theorem dX12_isPoor_16 : decode cX12_isPoor 16 = .ok (.aload_n 0, 1) := by decide +kernel
theorem dX12_isPoor_17 : decode cX12_isPoor 17 = .ok (.iload_n 2, 1) := by decide +kernel
theorem dX12_isPoor_18 : decode cX12_isPoor 18 = .ok (.iconst 0, 1) := by decide +kernel
theorem dX12_isPoor_19 : decode cX12_isPoor 19 = .ok (.invokevirtual 255, 3) := by decide +kernel
theorem dX12_isPoor_22 : decode cX12_isPoor 22 = .ok (.ifCond .ne 7, 3) := by decide +kernel
theorem dX12_isPoor_25 : decode cX12_isPoor 25 = .ok (.iconst 1, 1) := by decide +kernel
theorem dX12_isPoor_26 : decode cX12_isPoor 26 = .ok (.goto 4, 3) := by decide +kernel
theorem dX12_isPoor_29 : decode cX12_isPoor 29 = .ok (.iconst 0, 1) := by decide +kernel
theorem dX12_isPoor_30 : decode cX12_isPoor 30 = .ok (.istore_n 1, 1) := by decide +kernel
theorem dX12_isPoor_31 : decode cX12_isPoor 31 = .ok (.iinc 2 1, 3) := by decide +kernel
theorem dX12_isPoor_34 : decode cX12_isPoor 34 = .ok (.goto (-30), 3) := by decide +kernel
theorem dX12_isPoor_37 : decode cX12_isPoor 37 = .ok (.iload_n 1, 1) := by decide +kernel
theorem dX12_isPoor_38 : decode cX12_isPoor 38 = .ok (.ireturn, 1) := by decide +kernel
set_option maxRecDepth 20000 in
theorem ggX12_poor_X12_keepsAll : GoodIn wsX12_poor wsX12_keepsAll := goodIn_r _ [6, 7, 8, 164, 165, 166, 167, 168, 169, 170, 171, 172, 173, 174, 175, 176, 177, 178, 179, 180, 181, 182, 183] (by decide +kernel) (by decide +kernel)
set_option maxRecDepth 20000 in
theorem gX12_poor_X12_keepsAll : GoodIn wsX12_poor (wsV RX12 349 RX12 yX12_keepsAll wsX12_keepsAll) := goodIn_app (goodIn_of _ (by decide +kernel)) ggX12_poor_X12_keepsAll
set_option maxRecDepth 20000 in
theorem ggX12_poor_X12_isPoor : GoodIn wsX12_poor wsX12_isPoor := goodIn_r _ [12, 13, 14, 15, 5, 16, 17, 18, 19, 20, 8, 21, 22, 23, 24, 25, 26, 27, 164, 165, 166, 167, 168, 169, 170, 171, 172, 173, 174, 175, 176, 177, 178, 179, 180, 181, 182, 183] (by decide +kernel) (by decide +kernel)
set_option maxRecDepth 20000 in
theorem gX12_poor_X12_isPoor : GoodIn wsX12_poor (wsV RX12 386 RX12 yX12_isPoor wsX12_isPoor) := goodIn_app (goodIn_of _ (by decide +kernel)) ggX12_poor_X12_isPoor
set_option maxRecDepth 20000 in
theorem ggX12_poor_X12_oneWeek : GoodIn wsX12_poor wsX12_oneWeek := goodIn_r _ [31, 8, 32, 33, 34, 35, 36, 37, 38, 39, 40, 41, 5, 42, 43, 44, 45, 46, 47, 48, 49, 50, 51, 13, 14, 15, 16, 17, 18, 19, 20, 52, 53, 54, 55, 56, 57, 58, 59, 60, 61, 62, 63, 64, 65, 66, 67, 68, 69, 70, 71, 72, 73, 74, 75, 76, 77, 78, 79, 80, 81, 82, 83, 84, 85, 86, 87, 88, 89, 90, 91, 92, 93, 94, 95, 96, 97, 98, 99, 100, 101, 102, 103, 104, 105, 106, 107, 108, 109, 110, 111, 112, 113, 114, 115, 116, 117, 118, 119, 120, 121, 122, 123, 124, 21, 22, 23, 24, 25, 26, 27, 125, 126, 127, 128, 129, 130, 131, 132, 133, 134, 135, 136, 137, 138, 139, 140, 141, 142, 143, 144, 145, 146, 147, 148, 149, 150, 151, 152, 153, 154, 155, 156, 157, 158, 159, 164, 165, 166, 167, 168, 169, 170, 171, 172, 173, 174, 175, 176, 177, 178, 179, 180, 181, 182, 183] (by decide +kernel) (by decide +kernel)
set_option maxRecDepth 20000 in
theorem gX12_poor_X12_oneWeek : GoodIn wsX12_poor (wsV RX12 380 RX12 yX12_oneWeek wsX12_oneWeek) := goodIn_app (goodIn_of _ (by decide +kernel)) ggX12_poor_X12_oneWeek
set_option maxRecDepth 20000 in
theorem ggX12_poor_X12_bringsBack : GoodIn wsX12_poor wsX12_bringsBack := goodIn_r _ [163, 8, 7, 164, 165, 166, 167, 168, 169, 170, 171, 172, 173, 174, 175, 176, 177, 178, 179, 180, 181, 182, 183] (by decide +kernel) (by decide +kernel)
set_option maxRecDepth 20000 in
theorem gX12_poor_X12_bringsBack : GoodIn wsX12_poor (wsV RX12 355 RX12 yX12_bringsBack wsX12_bringsBack) := goodIn_app (goodIn_of _ (by decide +kernel)) ggX12_poor_X12_bringsBack
theorem dX12_poor_0 : decode cX12_poor 0 = .ok (.aload_n 0, 1) := by decide +kernel
theorem dX12_poor_1 : decode cX12_poor 1 = .ok (.iconst 0, 1) := by decide +kernel
theorem dX12_poor_2 : decode cX12_poor 2 = .ok (.putfield 3, 3) := by decide +kernel
theorem dX12_poor_5 : decode cX12_poor 5 = .ok (.iconst (-1), 1) := by decide +kernel
theorem dX12_poor_6 : decode cX12_poor 6 = .ok (.istore_n 1, 1) := by decide +kernel
theorem dX12_poor_7 : decode cX12_poor 7 = .ok (.aload_n 0, 1) := by decide +kernel
theorem dX12_poor_8 : decode cX12_poor 8 = .ok (.invokevirtual 349, 3) := by decide +kernel
theorem dX12_poor_11 : decode cX12_poor 11 = .ok (.iconst 0, 1) := by decide +kernel
theorem dX12_poor_12 : decode cX12_poor 12 = .ok (.istore_n 2, 1) := by decide +kernel
theorem dX12_poor_13 : decode cX12_poor 13 = .ok (.iload_n 2, 1) := by decide +kernel
theorem dX12_poor_14 : decode cX12_poor 14 = .ok (.bipush 100, 2) := by decide +kernel
theorem dX12_poor_16 : decode cX12_poor 16 = .ok (.if_icmp .gt 32, 3) := by decide +kernel
theorem dX12_poor_19 : decode cX12_poor 19 = .ok (.iload_n 1, 1) := by decide +kernel
theorem dX12_poor_20 : decode cX12_poor 20 = .ok (.iconst (-1), 1) := by decide +kernel
theorem dX12_poor_21 : decode cX12_poor 21 = .ok (.if_icmp .ne 27, 3) := by decide +kernel
theorem dX12_poor_24 : decode cX12_poor 24 = .ok (.aload_n 0, 1) := by decide +kernel
theorem dX12_poor_25 : decode cX12_poor 25 = .ok (.invokevirtual 386, 3) := by decide +kernel
theorem dX12_poor_28 : decode cX12_poor 28 = .ok (.ifCond .eq 7, 3) := by decide +kernel
theorem dX12_poor_31 : decode cX12_poor 31 = .ok (.iload_n 2, 1) := by decide +kernel
theorem dX12_poor_32 : decode cX12_poor 32 = .ok (.goto 4, 3) := by decide +kernel
theorem dX12_poor_35 : decode cX12_poor 35 = .ok (.iconst (-1), 1) := by decide +kernel
theorem dX12_poor_36 : decode cX12_poor 36 = .ok (.istore_n 1, 1) := by decide +kernel
theorem dX12_poor_37 : decode cX12_poor 37 = .ok (.aload_n 0, 1) := by decide +kernel
theorem dX12_poor_38 : decode cX12_poor 38 = .ok (.iconst 1, 1) := by decide +kernel
theorem dX12_poor_39 : decode cX12_poor 39 = .ok (.invokevirtual 380, 3) := by decide +kernel
theorem dX12_poor_42 : decode cX12_poor 42 = .ok (.iinc 2 1, 3) := by decide +kernel
theorem dX12_poor_45 : decode cX12_poor 45 = .ok (.goto (-32), 3) := by decide +kernel
theorem dX12_poor_48 : decode cX12_poor 48 = .ok (.aload_n 0, 1) := by decide +kernel
theorem dX12_poor_49 : decode cX12_poor 49 = .ok (.invokevirtual 355, 3) := by decide +kernel
theorem dX12_poor_52 : decode cX12_poor 52 = .ok (.iload_n 1, 1) := by decide +kernel
theorem dX12_poor_53 : decode cX12_poor 53 = .ok (.ireturn, 1) := by decide +kernel
set_option maxRecDepth 20000 in
theorem ggX12_breaksIn_X12_keepsAll : GoodIn wsX12_breaksIn wsX12_keepsAll := goodIn_r _ [5, 6, 7, 159, 160, 161, 162, 163, 164, 165, 166, 167, 168, 169, 170, 171, 172, 173, 174, 175, 176, 177, 178] (by decide +kernel) (by decide +kernel)
set_option maxRecDepth 20000 in
theorem gX12_breaksIn_X12_keepsAll : GoodIn wsX12_breaksIn (wsV RX12 349 RX12 yX12_keepsAll wsX12_keepsAll) := goodIn_app (goodIn_of _ (by decide +kernel)) ggX12_breaksIn_X12_keepsAll
set_option maxRecDepth 20000 in
theorem ggX12_breaksIn_X12_oneWeek : GoodIn wsX12_breaksIn wsX12_oneWeek := goodIn_r _ [11, 7, 12, 13, 14, 15, 16, 17, 18, 19, 20, 21, 4, 22, 23, 24, 25, 26, 27, 28, 29, 30, 31, 32, 33, 34, 35, 36, 37, 38, 39, 40, 41, 42, 43, 44, 45, 46, 47, 48, 49, 50, 51, 52, 53, 54, 55, 56, 57, 58, 59, 60, 61, 62, 63, 64, 65, 66, 67, 68, 69, 70, 71, 72, 73, 74, 75, 76, 77, 78, 79, 80, 81, 82, 83, 84, 85, 86, 87, 88, 89, 90, 91, 92, 93, 94, 95, 96, 97, 98, 99, 100, 101, 102, 103, 104, 105, 106, 107, 108, 109, 110, 111, 112, 113, 114, 115, 116, 117, 118, 119, 120, 121, 122, 123, 124, 125, 126, 127, 128, 129, 130, 131, 132, 133, 134, 135, 136, 137, 138, 139, 140, 141, 142, 143, 144, 145, 146, 147, 148, 149, 150, 151, 152, 153, 154, 159, 160, 161, 162, 163, 164, 165, 166, 167, 168, 169, 170, 171, 172, 173, 174, 175, 176, 177, 178] (by decide +kernel) (by decide +kernel)
set_option maxRecDepth 20000 in
theorem gX12_breaksIn_X12_oneWeek : GoodIn wsX12_breaksIn (wsV RX12 380 RX12 yX12_oneWeek wsX12_oneWeek) := goodIn_app (goodIn_of _ (by decide +kernel)) ggX12_breaksIn_X12_oneWeek
set_option maxRecDepth 20000 in
theorem ggX12_breaksIn_X12_isBroken : GoodIn wsX12_breaksIn wsX12_isBroken := goodIn_r _ [89, 90, 91, 92, 4, 93, 7, 94, 95, 96, 159, 160, 161, 162, 163, 164, 165, 166, 167, 168, 169, 170, 171, 172, 173, 174, 175, 176, 177, 178] (by decide +kernel) (by decide +kernel)
set_option maxRecDepth 20000 in
theorem gX12_breaksIn_X12_isBroken : GoodIn wsX12_breaksIn (wsV RX12 278 RX12 yX12_isBroken wsX12_isBroken) := goodIn_app (goodIn_of _ (by decide +kernel)) ggX12_breaksIn_X12_isBroken
set_option maxRecDepth 20000 in
theorem ggX12_breaksIn_X12_bringsBack : GoodIn wsX12_breaksIn wsX12_bringsBack := goodIn_r _ [158, 7, 6, 159, 160, 161, 162, 163, 164, 165, 166, 167, 168, 169, 170, 171, 172, 173, 174, 175, 176, 177, 178] (by decide +kernel) (by decide +kernel)
set_option maxRecDepth 20000 in
theorem gX12_breaksIn_X12_bringsBack : GoodIn wsX12_breaksIn (wsV RX12 355 RX12 yX12_bringsBack wsX12_bringsBack) := goodIn_app (goodIn_of _ (by decide +kernel)) ggX12_breaksIn_X12_bringsBack
theorem dX12_breaksIn_0 : decode cX12_breaksIn 0 = .ok (.bipush 101, 2) := by decide +kernel
theorem dX12_breaksIn_2 : decode cX12_breaksIn 2 = .ok (.istore_n 2, 1) := by decide +kernel
theorem dX12_breaksIn_3 : decode cX12_breaksIn 3 = .ok (.aload_n 0, 1) := by decide +kernel
theorem dX12_breaksIn_4 : decode cX12_breaksIn 4 = .ok (.invokevirtual 349, 3) := by decide +kernel
theorem dX12_breaksIn_7 : decode cX12_breaksIn 7 = .ok (.iconst 1, 1) := by decide +kernel
theorem dX12_breaksIn_8 : decode cX12_breaksIn 8 = .ok (.istore_n 3, 1) := by decide +kernel
theorem dX12_breaksIn_9 : decode cX12_breaksIn 9 = .ok (.iload_n 3, 1) := by decide +kernel
theorem dX12_breaksIn_10 : decode cX12_breaksIn 10 = .ok (.bipush 100, 2) := by decide +kernel
theorem dX12_breaksIn_12 : decode cX12_breaksIn 12 = .ok (.if_icmp .gt 35, 3) := by decide +kernel
theorem dX12_breaksIn_15 : decode cX12_breaksIn 15 = .ok (.iload_n 2, 1) := by decide +kernel
theorem dX12_breaksIn_16 : decode cX12_breaksIn 16 = .ok (.bipush 101, 2) := by decide +kernel
theorem dX12_breaksIn_18 : decode cX12_breaksIn 18 = .ok (.if_icmp .ne 29, 3) := by decide +kernel
theorem dX12_breaksIn_21 : decode cX12_breaksIn 21 = .ok (.aload_n 0, 1) := by decide +kernel
theorem dX12_breaksIn_22 : decode cX12_breaksIn 22 = .ok (.iconst 1, 1) := by decide +kernel
theorem dX12_breaksIn_23 : decode cX12_breaksIn 23 = .ok (.invokevirtual 380, 3) := by decide +kernel
theorem dX12_breaksIn_26 : decode cX12_breaksIn 26 = .ok (.aload_n 0, 1) := by decide +kernel
theorem dX12_breaksIn_27 : decode cX12_breaksIn 27 = .ok (.iload_n 1, 1) := by decide +kernel
theorem dX12_breaksIn_28 : decode cX12_breaksIn 28 = .ok (.invokevirtual 278, 3) := by decide +kernel
theorem dX12_breaksIn_31 : decode cX12_breaksIn 31 = .ok (.ifCond .eq 7, 3) := by decide +kernel
theorem dX12_breaksIn_34 : decode cX12_breaksIn 34 = .ok (.iload_n 3, 1) := by decide +kernel
theorem dX12_breaksIn_35 : decode cX12_breaksIn 35 = .ok (.goto 5, 3) := by decide +kernel
theorem dX12_breaksIn_38 : decode cX12_breaksIn 38 = .ok (.bipush 101, 2) := by decide +kernel
theorem dX12_breaksIn_40 : decode cX12_breaksIn 40 = .ok (.istore_n 2, 1) := by decide +kernel
theorem dX12_breaksIn_41 : decode cX12_breaksIn 41 = .ok (.iinc 3 1, 3) := by decide +kernel
theorem dX12_breaksIn_44 : decode cX12_breaksIn 44 = .ok (.goto (-35), 3) := by decide +kernel
theorem dX12_breaksIn_47 : decode cX12_breaksIn 47 = .ok (.aload_n 0, 1) := by decide +kernel
theorem dX12_breaksIn_48 : decode cX12_breaksIn 48 = .ok (.invokevirtual 355, 3) := by decide +kernel
theorem dX12_breaksIn_51 : decode cX12_breaksIn 51 = .ok (.iload_n 2, 1) := by decide +kernel
theorem dX12_breaksIn_52 : decode cX12_breaksIn 52 = .ok (.ireturn, 1) := by decide +kernel
set_option maxRecDepth 20000 in
theorem ggX12_breaks_X12_noPlank : GoodIn wsX12_breaks wsX12_noPlank := goodIn_r _ [6, 7, 8, 9, 5, 10, 11, 12, 13, 14, 175, 176, 177, 178, 179, 180, 181, 182, 183, 184, 185, 186, 187, 188, 189, 190, 191, 192, 193, 194] (by decide +kernel) (by decide +kernel)
set_option maxRecDepth 20000 in
theorem gX12_breaks_X12_noPlank : GoodIn wsX12_breaks (wsV RX12 309 RX12 yX12_noPlank wsX12_noPlank) := goodIn_app (goodIn_of _ (by decide +kernel)) ggX12_breaks_X12_noPlank
set_option maxRecDepth 20000 in
theorem ggX12_breaks_X12_throwsIf : GoodIn wsX12_breaks wsX12_throwsIf := goodIn_r _ [18, 1, 175, 176, 177, 178, 179, 180, 181, 182, 183, 184, 185, 186, 187, 188, 189, 190, 191, 192, 193, 194] (by decide +kernel) (by decide +kernel)
set_option maxRecDepth 20000 in
theorem gX12_breaks_X12_throwsIf : GoodIn wsX12_breaks (wsV RX12 242 RX12 yX12_throwsIf wsX12_throwsIf) := goodIn_app (goodIn_of _ (by decide +kernel)) ggX12_breaks_X12_throwsIf
set_option maxRecDepth 20000 in
theorem ggX12_breaks_X12_isBroken : GoodIn wsX12_breaks wsX12_isBroken := goodIn_r _ [22, 23, 24, 25, 5, 26, 11, 27, 28, 29, 175, 176, 177, 178, 179, 180, 181, 182, 183, 184, 185, 186, 187, 188, 189, 190, 191, 192, 193, 194] (by decide +kernel) (by decide +kernel)
set_option maxRecDepth 20000 in
theorem gX12_breaks_X12_isBroken : GoodIn wsX12_breaks (wsV RX12 278 RX12 yX12_isBroken wsX12_isBroken) := goodIn_app (goodIn_of _ (by decide +kernel)) ggX12_breaks_X12_isBroken
set_option maxRecDepth 20000 in
theorem ggX12_breaks_X12_breaksIn : GoodIn wsX12_breaks wsX12_breaksIn := goodIn_r _ [33, 34, 35, 36, 5, 37, 38, 11, 39, 40, 41, 42, 43, 44, 45, 46, 47, 48, 49, 50, 51, 52, 53, 54, 55, 56, 57, 58, 59, 60, 61, 62, 63, 64, 65, 66, 7, 8, 9, 10, 67, 68, 69, 70, 71, 72, 73, 74, 75, 76, 77, 78, 79, 80, 81, 82, 83, 84, 85, 86, 87, 88, 89, 90, 91, 92, 93, 94, 95, 96, 97, 98, 99, 100, 101, 102, 103, 104, 105, 106, 107, 108, 109, 110, 111, 112, 19, 20, 21, 22, 23, 24, 25, 26, 27, 28, 29, 113, 114, 115, 116, 117, 118, 119, 120, 121, 122, 123, 124, 125, 126, 127, 128, 129, 130, 131, 132, 133, 134, 135, 136, 137, 138, 139, 140, 141, 142, 143, 144, 145, 146, 147, 148, 149, 150, 151, 152, 153, 154, 155, 156, 157, 158, 159, 160, 161, 162, 163, 164, 165, 166, 167, 168, 169, 170, 171, 172, 173, 174, 175, 176, 177, 178, 179, 180, 181, 182, 183, 184, 185, 186, 187, 188, 189, 190, 191, 192, 193, 194] (by decide +kernel) (by decide +kernel)
set_option maxRecDepth 20000 in
theorem gX12_breaks_X12_breaksIn : GoodIn wsX12_breaks (wsV RX12 389 RX12 yX12_breaksIn wsX12_breaksIn) := goodIn_app (goodIn_of _ (by decide +kernel)) ggX12_breaks_X12_breaksIn
theorem dX12_breaks_0 : decode cX12_breaks 0 = .ok (.aload_n 0, 1) := by decide +kernel
theorem dX12_breaks_1 : decode cX12_breaks 1 = .ok (.iconst 0, 1) := by decide +kernel
theorem dX12_breaks_2 : decode cX12_breaks 2 = .ok (.putfield 3, 3) := by decide +kernel
theorem dX12_breaks_5 : decode cX12_breaks 5 = .ok (.aload_n 0, 1) := by decide +kernel
theorem dX12_breaks_6 : decode cX12_breaks 6 = .ok (.aload_n 0, 1) := by decide +kernel
theorem dX12_breaks_7 : decode cX12_breaks 7 = .ok (.iload_n 1, 1) := by decide +kernel
theorem dX12_breaks_8 : decode cX12_breaks 8 = .ok (.invokevirtual 309, 3) := by decide +kernel
theorem dX12_breaks_11 : decode cX12_breaks 11 = .ok (.iconst 1, 1) := by decide +kernel
theorem dX12_breaks_12 : decode cX12_breaks 12 = .ok (.invokevirtual 242, 3) := by decide +kernel
theorem dX12_breaks_15 : decode cX12_breaks 15 = .ok (.ifCond .eq 5, 3) := by decide +kernel
theorem dX12_breaks_18 : decode cX12_breaks 18 = .ok (.iconst 0, 1) := by decide +kernel
theorem dX12_breaks_19 : decode cX12_breaks 19 = .ok (.ireturn, 1) := by decide +kernel
theorem dX12_breaks_20 : decode cX12_breaks 20 = .ok (.aload_n 0, 1) := by decide +kernel
theorem dX12_breaks_21 : decode cX12_breaks 21 = .ok (.iload_n 1, 1) := by decide +kernel
theorem dX12_breaks_22 : decode cX12_breaks 22 = .ok (.invokevirtual 278, 3) := by decide +kernel
theorem dX12_breaks_25 : decode cX12_breaks 25 = .ok (.ifCond .eq 8, 3) := by decide +kernel
theorem dX12_breaks_28 : decode cX12_breaks 28 = .ok (.bipush 101, 2) := by decide +kernel
theorem dX12_breaks_30 : decode cX12_breaks 30 = .ok (.goto 8, 3) := by decide +kernel
theorem dX12_breaks_33 : decode cX12_breaks 33 = .ok (.aload_n 0, 1) := by decide +kernel
theorem dX12_breaks_34 : decode cX12_breaks 34 = .ok (.iload_n 1, 1) := by decide +kernel
theorem dX12_breaks_35 : decode cX12_breaks 35 = .ok (.invokevirtual 389, 3) := by decide +kernel
theorem dX12_breaks_38 : decode cX12_breaks 38 = .ok (.istore_n 2, 1) := by decide +kernel
theorem dX12_breaks_39 : decode cX12_breaks 39 = .ok (.iload_n 2, 1) := by decide +kernel
theorem dX12_breaks_40 : decode cX12_breaks 40 = .ok (.bipush 101, 2) := by decide +kernel
theorem dX12_breaks_42 : decode cX12_breaks 42 = .ok (.if_icmp .ne 7, 3) := by decide +kernel
theorem dX12_breaks_45 : decode cX12_breaks 45 = .ok (.iconst (-1), 1) := by decide +kernel
theorem dX12_breaks_46 : decode cX12_breaks 46 = .ok (.goto 4, 3) := by decide +kernel
theorem dX12_breaks_49 : decode cX12_breaks 49 = .ok (.iload_n 2, 1) := by decide +kernel
theorem dX12_breaks_50 : decode cX12_breaks 50 = .ok (.ireturn, 1) := by decide +kernel
set_option maxRecDepth 20000 in
theorem ggX12_more_X12_noPlank : GoodIn wsX12_more wsX12_noPlank := goodIn_r _ [6, 7, 8, 9, 5, 10, 11, 12, 13, 14, 63, 64, 65, 66, 67, 68, 69, 70, 71, 72, 73, 74, 75, 76, 77, 78, 79, 80, 81, 82] (by decide +kernel) (by decide +kernel)
set_option maxRecDepth 20000 in
theorem gX12_more_X12_noPlank : GoodIn wsX12_more (wsV RX12 309 RX12 yX12_noPlank wsX12_noPlank) := goodIn_app (goodIn_of _ (by decide +kernel)) ggX12_more_X12_noPlank
set_option maxRecDepth 20000 in
theorem ggX12_more_X12_throwsIf : GoodIn wsX12_more wsX12_throwsIf := goodIn_r _ [18, 1, 63, 64, 65, 66, 67, 68, 69, 70, 71, 72, 73, 74, 75, 76, 77, 78, 79, 80, 81, 82] (by decide +kernel) (by decide +kernel)
set_option maxRecDepth 20000 in
theorem gX12_more_X12_throwsIf : GoodIn wsX12_more (wsV RX12 242 RX12 yX12_throwsIf wsX12_throwsIf) := goodIn_app (goodIn_of _ (by decide +kernel)) ggX12_more_X12_throwsIf
set_option maxRecDepth 20000 in
theorem ggX12_more_X12_isBroken : GoodIn wsX12_more wsX12_isBroken := goodIn_r _ [22, 23, 24, 25, 5, 26, 11, 27, 28, 29, 63, 64, 65, 66, 67, 68, 69, 70, 71, 72, 73, 74, 75, 76, 77, 78, 79, 80, 81, 82] (by decide +kernel) (by decide +kernel)
set_option maxRecDepth 20000 in
theorem gX12_more_X12_isBroken : GoodIn wsX12_more (wsV RX12 278 RX12 yX12_isBroken wsX12_isBroken) := goodIn_app (goodIn_of _ (by decide +kernel)) ggX12_more_X12_isBroken
set_option maxRecDepth 20000 in
theorem ggX12_more_X12_ofPlank : GoodIn wsX12_more wsX12_ofPlank := goodIn_r _ [26, 11, 27, 28, 5, 29, 63, 64, 65, 66, 67, 68, 69, 70, 71, 72, 73, 74, 75, 76, 77, 78, 79, 80, 81, 82] (by decide +kernel) (by decide +kernel)
set_option maxRecDepth 20000 in
theorem gX12_more_X12_ofPlank : GoodIn wsX12_more (wsV RX12 63 RX12 yX12_ofPlank wsX12_ofPlank) := goodIn_app (goodIn_of _ (by decide +kernel)) ggX12_more_X12_ofPlank
set_option maxRecDepth 20000 in
theorem ggX12_more_X12_loadOf : GoodIn wsX12_more wsX12_loadOf := goodIn_r _ [33, 11, 34, 35, 36, 5, 37, 38, 39, 40, 41, 42, 43, 44, 45, 46, 47, 48, 49, 50, 51, 52, 53, 54, 55, 56, 57, 58, 59, 60, 61, 62, 63, 64, 65, 66, 67, 68, 69, 70, 71, 72, 73, 74, 75, 76, 77, 78, 79, 80, 81, 82] (by decide +kernel) (by decide +kernel)
set_option maxRecDepth 20000 in
theorem gX12_more_X12_loadOf : GoodIn wsX12_more (wsV RX12 269 RX12 yX12_loadOf wsX12_loadOf) := goodIn_app (goodIn_of _ (by decide +kernel)) ggX12_more_X12_loadOf
theorem dX12_more_0 : decode cX12_more 0 = .ok (.aload_n 0, 1) := by decide +kernel
theorem dX12_more_1 : decode cX12_more 1 = .ok (.iconst 0, 1) := by decide +kernel
theorem dX12_more_2 : decode cX12_more 2 = .ok (.putfield 3, 3) := by decide +kernel
theorem dX12_more_5 : decode cX12_more 5 = .ok (.aload_n 0, 1) := by decide +kernel
theorem dX12_more_6 : decode cX12_more 6 = .ok (.aload_n 0, 1) := by decide +kernel
theorem dX12_more_7 : decode cX12_more 7 = .ok (.iload_n 1, 1) := by decide +kernel
theorem dX12_more_8 : decode cX12_more 8 = .ok (.invokevirtual 309, 3) := by decide +kernel
theorem dX12_more_11 : decode cX12_more 11 = .ok (.iconst 1, 1) := by decide +kernel
theorem dX12_more_12 : decode cX12_more 12 = .ok (.invokevirtual 242, 3) := by decide +kernel
theorem dX12_more_15 : decode cX12_more 15 = .ok (.ifCond .eq 5, 3) := by decide +kernel
theorem dX12_more_18 : decode cX12_more 18 = .ok (.iconst 0, 1) := by decide +kernel
theorem dX12_more_19 : decode cX12_more 19 = .ok (.ireturn, 1) := by decide +kernel
theorem dX12_more_20 : decode cX12_more 20 = .ok (.aload_n 0, 1) := by decide +kernel
theorem dX12_more_21 : decode cX12_more 21 = .ok (.iload_n 1, 1) := by decide +kernel
theorem dX12_more_22 : decode cX12_more 22 = .ok (.invokevirtual 278, 3) := by decide +kernel
theorem dX12_more_25 : decode cX12_more 25 = .ok (.ifCond .eq 9, 3) := by decide +kernel
theorem dX12_more_28 : decode cX12_more 28 = .ok (.sipush (-10000), 3) := by decide +kernel
theorem dX12_more_31 : decode cX12_more 31 = .ok (.goto 34, 3) := by decide +kernel
theorem dX12_more_34 : decode cX12_more 34 = .ok (.aload_n 0, 1) := by decide +kernel
theorem dX12_more_35 : decode cX12_more 35 = .ok (.iload_n 1, 1) := by decide +kernel
theorem dX12_more_36 : decode cX12_more 36 = .ok (.iconst 0, 1) := by decide +kernel
theorem dX12_more_37 : decode cX12_more 37 = .ok (.invokevirtual 63, 3) := by decide +kernel
theorem dX12_more_40 : decode cX12_more 40 = .ok (.aload_n 0, 1) := by decide +kernel
theorem dX12_more_41 : decode cX12_more 41 = .ok (.iload_n 1, 1) := by decide +kernel
theorem dX12_more_42 : decode cX12_more 42 = .ok (.iconst 1, 1) := by decide +kernel
theorem dX12_more_43 : decode cX12_more 43 = .ok (.invokevirtual 63, 3) := by decide +kernel
theorem dX12_more_46 : decode cX12_more 46 = .ok (.isub, 1) := by decide +kernel
theorem dX12_more_47 : decode cX12_more 47 = .ok (.aload_n 0, 1) := by decide +kernel
theorem dX12_more_48 : decode cX12_more 48 = .ok (.iconst 2, 1) := by decide +kernel
theorem dX12_more_49 : decode cX12_more 49 = .ok (.iload_n 1, 1) := by decide +kernel
theorem dX12_more_50 : decode cX12_more 50 = .ok (.imul, 1) := by decide +kernel
theorem dX12_more_51 : decode cX12_more 51 = .ok (.invokevirtual 269, 3) := by decide +kernel
theorem dX12_more_54 : decode cX12_more 54 = .ok (.isub, 1) := by decide +kernel
theorem dX12_more_55 : decode cX12_more 55 = .ok (.aload_n 0, 1) := by decide +kernel
theorem dX12_more_56 : decode cX12_more 56 = .ok (.iconst 2, 1) := by decide +kernel
theorem dX12_more_57 : decode cX12_more 57 = .ok (.iload_n 1, 1) := by decide +kernel
theorem dX12_more_58 : decode cX12_more 58 = .ok (.imul, 1) := by decide +kernel
theorem dX12_more_59 : decode cX12_more 59 = .ok (.iconst 1, 1) := by decide +kernel
theorem dX12_more_60 : decode cX12_more 60 = .ok (.iadd, 1) := by decide +kernel
theorem dX12_more_61 : decode cX12_more 61 = .ok (.invokevirtual 269, 3) := by decide +kernel
theorem dX12_more_64 : decode cX12_more 64 = .ok (.isub, 1) := by decide +kernel
theorem dX12_more_65 : decode cX12_more 65 = .ok (.ireturn, 1) := by decide +kernel
set_option maxRecDepth 20000 in
theorem ggX12_last_X12_planks : GoodIn wsX12_last wsX12_planks := goodIn_r _ [10, 11, 164, 165, 166, 167, 168, 169, 170, 171, 172, 173, 174, 175, 176, 177, 178, 179, 180, 181, 182, 183] (by decide +kernel) (by decide +kernel)
set_option maxRecDepth 20000 in
theorem gX12_last_X12_planks : GoodIn wsX12_last (wsV RX12 55 RX12 yX12_planks wsX12_planks) := goodIn_app (goodIn_of _ (by decide +kernel)) ggX12_last_X12_planks
set_option maxRecDepth 20000 in
theorem ggX12_last_X12_isBroken : GoodIn wsX12_last wsX12_isBroken := goodIn_r _ [15, 16, 17, 18, 9, 19, 11, 20, 21, 22, 164, 165, 166, 167, 168, 169, 170, 171, 172, 173, 174, 175, 176, 177, 178, 179, 180, 181, 182, 183] (by decide +kernel) (by decide +kernel)
set_option maxRecDepth 20000 in
theorem gX12_last_X12_isBroken : GoodIn wsX12_last (wsV RX12 278 RX12 yX12_isBroken wsX12_isBroken) := goodIn_app (goodIn_of _ (by decide +kernel)) ggX12_last_X12_isBroken
set_option maxRecDepth 20000 in
theorem ggX12_last_X12_breaksIn : GoodIn wsX12_last wsX12_breaksIn := goodIn_r _ [26, 27, 28, 29, 9, 30, 31, 11, 32, 33, 34, 35, 2, 3, 4, 5, 36, 37, 38, 39, 40, 41, 42, 43, 44, 45, 46, 47, 48, 49, 50, 51, 52, 53, 54, 55, 6, 7, 8, 10, 56, 57, 58, 59, 60, 61, 62, 63, 64, 65, 66, 67, 68, 69, 70, 71, 72, 73, 74, 75, 76, 77, 78, 79, 80, 81, 82, 83, 84, 85, 86, 87, 88, 89, 90, 91, 92, 93, 94, 95, 96, 97, 98, 99, 100, 101, 12, 13, 14, 15, 16, 17, 18, 19, 20, 21, 22, 102, 103, 104, 105, 106, 107, 108, 109, 110, 111, 112, 113, 114, 115, 116, 117, 118, 119, 120, 121, 122, 123, 124, 125, 126, 127, 128, 129, 130, 131, 132, 133, 134, 135, 136, 137, 138, 139, 140, 141, 142, 143, 144, 145, 146, 147, 148, 149, 150, 151, 152, 153, 154, 155, 156, 157, 158, 159, 160, 161, 162, 163, 164, 165, 166, 167, 168, 169, 170, 171, 172, 173, 174, 175, 176, 177, 178, 179, 180, 181, 182, 183] (by decide +kernel) (by decide +kernel)
set_option maxRecDepth 20000 in
theorem gX12_last_X12_breaksIn : GoodIn wsX12_last (wsV RX12 389 RX12 yX12_breaksIn wsX12_breaksIn) := goodIn_app (goodIn_of _ (by decide +kernel)) ggX12_last_X12_breaksIn
theorem dX12_last_0 : decode cX12_last 0 = .ok (.aload_n 0, 1) := by decide +kernel
theorem dX12_last_1 : decode cX12_last 1 = .ok (.iconst 0, 1) := by decide +kernel
theorem dX12_last_2 : decode cX12_last 2 = .ok (.putfield 3, 3) := by decide +kernel
theorem dX12_last_5 : decode cX12_last 5 = .ok (.iconst (-1), 1) := by decide +kernel
theorem dX12_last_6 : decode cX12_last 6 = .ok (.istore_n 1, 1) := by decide +kernel
theorem dX12_last_7 : decode cX12_last 7 = .ok (.iconst 0, 1) := by decide +kernel
theorem dX12_last_8 : decode cX12_last 8 = .ok (.istore_n 2, 1) := by decide +kernel
theorem dX12_last_9 : decode cX12_last 9 = .ok (.iconst 0, 1) := by decide +kernel
theorem dX12_last_10 : decode cX12_last 10 = .ok (.istore_n 3, 1) := by decide +kernel
theorem dX12_last_11 : decode cX12_last 11 = .ok (.iload_n 3, 1) := by decide +kernel
theorem dX12_last_12 : decode cX12_last 12 = .ok (.aload_n 0, 1) := by decide +kernel
theorem dX12_last_13 : decode cX12_last 13 = .ok (.invokevirtual 55, 3) := by decide +kernel
theorem dX12_last_16 : decode cX12_last 16 = .ok (.if_icmp .ge 47, 3) := by decide +kernel
theorem dX12_last_19 : decode cX12_last 19 = .ok (.aload_n 0, 1) := by decide +kernel
theorem dX12_last_20 : decode cX12_last 20 = .ok (.iload_n 3, 1) := by decide +kernel
theorem dX12_last_21 : decode cX12_last 21 = .ok (.invokevirtual 278, 3) := by decide +kernel
theorem dX12_last_24 : decode cX12_last 24 = .ok (.ifCond .eq 7, 3) := by decide +kernel
theorem dX12_last_27 : decode cX12_last 27 = .ok (.iconst 0, 1) := by decide +kernel
theorem dX12_last_28 : decode cX12_last 28 = .ok (.goto 8, 3) := by decide +kernel
theorem dX12_last_31 : decode cX12_last 31 = .ok (.aload_n 0, 1) := by decide +kernel
theorem dX12_last_32 : decode cX12_last 32 = .ok (.iload_n 3, 1) := by decide +kernel
theorem dX12_last_33 : decode cX12_last 33 = .ok (.invokevirtual 389, 3) := by decide +kernel
theorem dX12_last_36 : decode cX12_last 36 = .ok (.istore 4, 2) := by decide +kernel
theorem dX12_last_38 : decode cX12_last 38 = .ok (.iload 4, 2) := by decide +kernel
theorem dX12_last_40 : decode cX12_last 40 = .ok (.iload_n 2, 1) := by decide +kernel
theorem dX12_last_41 : decode cX12_last 41 = .ok (.if_icmp .le 7, 3) := by decide +kernel
theorem dX12_last_44 : decode cX12_last 44 = .ok (.iload_n 3, 1) := by decide +kernel
theorem dX12_last_45 : decode cX12_last 45 = .ok (.goto 4, 3) := by decide +kernel
theorem dX12_last_48 : decode cX12_last 48 = .ok (.iload_n 1, 1) := by decide +kernel
theorem dX12_last_49 : decode cX12_last 49 = .ok (.istore_n 1, 1) := by decide +kernel
theorem dX12_last_50 : decode cX12_last 50 = .ok (.iload_n 2, 1) := by decide +kernel
theorem dX12_last_51 : decode cX12_last 51 = .ok (.iload 4, 2) := by decide +kernel
theorem dX12_last_53 : decode cX12_last 53 = .ok (.invokestatic 263, 3) := by decide +kernel
theorem dX12_last_56 : decode cX12_last 56 = .ok (.istore_n 2, 1) := by decide +kernel
theorem dX12_last_57 : decode cX12_last 57 = .ok (.iinc 3 1, 3) := by decide +kernel
theorem dX12_last_60 : decode cX12_last 60 = .ok (.goto (-49), 3) := by decide +kernel
theorem dX12_last_63 : decode cX12_last 63 = .ok (.iload_n 1, 1) := by decide +kernel
theorem dX12_last_64 : decode cX12_last 64 = .ok (.ireturn, 1) := by decide +kernel
set_option maxRecDepth 20000 in
theorem ggX12_view_X12_houses : GoodIn wsX12_view wsX12_houses := goodIn_r _ [6, 7, 8, 9, 5, 10, 11, 85, 86, 87, 88, 89, 90, 91, 92, 93, 94, 95, 96, 97, 98, 99, 100, 101, 102, 103, 104] (by decide +kernel) (by decide +kernel)
set_option maxRecDepth 20000 in
theorem gX12_view_X12_houses : GoodIn wsX12_view (wsV RX12 79 RX12 yX12_houses wsX12_houses) := goodIn_app (goodIn_of _ (by decide +kernel)) ggX12_view_X12_houses
set_option maxRecDepth 20000 in
theorem ggX12_view_X12_heightOf : GoodIn wsX12_view wsX12_heightOf := goodIn_r _ [15, 16, 17, 5, 18, 19, 20, 21, 22, 23, 24, 25, 26, 11, 27, 28, 29, 30, 31, 32, 33, 34, 35, 36, 37, 38, 39, 40, 41, 42, 43, 44, 45, 46, 47, 48, 49, 50, 51, 52, 53, 54, 55, 56, 57, 58, 59, 60, 61, 62, 63, 64, 65, 66, 67, 68, 69, 70, 71, 72, 73, 74, 75, 76, 77, 78, 79, 80, 81, 82, 83, 84, 85, 86, 87, 88, 89, 90, 91, 92, 93, 94, 95, 96, 97, 98, 99, 100, 101, 102, 103, 104] (by decide +kernel) (by decide +kernel)
set_option maxRecDepth 20000 in
theorem gX12_view_X12_heightOf : GoodIn wsX12_view (wsV RX12 287 RX12 yX12_heightOf wsX12_heightOf) := goodIn_app (goodIn_of _ (by decide +kernel)) ggX12_view_X12_heightOf
theorem dX12_view_0 : decode cX12_view 0 = .ok (.aload_n 0, 1) := by decide +kernel
theorem dX12_view_1 : decode cX12_view 1 = .ok (.iconst 0, 1) := by decide +kernel
theorem dX12_view_2 : decode cX12_view 2 = .ok (.putfield 3, 3) := by decide +kernel
theorem dX12_view_5 : decode cX12_view 5 = .ok (.iconst 0, 1) := by decide +kernel
theorem dX12_view_6 : decode cX12_view 6 = .ok (.istore_n 1, 1) := by decide +kernel
theorem dX12_view_7 : decode cX12_view 7 = .ok (.iconst 0, 1) := by decide +kernel
theorem dX12_view_8 : decode cX12_view 8 = .ok (.istore_n 2, 1) := by decide +kernel
theorem dX12_view_9 : decode cX12_view 9 = .ok (.iload_n 2, 1) := by decide +kernel
theorem dX12_view_10 : decode cX12_view 10 = .ok (.aload_n 0, 1) := by decide +kernel
theorem dX12_view_11 : decode cX12_view 11 = .ok (.invokevirtual 79, 3) := by decide +kernel
theorem dX12_view_14 : decode cX12_view 14 = .ok (.if_icmp .ge 28, 3) := by decide +kernel
theorem dX12_view_17 : decode cX12_view 17 = .ok (.iload_n 1, 1) := by decide +kernel
theorem dX12_view_18 : decode cX12_view 18 = .ok (.aload_n 0, 1) := by decide +kernel
theorem dX12_view_19 : decode cX12_view 19 = .ok (.iload_n 2, 1) := by decide +kernel
theorem dX12_view_20 : decode cX12_view 20 = .ok (.invokevirtual 287, 3) := by decide +kernel
theorem dX12_view_23 : decode cX12_view 23 = .ok (.iconst 5, 1) := by decide +kernel
theorem dX12_view_24 : decode cX12_view 24 = .ok (.if_icmp .le 9, 3) := by decide +kernel
theorem dX12_view_27 : decode cX12_view 27 = .ok (.iconst 1, 1) := by decide +kernel
theorem dX12_view_28 : decode cX12_view 28 = .ok (.iload_n 2, 1) := by decide +kernel
theorem dX12_view_29 : decode cX12_view 29 = .ok (.ishl, 1) := by decide +kernel
theorem dX12_view_30 : decode cX12_view 30 = .ok (.goto 4, 3) := by decide +kernel
theorem dX12_view_33 : decode cX12_view 33 = .ok (.iconst 0, 1) := by decide +kernel
theorem dX12_view_34 : decode cX12_view 34 = .ok (.ior, 1) := by decide +kernel
theorem dX12_view_35 : decode cX12_view 35 = .ok (.istore_n 1, 1) := by decide +kernel
theorem dX12_view_36 : decode cX12_view 36 = .ok (.iinc 2 1, 3) := by decide +kernel
theorem dX12_view_39 : decode cX12_view 39 = .ok (.goto (-30), 3) := by decide +kernel
theorem dX12_view_42 : decode cX12_view 42 = .ok (.iload_n 1, 1) := by decide +kernel
theorem dX12_view_43 : decode cX12_view 43 = .ok (.ireturn, 1) := by decide +kernel
set_option maxRecDepth 20000 in
theorem ggX12_well_X12_houses : GoodIn wsX12_well wsX12_houses := goodIn_r _ [6, 7, 8, 9, 5, 10, 11, 85, 86, 87, 88, 89, 90, 91, 92, 93, 94, 95, 96, 97, 98, 99, 100, 101, 102, 103, 104] (by decide +kernel) (by decide +kernel)
set_option maxRecDepth 20000 in
theorem gX12_well_X12_houses : GoodIn wsX12_well (wsV RX12 79 RX12 yX12_houses wsX12_houses) := goodIn_app (goodIn_of _ (by decide +kernel)) ggX12_well_X12_houses
set_option maxRecDepth 20000 in
theorem ggX12_well_X12_heightOf : GoodIn wsX12_well wsX12_heightOf := goodIn_r _ [15, 16, 17, 5, 18, 19, 20, 21, 22, 23, 24, 25, 26, 11, 27, 28, 29, 30, 31, 32, 33, 34, 35, 36, 37, 38, 39, 40, 41, 42, 43, 44, 45, 46, 47, 48, 49, 50, 51, 52, 53, 54, 55, 56, 57, 58, 59, 60, 61, 62, 63, 64, 65, 66, 67, 68, 69, 70, 71, 72, 73, 74, 75, 76, 77, 78, 79, 80, 81, 82, 83, 84, 85, 86, 87, 88, 89, 90, 91, 92, 93, 94, 95, 96, 97, 98, 99, 100, 101, 102, 103, 104] (by decide +kernel) (by decide +kernel)
set_option maxRecDepth 20000 in
theorem gX12_well_X12_heightOf : GoodIn wsX12_well (wsV RX12 287 RX12 yX12_heightOf wsX12_heightOf) := goodIn_app (goodIn_of _ (by decide +kernel)) ggX12_well_X12_heightOf
theorem dX12_well_0 : decode cX12_well 0 = .ok (.aload_n 0, 1) := by decide +kernel
theorem dX12_well_1 : decode cX12_well 1 = .ok (.iconst 0, 1) := by decide +kernel
theorem dX12_well_2 : decode cX12_well 2 = .ok (.putfield 3, 3) := by decide +kernel
theorem dX12_well_5 : decode cX12_well 5 = .ok (.iconst 0, 1) := by decide +kernel
theorem dX12_well_6 : decode cX12_well 6 = .ok (.istore_n 1, 1) := by decide +kernel
theorem dX12_well_7 : decode cX12_well 7 = .ok (.iconst 0, 1) := by decide +kernel
theorem dX12_well_8 : decode cX12_well 8 = .ok (.istore_n 2, 1) := by decide +kernel
theorem dX12_well_9 : decode cX12_well 9 = .ok (.iload_n 2, 1) := by decide +kernel
theorem dX12_well_10 : decode cX12_well 10 = .ok (.aload_n 0, 1) := by decide +kernel
theorem dX12_well_11 : decode cX12_well 11 = .ok (.invokevirtual 79, 3) := by decide +kernel
theorem dX12_well_14 : decode cX12_well 14 = .ok (.if_icmp .ge 28, 3) := by decide +kernel
theorem dX12_well_17 : decode cX12_well 17 = .ok (.iload_n 1, 1) := by decide +kernel
theorem dX12_well_18 : decode cX12_well 18 = .ok (.aload_n 0, 1) := by decide +kernel
theorem dX12_well_19 : decode cX12_well 19 = .ok (.iload_n 2, 1) := by decide +kernel
theorem dX12_well_20 : decode cX12_well 20 = .ok (.invokevirtual 287, 3) := by decide +kernel
theorem dX12_well_23 : decode cX12_well 23 = .ok (.iconst 5, 1) := by decide +kernel
theorem dX12_well_24 : decode cX12_well 24 = .ok (.if_icmp .ge 9, 3) := by decide +kernel
theorem dX12_well_27 : decode cX12_well 27 = .ok (.iconst 1, 1) := by decide +kernel
theorem dX12_well_28 : decode cX12_well 28 = .ok (.iload_n 2, 1) := by decide +kernel
theorem dX12_well_29 : decode cX12_well 29 = .ok (.ishl, 1) := by decide +kernel
theorem dX12_well_30 : decode cX12_well 30 = .ok (.goto 4, 3) := by decide +kernel
theorem dX12_well_33 : decode cX12_well 33 = .ok (.iconst 0, 1) := by decide +kernel
theorem dX12_well_34 : decode cX12_well 34 = .ok (.ior, 1) := by decide +kernel
theorem dX12_well_35 : decode cX12_well 35 = .ok (.istore_n 1, 1) := by decide +kernel
theorem dX12_well_36 : decode cX12_well 36 = .ok (.iinc 2 1, 3) := by decide +kernel
theorem dX12_well_39 : decode cX12_well 39 = .ok (.goto (-30), 3) := by decide +kernel
theorem dX12_well_42 : decode cX12_well 42 = .ok (.iload_n 1, 1) := by decide +kernel
theorem dX12_well_43 : decode cX12_well 43 = .ok (.ireturn, 1) := by decide +kernel
set_option maxRecDepth 20000 in
theorem ggX12_twins_X12_planks : GoodIn wsX12_twins wsX12_planks := goodIn_r _ [6, 7, 71, 72, 73, 74, 75, 76, 77, 78, 79, 80, 81, 82, 83, 84, 85, 86, 87, 88, 89, 90] (by decide +kernel) (by decide +kernel)
set_option maxRecDepth 20000 in
theorem gX12_twins_X12_planks : GoodIn wsX12_twins (wsV RX12 55 RX12 yX12_planks wsX12_planks) := goodIn_app (goodIn_of _ (by decide +kernel)) ggX12_twins_X12_planks
set_option maxRecDepth 20000 in
theorem ggX12_twins_X12_isBroken : GoodIn wsX12_twins wsX12_isBroken := goodIn_r _ [11, 12, 13, 14, 5, 15, 7, 16, 17, 18, 71, 72, 73, 74, 75, 76, 77, 78, 79, 80, 81, 82, 83, 84, 85, 86, 87, 88, 89, 90] (by decide +kernel) (by decide +kernel)
set_option maxRecDepth 20000 in
theorem gX12_twins_X12_isBroken : GoodIn wsX12_twins (wsV RX12 278 RX12 yX12_isBroken wsX12_isBroken) := goodIn_app (goodIn_of _ (by decide +kernel)) ggX12_twins_X12_isBroken
set_option maxRecDepth 20000 in
theorem ggX12_twins_X12_tiltOf : GoodIn wsX12_twins wsX12_tiltOf := goodIn_r _ [22, 23, 24, 25, 5, 26, 12, 13, 14, 15, 7, 16, 17, 18, 27, 28, 29, 30, 31, 32, 33, 34, 35, 36, 37, 38, 39, 40, 41, 42, 43, 44, 45, 46, 47, 48, 49, 50, 51, 52, 53, 54, 55, 56, 57, 58, 59, 60, 61, 62, 63, 64, 65, 66, 67, 68, 69, 70, 71, 72, 73, 74, 75, 76, 77, 78, 79, 80, 81, 82, 83, 84, 85, 86, 87, 88, 89, 90] (by decide +kernel) (by decide +kernel)
set_option maxRecDepth 20000 in
theorem gX12_twins_X12_tiltOf : GoodIn wsX12_twins (wsV RX12 281 RX12 yX12_tiltOf wsX12_tiltOf) := goodIn_app (goodIn_of _ (by decide +kernel)) ggX12_twins_X12_tiltOf
theorem dX12_twins_0 : decode cX12_twins 0 = .ok (.aload_n 0, 1) := by decide +kernel
theorem dX12_twins_1 : decode cX12_twins 1 = .ok (.iconst 0, 1) := by decide +kernel
theorem dX12_twins_2 : decode cX12_twins 2 = .ok (.putfield 3, 3) := by decide +kernel
theorem dX12_twins_5 : decode cX12_twins 5 = .ok (.iconst 0, 1) := by decide +kernel
theorem dX12_twins_6 : decode cX12_twins 6 = .ok (.istore_n 1, 1) := by decide +kernel
theorem dX12_twins_7 : decode cX12_twins 7 = .ok (.iconst 0, 1) := by decide +kernel
theorem dX12_twins_8 : decode cX12_twins 8 = .ok (.istore_n 2, 1) := by decide +kernel
theorem dX12_twins_9 : decode cX12_twins 9 = .ok (.iload_n 2, 1) := by decide +kernel
theorem dX12_twins_10 : decode cX12_twins 10 = .ok (.aload_n 0, 1) := by decide +kernel
theorem dX12_twins_11 : decode cX12_twins 11 = .ok (.invokevirtual 55, 3) := by decide +kernel
theorem dX12_twins_14 : decode cX12_twins 14 = .ok (.if_icmp .ge 59, 3) := by decide +kernel
theorem dX12_twins_17 : decode cX12_twins 17 = .ok (.iconst 0, 1) := by decide +kernel
theorem dX12_twins_18 : decode cX12_twins 18 = .ok (.istore_n 3, 1) := by decide +kernel
theorem dX12_twins_19 : decode cX12_twins 19 = .ok (.iload_n 3, 1) := by decide +kernel
theorem dX12_twins_20 : decode cX12_twins 20 = .ok (.iload_n 2, 1) := by decide +kernel
theorem dX12_twins_21 : decode cX12_twins 21 = .ok (.if_icmp .ge 46, 3) := by decide +kernel
theorem dX12_twins_24 : decode cX12_twins 24 = .ok (.iload_n 1, 1) := by decide +kernel
theorem dX12_twins_25 : decode cX12_twins 25 = .ok (.aload_n 0, 1) := by decide +kernel
theorem dX12_twins_26 : decode cX12_twins 26 = .ok (.iload_n 2, 1) := by decide +kernel
theorem dX12_twins_27 : decode cX12_twins 27 = .ok (.invokevirtual 278, 3) := by decide +kernel
theorem dX12_twins_30 : decode cX12_twins 30 = .ok (.ifCond .ne 28, 3) := by decide +kernel
theorem dX12_twins_33 : decode cX12_twins 33 = .ok (.aload_n 0, 1) := by decide +kernel
theorem dX12_twins_34 : decode cX12_twins 34 = .ok (.iload_n 3, 1) := by decide +kernel
theorem dX12_twins_35 : decode cX12_twins 35 = .ok (.invokevirtual 278, 3) := by decide +kernel
theorem dX12_twins_38 : decode cX12_twins 38 = .ok (.ifCond .ne 20, 3) := by decide +kernel
theorem dX12_twins_41 : decode cX12_twins 41 = .ok (.aload_n 0, 1) := by decide +kernel
theorem dX12_twins_42 : decode cX12_twins 42 = .ok (.iload_n 2, 1) := by decide +kernel
theorem dX12_twins_43 : decode cX12_twins 43 = .ok (.invokevirtual 281, 3) := by decide +kernel
theorem dX12_twins_46 : decode cX12_twins 46 = .ok (.aload_n 0, 1) := by decide +kernel
theorem dX12_twins_47 : decode cX12_twins 47 = .ok (.iload_n 3, 1) := by decide +kernel
theorem dX12_twins_48 : decode cX12_twins 48 = .ok (.invokevirtual 281, 3) := by decide +kernel
theorem dX12_twins_51 : decode cX12_twins 51 = .ok (.if_icmp .ne 7, 3) := by decide +kernel
theorem dX12_twins_54 : decode cX12_twins 54 = .ok (.iconst 1, 1) := by decide +kernel
theorem dX12_twins_55 : decode cX12_twins 55 = .ok (.goto 4, 3) := by decide +kernel
theorem dX12_twins_58 : decode cX12_twins 58 = .ok (.iconst 0, 1) := by decide +kernel
theorem dX12_twins_59 : decode cX12_twins 59 = .ok (.iadd, 1) := by decide +kernel
theorem dX12_twins_60 : decode cX12_twins 60 = .ok (.istore_n 1, 1) := by decide +kernel
theorem dX12_twins_61 : decode cX12_twins 61 = .ok (.iinc 3 1, 3) := by decide +kernel
theorem dX12_twins_64 : decode cX12_twins 64 = .ok (.goto (-45), 3) := by decide +kernel
theorem dX12_twins_67 : decode cX12_twins 67 = .ok (.iinc 2 1, 3) := by decide +kernel
theorem dX12_twins_70 : decode cX12_twins 70 = .ok (.goto (-61), 3) := by decide +kernel
theorem dX12_twins_73 : decode cX12_twins 73 = .ok (.iload_n 1, 1) := by decide +kernel
theorem dX12_twins_74 : decode cX12_twins 74 = .ok (.ireturn, 1) := by decide +kernel
set_option maxRecDepth 20000 in
theorem ggX12_moreBehind_X12_loadOf : GoodIn wsX12_moreBehind wsX12_loadOf := goodIn_r _ [5, 6, 7, 8, 9, 4, 10, 11, 12, 13, 14, 15, 16, 17, 18, 19, 20, 21, 22, 23, 24, 25, 26, 27, 28, 29, 30, 31, 32, 33, 34, 35, 36, 37, 38, 39, 40, 41, 42, 43, 44, 45, 46, 47, 48, 49, 50, 51, 52, 53, 54, 55] (by decide +kernel) (by decide +kernel)
set_option maxRecDepth 20000 in
theorem gX12_moreBehind_X12_loadOf : GoodIn wsX12_moreBehind (wsV RX12 269 RX12 yX12_loadOf wsX12_loadOf) := goodIn_app (goodIn_of _ (by decide +kernel)) ggX12_moreBehind_X12_loadOf
set_option maxRecDepth 20000 in
theorem ggX12_moreBehind_X12_thingsIn : GoodIn wsX12_moreBehind wsX12_thingsIn := goodIn_r _ [10, 11, 12, 13, 4, 14, 6, 15, 16, 17, 18, 19, 20, 21, 36, 37, 38, 39, 40, 41, 42, 43, 44, 45, 46, 47, 48, 49, 50, 51, 52, 53, 54, 55] (by decide +kernel) (by decide +kernel)
set_option maxRecDepth 20000 in
theorem gX12_moreBehind_X12_thingsIn : GoodIn wsX12_moreBehind (wsV RX12 248 RX12 yX12_thingsIn wsX12_thingsIn) := goodIn_app (goodIn_of _ (by decide +kernel)) ggX12_moreBehind_X12_thingsIn
set_option maxRecDepth 20000 in
theorem ggX12_moreBehind_X12_weightOf : GoodIn wsX12_moreBehind wsX12_weightOf := goodIn_r _ [25, 11, 12, 13, 4, 14, 6, 26, 27, 28, 15, 16, 17, 18, 19, 20, 21, 36, 37, 38, 39, 40, 41, 42, 43, 44, 45, 46, 47, 48, 49, 50, 51, 52, 53, 54, 55] (by decide +kernel) (by decide +kernel)
set_option maxRecDepth 20000 in
theorem gX12_moreBehind_X12_weightOf : GoodIn wsX12_moreBehind (wsV RX12 252 RX12 yX12_weightOf wsX12_weightOf) := goodIn_app (goodIn_of _ (by decide +kernel)) ggX12_moreBehind_X12_weightOf
theorem dX12_moreBehind_0 : decode cX12_moreBehind 0 = .ok (.aload_n 0, 1) := by decide +kernel
theorem dX12_moreBehind_1 : decode cX12_moreBehind 1 = .ok (.iconst 2, 1) := by decide +kernel
theorem dX12_moreBehind_2 : decode cX12_moreBehind 2 = .ok (.iload_n 1, 1) := by decide +kernel
theorem dX12_moreBehind_3 : decode cX12_moreBehind 3 = .ok (.imul, 1) := by decide +kernel
theorem dX12_moreBehind_4 : decode cX12_moreBehind 4 = .ok (.iconst 1, 1) := by decide +kernel
theorem dX12_moreBehind_5 : decode cX12_moreBehind 5 = .ok (.iadd, 1) := by decide +kernel
theorem dX12_moreBehind_6 : decode cX12_moreBehind 6 = .ok (.invokevirtual 269, 3) := by decide +kernel
theorem dX12_moreBehind_9 : decode cX12_moreBehind 9 = .ok (.aload_n 0, 1) := by decide +kernel
theorem dX12_moreBehind_10 : decode cX12_moreBehind 10 = .ok (.iconst 2, 1) := by decide +kernel
theorem dX12_moreBehind_11 : decode cX12_moreBehind 11 = .ok (.iload_n 1, 1) := by decide +kernel
theorem dX12_moreBehind_12 : decode cX12_moreBehind 12 = .ok (.imul, 1) := by decide +kernel
theorem dX12_moreBehind_13 : decode cX12_moreBehind 13 = .ok (.invokevirtual 269, 3) := by decide +kernel
theorem dX12_moreBehind_16 : decode cX12_moreBehind 16 = .ok (.isub, 1) := by decide +kernel
theorem dX12_moreBehind_17 : decode cX12_moreBehind 17 = .ok (.iconst 2, 1) := by decide +kernel
theorem dX12_moreBehind_18 : decode cX12_moreBehind 18 = .ok (.aload_n 0, 1) := by decide +kernel
theorem dX12_moreBehind_19 : decode cX12_moreBehind 19 = .ok (.iload_n 2, 1) := by decide +kernel
theorem dX12_moreBehind_20 : decode cX12_moreBehind 20 = .ok (.aload_n 0, 1) := by decide +kernel
theorem dX12_moreBehind_21 : decode cX12_moreBehind 21 = .ok (.iconst 2, 1) := by decide +kernel
theorem dX12_moreBehind_22 : decode cX12_moreBehind 22 = .ok (.iload_n 1, 1) := by decide +kernel
theorem dX12_moreBehind_23 : decode cX12_moreBehind 23 = .ok (.imul, 1) := by decide +kernel
theorem dX12_moreBehind_24 : decode cX12_moreBehind 24 = .ok (.invokevirtual 248, 3) := by decide +kernel
theorem dX12_moreBehind_27 : decode cX12_moreBehind 27 = .ok (.iand, 1) := by decide +kernel
theorem dX12_moreBehind_28 : decode cX12_moreBehind 28 = .ok (.invokevirtual 252, 3) := by decide +kernel
theorem dX12_moreBehind_31 : decode cX12_moreBehind 31 = .ok (.imul, 1) := by decide +kernel
theorem dX12_moreBehind_32 : decode cX12_moreBehind 32 = .ok (.iadd, 1) := by decide +kernel
theorem dX12_moreBehind_33 : decode cX12_moreBehind 33 = .ok (.iconst 2, 1) := by decide +kernel
theorem dX12_moreBehind_34 : decode cX12_moreBehind 34 = .ok (.aload_n 0, 1) := by decide +kernel
theorem dX12_moreBehind_35 : decode cX12_moreBehind 35 = .ok (.iload_n 2, 1) := by decide +kernel
theorem dX12_moreBehind_36 : decode cX12_moreBehind 36 = .ok (.aload_n 0, 1) := by decide +kernel
theorem dX12_moreBehind_37 : decode cX12_moreBehind 37 = .ok (.iconst 2, 1) := by decide +kernel
theorem dX12_moreBehind_38 : decode cX12_moreBehind 38 = .ok (.iload_n 1, 1) := by decide +kernel
theorem dX12_moreBehind_39 : decode cX12_moreBehind 39 = .ok (.imul, 1) := by decide +kernel
theorem dX12_moreBehind_40 : decode cX12_moreBehind 40 = .ok (.iconst 1, 1) := by decide +kernel
theorem dX12_moreBehind_41 : decode cX12_moreBehind 41 = .ok (.iadd, 1) := by decide +kernel
theorem dX12_moreBehind_42 : decode cX12_moreBehind 42 = .ok (.invokevirtual 248, 3) := by decide +kernel
theorem dX12_moreBehind_45 : decode cX12_moreBehind 45 = .ok (.iand, 1) := by decide +kernel
theorem dX12_moreBehind_46 : decode cX12_moreBehind 46 = .ok (.invokevirtual 252, 3) := by decide +kernel
theorem dX12_moreBehind_49 : decode cX12_moreBehind 49 = .ok (.imul, 1) := by decide +kernel
theorem dX12_moreBehind_50 : decode cX12_moreBehind 50 = .ok (.isub, 1) := by decide +kernel
theorem dX12_moreBehind_51 : decode cX12_moreBehind 51 = .ok (.ireturn, 1) := by decide +kernel
set_option maxRecDepth 20000 in
theorem ggX12_thingsOf_X12_thingsIn : GoodIn wsX12_thingsOf wsX12_thingsIn := goodIn_r _ [5, 6, 7, 8, 4, 9, 10, 11, 12, 13, 14, 15, 16, 17, 18, 19, 20, 21, 22, 23, 24, 25, 26, 27, 28, 29, 30, 31, 32, 33, 34, 35, 36, 37] (by decide +kernel) (by decide +kernel)
set_option maxRecDepth 20000 in
theorem gX12_thingsOf_X12_thingsIn : GoodIn wsX12_thingsOf (wsV RX12 248 RX12 yX12_thingsIn wsX12_thingsIn) := goodIn_app (goodIn_of _ (by decide +kernel)) ggX12_thingsOf_X12_thingsIn
theorem dX12_thingsOf_0 : decode cX12_thingsOf 0 = .ok (.aload_n 0, 1) := by decide +kernel
theorem dX12_thingsOf_1 : decode cX12_thingsOf 1 = .ok (.iconst 2, 1) := by decide +kernel
theorem dX12_thingsOf_2 : decode cX12_thingsOf 2 = .ok (.iload_n 1, 1) := by decide +kernel
theorem dX12_thingsOf_3 : decode cX12_thingsOf 3 = .ok (.imul, 1) := by decide +kernel
theorem dX12_thingsOf_4 : decode cX12_thingsOf 4 = .ok (.invokevirtual 248, 3) := by decide +kernel
theorem dX12_thingsOf_7 : decode cX12_thingsOf 7 = .ok (.aload_n 0, 1) := by decide +kernel
theorem dX12_thingsOf_8 : decode cX12_thingsOf 8 = .ok (.iconst 2, 1) := by decide +kernel
theorem dX12_thingsOf_9 : decode cX12_thingsOf 9 = .ok (.iload_n 1, 1) := by decide +kernel
theorem dX12_thingsOf_10 : decode cX12_thingsOf 10 = .ok (.imul, 1) := by decide +kernel
theorem dX12_thingsOf_11 : decode cX12_thingsOf 11 = .ok (.iconst 1, 1) := by decide +kernel
theorem dX12_thingsOf_12 : decode cX12_thingsOf 12 = .ok (.iadd, 1) := by decide +kernel
theorem dX12_thingsOf_13 : decode cX12_thingsOf 13 = .ok (.invokevirtual 248, 3) := by decide +kernel
theorem dX12_thingsOf_16 : decode cX12_thingsOf 16 = .ok (.ior, 1) := by decide +kernel
theorem dX12_thingsOf_17 : decode cX12_thingsOf 17 = .ok (.ireturn, 1) := by decide +kernel
set_option maxRecDepth 20000 in
theorem ggX12_best_X12_noPlank : GoodIn wsX12_best wsX12_noPlank := goodIn_r _ [13, 14, 15, 16, 12, 17, 18, 19, 20, 21, 67, 68, 69, 70, 71, 72, 73, 74, 75, 76, 77, 78, 79, 80, 81, 82, 83, 84, 85, 86] (by decide +kernel) (by decide +kernel)
set_option maxRecDepth 20000 in
theorem gX12_best_X12_noPlank : GoodIn wsX12_best (wsV RX12 309 RX12 yX12_noPlank wsX12_noPlank) := goodIn_app (goodIn_of _ (by decide +kernel)) ggX12_best_X12_noPlank
set_option maxRecDepth 20000 in
theorem ggX12_best_X12_throwsIf : GoodIn wsX12_best wsX12_throwsIf := goodIn_r _ [25, 1, 67, 68, 69, 70, 71, 72, 73, 74, 75, 76, 77, 78, 79, 80, 81, 82, 83, 84, 85, 86] (by decide +kernel) (by decide +kernel)
set_option maxRecDepth 20000 in
theorem gX12_best_X12_throwsIf : GoodIn wsX12_best (wsV RX12 242 RX12 yX12_throwsIf wsX12_throwsIf) := goodIn_app (goodIn_of _ (by decide +kernel)) ggX12_best_X12_throwsIf
set_option maxRecDepth 20000 in
theorem ggX12_best_X12_moreBehind : GoodIn wsX12_best wsX12_moreBehind := goodIn_r _ [29, 30, 31, 32, 12, 33, 18, 34, 35, 36, 37, 38, 39, 40, 41, 42, 43, 44, 45, 46, 47, 48, 49, 50, 51, 52, 53, 54, 55, 56, 57, 58, 59, 60, 61, 62, 67, 68, 69, 70, 71, 72, 73, 74, 75, 76, 77, 78, 79, 80, 81, 82, 83, 84, 85, 86] (by decide +kernel) (by decide +kernel)
set_option maxRecDepth 20000 in
theorem gX12_best_X12_moreBehind : GoodIn wsX12_best (wsV RX12 392 RX12 yX12_moreBehind wsX12_moreBehind) := goodIn_app (goodIn_of _ (by decide +kernel)) ggX12_best_X12_moreBehind
set_option maxRecDepth 20000 in
theorem ggX12_best_X12_things : GoodIn wsX12_best wsX12_things := goodIn_r _ [41, 18, 67, 68, 69, 70, 71, 72, 73, 74, 75, 76, 77, 78, 79, 80, 81, 82, 83, 84, 85, 86] (by decide +kernel) (by decide +kernel)
set_option maxRecDepth 20000 in
theorem gX12_best_X12_things : GoodIn wsX12_best (wsV RX12 82 RX12 yX12_things wsX12_things) := goodIn_app (goodIn_of _ (by decide +kernel)) ggX12_best_X12_things
set_option maxRecDepth 20000 in
theorem ggX12_best_X12_thingsOf : GoodIn wsX12_best wsX12_thingsOf := goodIn_r _ [66, 34, 35, 36, 12, 37, 38, 39, 40, 41, 18, 42, 43, 44, 45, 46, 47, 48, 67, 68, 69, 70, 71, 72, 73, 74, 75, 76, 77, 78, 79, 80, 81, 82, 83, 84, 85, 86] (by decide +kernel) (by decide +kernel)
set_option maxRecDepth 20000 in
theorem gX12_best_X12_thingsOf : GoodIn wsX12_best (wsV RX12 398 RX12 yX12_thingsOf wsX12_thingsOf) := goodIn_app (goodIn_of _ (by decide +kernel)) ggX12_best_X12_thingsOf
set_option maxRecDepth 20000 in
theorem ggX12_best_X12_holds : GoodIn wsX12_best wsX12_holds := goodIn_r _ [55] (by decide +kernel) (by decide +kernel)
set_option maxRecDepth 20000 in
theorem gX12_best_X12_holds : GoodIn wsX12_best (va_wsS RX12 245 yX12_holds wsX12_holds) := goodIn_app (goodIn_of _ (by decide +kernel)) ggX12_best_X12_holds
theorem dX12_best_0 : decode cX12_best 0 = .ok (.aload_n 0, 1) := by decide +kernel
theorem dX12_best_1 : decode cX12_best 1 = .ok (.iconst 0, 1) := by decide +kernel
theorem dX12_best_2 : decode cX12_best 2 = .ok (.putfield 3, 3) := by decide +kernel
theorem dX12_best_5 : decode cX12_best 5 = .ok (.aload_n 0, 1) := by decide +kernel
theorem dX12_best_6 : decode cX12_best 6 = .ok (.aload_n 0, 1) := by decide +kernel
theorem dX12_best_7 : decode cX12_best 7 = .ok (.iload_n 1, 1) := by decide +kernel
theorem dX12_best_8 : decode cX12_best 8 = .ok (.invokevirtual 309, 3) := by decide +kernel
theorem dX12_best_11 : decode cX12_best 11 = .ok (.iconst 1, 1) := by decide +kernel
theorem dX12_best_12 : decode cX12_best 12 = .ok (.invokevirtual 242, 3) := by decide +kernel
theorem dX12_best_15 : decode cX12_best 15 = .ok (.ifCond .eq 5, 3) := by decide +kernel
theorem dX12_best_18 : decode cX12_best 18 = .ok (.iconst 0, 1) := by decide +kernel
theorem dX12_best_19 : decode cX12_best 19 = .ok (.ireturn, 1) := by decide +kernel
theorem dX12_best_20 : decode cX12_best 20 = .ok (.iconst (-1), 1) := by decide +kernel
theorem dX12_best_21 : decode cX12_best 21 = .ok (.istore_n 2, 1) := by decide +kernel
theorem dX12_best_22 : decode cX12_best 22 = .ok (.aload_n 0, 1) := by decide +kernel
theorem dX12_best_23 : decode cX12_best 23 = .ok (.iload_n 1, 1) := by decide +kernel
theorem dX12_best_24 : decode cX12_best 24 = .ok (.iconst 0, 1) := by decide +kernel
theorem dX12_best_25 : decode cX12_best 25 = .ok (.invokevirtual 392, 3) := by decide +kernel
theorem dX12_best_28 : decode cX12_best 28 = .ok (.invokestatic 395, 3) := by decide +kernel
theorem dX12_best_31 : decode cX12_best 31 = .ok (.istore_n 3, 1) := by decide +kernel
theorem dX12_best_32 : decode cX12_best 32 = .ok (.iconst 0, 1) := by decide +kernel
theorem dX12_best_33 : decode cX12_best 33 = .ok (.istore 4, 2) := by decide +kernel
theorem dX12_best_35 : decode cX12_best 35 = .ok (.iload 4, 2) := by decide +kernel
theorem dX12_best_37 : decode cX12_best 37 = .ok (.aload_n 0, 1) := by decide +kernel
theorem dX12_best_38 : decode cX12_best 38 = .ok (.invokevirtual 82, 3) := by decide +kernel
theorem dX12_best_41 : decode cX12_best 41 = .ok (.if_icmp .ge 59, 3) := by decide +kernel
theorem dX12_best_44 : decode cX12_best 44 = .ok (.aload_n 0, 1) := by decide +kernel
theorem dX12_best_45 : decode cX12_best 45 = .ok (.iload_n 1, 1) := by decide +kernel
theorem dX12_best_46 : decode cX12_best 46 = .ok (.invokevirtual 398, 3) := by decide +kernel
theorem dX12_best_49 : decode cX12_best 49 = .ok (.iload 4, 2) := by decide +kernel
theorem dX12_best_51 : decode cX12_best 51 = .ok (.invokestatic 245, 3) := by decide +kernel
theorem dX12_best_54 : decode cX12_best 54 = .ok (.ifCond .ne 6, 3) := by decide +kernel
theorem dX12_best_57 : decode cX12_best 57 = .ok (.goto 37, 3) := by decide +kernel
theorem dX12_best_60 : decode cX12_best 60 = .ok (.aload_n 0, 1) := by decide +kernel
theorem dX12_best_61 : decode cX12_best 61 = .ok (.iload_n 1, 1) := by decide +kernel
theorem dX12_best_62 : decode cX12_best 62 = .ok (.iconst 1, 1) := by decide +kernel
theorem dX12_best_63 : decode cX12_best 63 = .ok (.iload 4, 2) := by decide +kernel
theorem dX12_best_65 : decode cX12_best 65 = .ok (.ishl, 1) := by decide +kernel
theorem dX12_best_66 : decode cX12_best 66 = .ok (.invokevirtual 392, 3) := by decide +kernel
theorem dX12_best_69 : decode cX12_best 69 = .ok (.invokestatic 395, 3) := by decide +kernel
theorem dX12_best_72 : decode cX12_best 72 = .ok (.istore 5, 2) := by decide +kernel
theorem dX12_best_74 : decode cX12_best 74 = .ok (.iload 5, 2) := by decide +kernel
theorem dX12_best_76 : decode cX12_best 76 = .ok (.iload_n 3, 1) := by decide +kernel
theorem dX12_best_77 : decode cX12_best 77 = .ok (.if_icmp .ge 8, 3) := by decide +kernel
theorem dX12_best_80 : decode cX12_best 80 = .ok (.iload 4, 2) := by decide +kernel
theorem dX12_best_82 : decode cX12_best 82 = .ok (.goto 4, 3) := by decide +kernel
theorem dX12_best_85 : decode cX12_best 85 = .ok (.iload_n 2, 1) := by decide +kernel
theorem dX12_best_86 : decode cX12_best 86 = .ok (.istore_n 2, 1) := by decide +kernel
theorem dX12_best_87 : decode cX12_best 87 = .ok (.iload_n 3, 1) := by decide +kernel
theorem dX12_best_88 : decode cX12_best 88 = .ok (.iload 5, 2) := by decide +kernel
theorem dX12_best_90 : decode cX12_best 90 = .ok (.invokestatic 258, 3) := by decide +kernel
theorem dX12_best_93 : decode cX12_best 93 = .ok (.istore_n 3, 1) := by decide +kernel
theorem dX12_best_94 : decode cX12_best 94 = .ok (.iinc 4 1, 3) := by decide +kernel
theorem dX12_best_97 : decode cX12_best 97 = .ok (.goto (-62), 3) := by decide +kernel
theorem dX12_best_100 : decode cX12_best 100 = .ok (.iload_n 2, 1) := by decide +kernel
theorem dX12_best_101 : decode cX12_best 101 = .ok (.ireturn, 1) := by decide +kernel
set_option maxRecDepth 20000 in
theorem ggX12_carriedTo_X12_thingsOf : GoodIn wsX12_carriedTo wsX12_thingsOf := goodIn_r _ [10, 11, 12, 13, 9, 14, 15, 16, 17, 18, 19, 20, 21, 22, 23, 24, 25, 26, 63, 64, 65, 66, 67, 68, 69, 70, 71, 72, 73, 74, 75, 76, 77, 78, 79, 80, 81, 82] (by decide +kernel) (by decide +kernel)
set_option maxRecDepth 20000 in
theorem gX12_carriedTo_X12_thingsOf : GoodIn wsX12_carriedTo (wsV RX12 398 RX12 yX12_thingsOf wsX12_thingsOf) := goodIn_app (goodIn_of _ (by decide +kernel)) ggX12_carriedTo_X12_thingsOf
set_option maxRecDepth 20000 in
theorem ggX12_carriedTo_X12_moreBehind : GoodIn wsX12_carriedTo wsX12_moreBehind := goodIn_r _ [30, 31, 32, 33, 9, 34, 19, 11, 12, 13, 14, 15, 16, 17, 18, 20, 21, 22, 23, 24, 25, 26, 35, 36, 37, 38, 39, 40, 41, 42, 43, 44, 45, 46, 47, 48, 63, 64, 65, 66, 67, 68, 69, 70, 71, 72, 73, 74, 75, 76, 77, 78, 79, 80, 81, 82] (by decide +kernel) (by decide +kernel)
set_option maxRecDepth 20000 in
theorem gX12_carriedTo_X12_moreBehind : GoodIn wsX12_carriedTo (wsV RX12 392 RX12 yX12_moreBehind wsX12_moreBehind) := goodIn_app (goodIn_of _ (by decide +kernel)) ggX12_carriedTo_X12_moreBehind
set_option maxRecDepth 20000 in
theorem ggX12_carriedTo_X12_tiltBy : GoodIn wsX12_carriedTo wsX12_tiltBy := goodIn_r _ [52, 19, 2, 3, 4, 5, 53, 54, 55, 63, 64, 65, 66, 67, 68, 69, 70, 71, 72, 73, 74, 75, 76, 77, 78, 79, 80, 81, 82] (by decide +kernel) (by decide +kernel)
set_option maxRecDepth 20000 in
theorem gX12_carriedTo_X12_tiltBy : GoodIn wsX12_carriedTo (wsV RX12 272 RX12 yX12_tiltBy wsX12_tiltBy) := goodIn_app (goodIn_of _ (by decide +kernel)) ggX12_carriedTo_X12_tiltBy
set_option maxRecDepth 20000 in
theorem ggX12_carriedTo_X12_weightOf : GoodIn wsX12_carriedTo wsX12_weightOf := goodIn_r _ [38, 15, 16, 17, 9, 18, 19, 39, 40, 41, 20, 21, 22, 23, 24, 25, 26, 63, 64, 65, 66, 67, 68, 69, 70, 71, 72, 73, 74, 75, 76, 77, 78, 79, 80, 81, 82] (by decide +kernel) (by decide +kernel)
set_option maxRecDepth 20000 in
theorem gX12_carriedTo_X12_weightOf : GoodIn wsX12_carriedTo (wsV RX12 252 RX12 yX12_weightOf wsX12_weightOf) := goodIn_app (goodIn_of _ (by decide +kernel)) ggX12_carriedTo_X12_weightOf
set_option maxRecDepth 20000 in
theorem ggX12_carriedTo_J6_bitCount_0f7a4 : GoodIn wsX12_carriedTo wsJ6_bitCount_0f7a4 := goodIn_r _ [59, 60, 61, 62] (by decide +kernel) (by decide +kernel)
set_option maxRecDepth 20000 in
theorem gX12_carriedTo_J6_bitCount_0f7a4 : GoodIn wsX12_carriedTo (va_wsS RX12 358 yJ6_bitCount_0f7a4 wsJ6_bitCount_0f7a4) := goodIn_app (goodIn_of _ (by decide +kernel)) ggX12_carriedTo_J6_bitCount_0f7a4
theorem dX12_carriedTo_0 : decode cX12_carriedTo 0 = .ok (.aload_n 0, 1) := by decide +kernel
theorem dX12_carriedTo_1 : decode cX12_carriedTo 1 = .ok (.iload_n 1, 1) := by decide +kernel
theorem dX12_carriedTo_2 : decode cX12_carriedTo 2 = .ok (.invokevirtual 398, 3) := by decide +kernel
theorem dX12_carriedTo_5 : decode cX12_carriedTo 5 = .ok (.istore 4, 2) := by decide +kernel
theorem dX12_carriedTo_7 : decode cX12_carriedTo 7 = .ok (.iconst (-1), 1) := by decide +kernel
theorem dX12_carriedTo_8 : decode cX12_carriedTo 8 = .ok (.istore 5, 2) := by decide +kernel
theorem dX12_carriedTo_10 : decode cX12_carriedTo 10 = .ok (.ldc_w 401, 3) := by decide +kernel
theorem dX12_carriedTo_13 : decode cX12_carriedTo 13 = .ok (.istore 6, 2) := by decide +kernel
theorem dX12_carriedTo_15 : decode cX12_carriedTo 15 = .ok (.iconst 0, 1) := by decide +kernel
theorem dX12_carriedTo_16 : decode cX12_carriedTo 16 = .ok (.istore 7, 2) := by decide +kernel
theorem dX12_carriedTo_18 : decode cX12_carriedTo 18 = .ok (.iload 7, 2) := by decide +kernel
theorem dX12_carriedTo_20 : decode cX12_carriedTo 20 = .ok (.iload 4, 2) := by decide +kernel
theorem dX12_carriedTo_22 : decode cX12_carriedTo 22 = .ok (.if_icmp .gt 82, 3) := by decide +kernel
theorem dX12_carriedTo_25 : decode cX12_carriedTo 25 = .ok (.iload 7, 2) := by decide +kernel
theorem dX12_carriedTo_27 : decode cX12_carriedTo 27 = .ok (.iload 4, 2) := by decide +kernel
theorem dX12_carriedTo_29 : decode cX12_carriedTo 29 = .ok (.iconst (-1), 1) := by decide +kernel
theorem dX12_carriedTo_30 : decode cX12_carriedTo 30 = .ok (.ixor, 1) := by decide +kernel
theorem dX12_carriedTo_31 : decode cX12_carriedTo 31 = .ok (.iand, 1) := by decide +kernel
theorem dX12_carriedTo_32 : decode cX12_carriedTo 32 = .ok (.ifCond .ne 66, 3) := by decide +kernel
theorem dX12_carriedTo_35 : decode cX12_carriedTo 35 = .ok (.aload_n 0, 1) := by decide +kernel
theorem dX12_carriedTo_36 : decode cX12_carriedTo 36 = .ok (.aload_n 0, 1) := by decide +kernel
theorem dX12_carriedTo_37 : decode cX12_carriedTo 37 = .ok (.iload_n 1, 1) := by decide +kernel
theorem dX12_carriedTo_38 : decode cX12_carriedTo 38 = .ok (.iload 7, 2) := by decide +kernel
theorem dX12_carriedTo_40 : decode cX12_carriedTo 40 = .ok (.invokevirtual 392, 3) := by decide +kernel
theorem dX12_carriedTo_43 : decode cX12_carriedTo 43 = .ok (.invokevirtual 272, 3) := by decide +kernel
theorem dX12_carriedTo_46 : decode cX12_carriedTo 46 = .ok (.iload_n 2, 1) := by decide +kernel
theorem dX12_carriedTo_47 : decode cX12_carriedTo 47 = .ok (.if_icmp .eq 6, 3) := by decide +kernel
theorem dX12_carriedTo_50 : decode cX12_carriedTo 50 = .ok (.goto 48, 3) := by decide +kernel
theorem dX12_carriedTo_53 : decode cX12_carriedTo 53 = .ok (.iload_n 3, 1) := by decide +kernel
theorem dX12_carriedTo_54 : decode cX12_carriedTo 54 = .ok (.ifCond .eq 12, 3) := by decide +kernel
theorem dX12_carriedTo_57 : decode cX12_carriedTo 57 = .ok (.aload_n 0, 1) := by decide +kernel
theorem dX12_carriedTo_58 : decode cX12_carriedTo 58 = .ok (.iload 7, 2) := by decide +kernel
theorem dX12_carriedTo_60 : decode cX12_carriedTo 60 = .ok (.invokevirtual 252, 3) := by decide +kernel
theorem dX12_carriedTo_63 : decode cX12_carriedTo 63 = .ok (.goto 8, 3) := by decide +kernel
theorem dX12_carriedTo_66 : decode cX12_carriedTo 66 = .ok (.iload 7, 2) := by decide +kernel
theorem dX12_carriedTo_68 : decode cX12_carriedTo 68 = .ok (.invokestatic 358, 3) := by decide +kernel
theorem dX12_carriedTo_71 : decode cX12_carriedTo 71 = .ok (.istore 8, 2) := by decide +kernel
theorem dX12_carriedTo_73 : decode cX12_carriedTo 73 = .ok (.iload 8, 2) := by decide +kernel
theorem dX12_carriedTo_75 : decode cX12_carriedTo 75 = .ok (.iload 6, 2) := by decide +kernel
theorem dX12_carriedTo_77 : decode cX12_carriedTo 77 = .ok (.if_icmp .ge 8, 3) := by decide +kernel
theorem dX12_carriedTo_80 : decode cX12_carriedTo 80 = .ok (.iload 7, 2) := by decide +kernel
theorem dX12_carriedTo_82 : decode cX12_carriedTo 82 = .ok (.goto 5, 3) := by decide +kernel
theorem dX12_carriedTo_85 : decode cX12_carriedTo 85 = .ok (.iload 5, 2) := by decide +kernel
theorem dX12_carriedTo_87 : decode cX12_carriedTo 87 = .ok (.istore 5, 2) := by decide +kernel
theorem dX12_carriedTo_89 : decode cX12_carriedTo 89 = .ok (.iload 6, 2) := by decide +kernel
theorem dX12_carriedTo_91 : decode cX12_carriedTo 91 = .ok (.iload 8, 2) := by decide +kernel
theorem dX12_carriedTo_93 : decode cX12_carriedTo 93 = .ok (.invokestatic 258, 3) := by decide +kernel
theorem dX12_carriedTo_96 : decode cX12_carriedTo 96 = .ok (.istore 6, 2) := by decide +kernel
theorem dX12_carriedTo_98 : decode cX12_carriedTo 98 = .ok (.iinc 7 1, 3) := by decide +kernel
theorem dX12_carriedTo_101 : decode cX12_carriedTo 101 = .ok (.goto (-83), 3) := by decide +kernel
theorem dX12_carriedTo_104 : decode cX12_carriedTo 104 = .ok (.iload 5, 2) := by decide +kernel
theorem dX12_carriedTo_106 : decode cX12_carriedTo 106 = .ok (.ireturn, 1) := by decide +kernel
set_option maxRecDepth 20000 in
theorem ggX12_noTilt_X12_in : GoodIn wsX12_noTilt wsX12_in := goodIn_r _ [4] (by decide +kernel) (by decide +kernel)
set_option maxRecDepth 20000 in
theorem gX12_noTilt_X12_in : GoodIn wsX12_noTilt (va_wsS RX12 75 yX12_in wsX12_in) := goodIn_app (goodIn_of _ (by decide +kernel)) ggX12_noTilt_X12_in
theorem dX12_noTilt_0 : decode cX12_noTilt 0 = .ok (.iload_n 0, 1) := by decide +kernel
theorem dX12_noTilt_1 : decode cX12_noTilt 1 = .ok (.bipush (-5), 2) := by decide +kernel
theorem dX12_noTilt_3 : decode cX12_noTilt 3 = .ok (.iconst 5, 1) := by decide +kernel
theorem dX12_noTilt_4 : decode cX12_noTilt 4 = .ok (.invokestatic 75, 3) := by decide +kernel
theorem dX12_noTilt_7 : decode cX12_noTilt 7 = .ok (.ifCond .ne 7, 3) := by decide +kernel
theorem dX12_noTilt_10 : decode cX12_noTilt 10 = .ok (.iconst 1, 1) := by decide +kernel
theorem dX12_noTilt_11 : decode cX12_noTilt 11 = .ok (.goto 4, 3) := by decide +kernel
theorem dX12_noTilt_14 : decode cX12_noTilt 14 = .ok (.iconst 0, 1) := by decide +kernel
theorem dX12_noTilt_15 : decode cX12_noTilt 15 = .ok (.ireturn, 1) := by decide +kernel
set_option maxRecDepth 20000 in
theorem ggX12_stand_X12_noPlank : GoodIn wsX12_stand wsX12_noPlank := goodIn_r _ [6, 7, 8, 9, 5, 10, 11, 12, 13, 14, 86, 87, 88, 89, 90, 91, 92, 93, 94, 95, 96, 97, 98, 99, 100, 101, 102, 103, 104, 105] (by decide +kernel) (by decide +kernel)
set_option maxRecDepth 20000 in
theorem gX12_stand_X12_noPlank : GoodIn wsX12_stand (wsV RX12 309 RX12 yX12_noPlank wsX12_noPlank) := goodIn_app (goodIn_of _ (by decide +kernel)) ggX12_stand_X12_noPlank
set_option maxRecDepth 20000 in
theorem ggX12_stand_X12_throwsIf : GoodIn wsX12_stand wsX12_throwsIf := goodIn_r _ [18, 1, 86, 87, 88, 89, 90, 91, 92, 93, 94, 95, 96, 97, 98, 99, 100, 101, 102, 103, 104, 105] (by decide +kernel) (by decide +kernel)
set_option maxRecDepth 20000 in
theorem gX12_stand_X12_throwsIf : GoodIn wsX12_stand (wsV RX12 242 RX12 yX12_throwsIf wsX12_throwsIf) := goodIn_app (goodIn_of _ (by decide +kernel)) ggX12_stand_X12_throwsIf
set_option maxRecDepth 20000 in
theorem ggX12_stand_X12_noTilt : GoodIn wsX12_stand wsX12_noTilt := goodIn_r _ [21, 12, 13, 5, 14] (by decide +kernel) (by decide +kernel)
set_option maxRecDepth 20000 in
theorem gX12_stand_X12_noTilt : GoodIn wsX12_stand (va_wsS RX12 402 yX12_noTilt wsX12_noTilt) := goodIn_app (goodIn_of _ (by decide +kernel)) ggX12_stand_X12_noTilt
set_option maxRecDepth 20000 in
theorem ggX12_stand_X12_carriedTo : GoodIn wsX12_stand wsX12_carriedTo := goodIn_r _ [25, 26, 27, 28, 29, 30, 31, 32, 33, 5, 34, 35, 36, 37, 38, 39, 40, 41, 42, 11, 43, 44, 45, 46, 47, 48, 49, 50, 51, 52, 53, 54, 55, 56, 57, 58, 59, 60, 61, 62, 63, 64, 65, 66, 67, 68, 69, 70, 71, 72, 73, 74, 75, 76, 77, 78, 79, 80, 81, 82, 83, 84, 85, 86, 87, 88, 89, 90, 91, 92, 93, 94, 95, 96, 97, 98, 99, 100, 101, 102, 103, 104, 105] (by decide +kernel) (by decide +kernel)
set_option maxRecDepth 20000 in
theorem gX12_stand_X12_carriedTo : GoodIn wsX12_stand (wsV RX12 405 RX12 yX12_carriedTo wsX12_carriedTo) := goodIn_app (goodIn_of _ (by decide +kernel)) ggX12_stand_X12_carriedTo
theorem dX12_stand_0 : decode cX12_stand 0 = .ok (.aload_n 0, 1) := by decide +kernel
theorem dX12_stand_1 : decode cX12_stand 1 = .ok (.iconst 0, 1) := by decide +kernel
theorem dX12_stand_2 : decode cX12_stand 2 = .ok (.putfield 3, 3) := by decide +kernel
theorem dX12_stand_5 : decode cX12_stand 5 = .ok (.aload_n 0, 1) := by decide +kernel
theorem dX12_stand_6 : decode cX12_stand 6 = .ok (.aload_n 0, 1) := by decide +kernel
theorem dX12_stand_7 : decode cX12_stand 7 = .ok (.iload_n 1, 1) := by decide +kernel
theorem dX12_stand_8 : decode cX12_stand 8 = .ok (.invokevirtual 309, 3) := by decide +kernel
theorem dX12_stand_11 : decode cX12_stand 11 = .ok (.iconst 1, 1) := by decide +kernel
theorem dX12_stand_12 : decode cX12_stand 12 = .ok (.invokevirtual 242, 3) := by decide +kernel
theorem dX12_stand_15 : decode cX12_stand 15 = .ok (.ifCond .ne 15, 3) := by decide +kernel
theorem dX12_stand_18 : decode cX12_stand 18 = .ok (.aload_n 0, 1) := by decide +kernel
theorem dX12_stand_19 : decode cX12_stand 19 = .ok (.iload_n 2, 1) := by decide +kernel
theorem dX12_stand_20 : decode cX12_stand 20 = .ok (.invokestatic 402, 3) := by decide +kernel
theorem dX12_stand_23 : decode cX12_stand 23 = .ok (.iconst 2, 1) := by decide +kernel
theorem dX12_stand_24 : decode cX12_stand 24 = .ok (.invokevirtual 242, 3) := by decide +kernel
theorem dX12_stand_27 : decode cX12_stand 27 = .ok (.ifCond .eq 7, 3) := by decide +kernel
theorem dX12_stand_30 : decode cX12_stand 30 = .ok (.iconst 0, 1) := by decide +kernel
theorem dX12_stand_31 : decode cX12_stand 31 = .ok (.goto 10, 3) := by decide +kernel
theorem dX12_stand_34 : decode cX12_stand 34 = .ok (.aload_n 0, 1) := by decide +kernel
theorem dX12_stand_35 : decode cX12_stand 35 = .ok (.iload_n 1, 1) := by decide +kernel
theorem dX12_stand_36 : decode cX12_stand 36 = .ok (.iload_n 2, 1) := by decide +kernel
theorem dX12_stand_37 : decode cX12_stand 37 = .ok (.iconst 0, 1) := by decide +kernel
theorem dX12_stand_38 : decode cX12_stand 38 = .ok (.invokevirtual 405, 3) := by decide +kernel
theorem dX12_stand_41 : decode cX12_stand 41 = .ok (.ireturn, 1) := by decide +kernel
set_option maxRecDepth 20000 in
theorem ggX12_heave_X12_noPlank : GoodIn wsX12_heave wsX12_noPlank := goodIn_r _ [6, 7, 8, 9, 5, 10, 11, 12, 13, 14, 86, 87, 88, 89, 90, 91, 92, 93, 94, 95, 96, 97, 98, 99, 100, 101, 102, 103, 104, 105] (by decide +kernel) (by decide +kernel)
set_option maxRecDepth 20000 in
theorem gX12_heave_X12_noPlank : GoodIn wsX12_heave (wsV RX12 309 RX12 yX12_noPlank wsX12_noPlank) := goodIn_app (goodIn_of _ (by decide +kernel)) ggX12_heave_X12_noPlank
set_option maxRecDepth 20000 in
theorem ggX12_heave_X12_throwsIf : GoodIn wsX12_heave wsX12_throwsIf := goodIn_r _ [18, 1, 86, 87, 88, 89, 90, 91, 92, 93, 94, 95, 96, 97, 98, 99, 100, 101, 102, 103, 104, 105] (by decide +kernel) (by decide +kernel)
set_option maxRecDepth 20000 in
theorem gX12_heave_X12_throwsIf : GoodIn wsX12_heave (wsV RX12 242 RX12 yX12_throwsIf wsX12_throwsIf) := goodIn_app (goodIn_of _ (by decide +kernel)) ggX12_heave_X12_throwsIf
set_option maxRecDepth 20000 in
theorem ggX12_heave_X12_noTilt : GoodIn wsX12_heave wsX12_noTilt := goodIn_r _ [21, 12, 13, 5, 14] (by decide +kernel) (by decide +kernel)
set_option maxRecDepth 20000 in
theorem gX12_heave_X12_noTilt : GoodIn wsX12_heave (va_wsS RX12 402 yX12_noTilt wsX12_noTilt) := goodIn_app (goodIn_of _ (by decide +kernel)) ggX12_heave_X12_noTilt
