theorem dX11_house_95 : decode cX11_house 95 = .ok (.ireturn, 1) := by decide +kernel
theorem dX11_house_96 : decode cX11_house 96 = .ok (.aload_n 0, 1) := by decide +kernel
theorem dX11_house_97 : decode cX11_house 97 = .ok (.getfield 33, 3) := by decide +kernel
theorem dX11_house_100 : decode cX11_house 100 = .ok (.iload_n 1, 1) := by decide +kernel
theorem dX11_house_101 : decode cX11_house 101 = .ok (.invokevirtual 208, 3) := by decide +kernel
theorem dX11_house_104 : decode cX11_house 104 = .ok (.ireturn, 1) := by decide +kernel
theorem dX11_house_105 : decode cX11_house 105 = .ok (.aload_n 0, 1) := by decide +kernel
theorem dX11_house_106 : decode cX11_house 106 = .ok (.getfield 33, 3) := by decide +kernel
theorem dX11_house_109 : decode cX11_house 109 = .ok (.aload_n 0, 1) := by decide +kernel
theorem dX11_house_110 : decode cX11_house 110 = .ok (.getfield 40, 3) := by decide +kernel
theorem dX11_house_113 : decode cX11_house 113 = .ok (.iload_n 1, 1) := by decide +kernel
theorem dX11_house_114 : decode cX11_house 114 = .ok (.invokevirtual 211, 3) := by decide +kernel
theorem dX11_house_117 : decode cX11_house 117 = .ok (.ireturn, 1) := by decide +kernel
theorem dX11_house_118 : decode cX11_house 118 = .ok (.aload_n 0, 1) := by decide +kernel
theorem dX11_house_119 : decode cX11_house 119 = .ok (.getfield 33, 3) := by decide +kernel
theorem dX11_house_122 : decode cX11_house 122 = .ok (.aload_n 0, 1) := by decide +kernel
theorem dX11_house_123 : decode cX11_house 123 = .ok (.getfield 40, 3) := by decide +kernel
theorem dX11_house_126 : decode cX11_house 126 = .ok (.iload_n 1, 1) := by decide +kernel
theorem dX11_house_127 : decode cX11_house 127 = .ok (.invokevirtual 214, 3) := by decide +kernel
theorem dX11_house_130 : decode cX11_house 130 = .ok (.ireturn, 1) := by decide +kernel
theorem dX11_house_131 : decode cX11_house 131 = .ok (.aload_n 0, 1) := by decide +kernel
theorem dX11_house_132 : decode cX11_house 132 = .ok (.getfield 33, 3) := by decide +kernel
theorem dX11_house_135 : decode cX11_house 135 = .ok (.iload_n 1, 1) := by decide +kernel
theorem dX11_house_136 : decode cX11_house 136 = .ok (.invokevirtual 217, 3) := by decide +kernel
theorem dX11_house_139 : decode cX11_house 139 = .ok (.ireturn, 1) := by decide +kernel
theorem dX11_house_140 : decode cX11_house 140 = .ok (.aload_n 0, 1) := by decide +kernel
theorem dX11_house_141 : decode cX11_house 141 = .ok (.getfield 33, 3) := by decide +kernel
theorem dX11_house_144 : decode cX11_house 144 = .ok (.iload_n 1, 1) := by decide +kernel
theorem dX11_house_145 : decode cX11_house 145 = .ok (.invokevirtual 220, 3) := by decide +kernel
theorem dX11_house_148 : decode cX11_house 148 = .ok (.ireturn, 1) := by decide +kernel
theorem dX11_house_149 : decode cX11_house 149 = .ok (.new 190, 3) := by decide +kernel
theorem dX11_house_152 : decode cX11_house 152 = .ok (.dup, 1) := by decide +kernel
theorem dX11_house_153 : decode cX11_house 153 = .ok (.invokespecial 192, 3) := by decide +kernel
theorem dX11_house_156 : decode cX11_house 156 = .ok (.athrow, 1) := by decide +kernel
set_option maxRecDepth 20000 in
theorem ggX11_thing_X11_checkThing : GoodIn wsX11_thing wsX11_checkThing := goodIn_ca (goodIn_r _ [11, 12, 13, 3, 14, 15, 16, 17, 18, 19, 20, 21, 22, 23, 24, 25, 26, 27, 28, 29, 30, 31, 32, 33, 34, 35, 36, 37, 38, 39, 40, 41, 42, 43, 44, 45, 46, 47, 48, 49, 50, 51, 52, 53, 54] (by decide +kernel) (by decide +kernel)) (goodIn_sub (fun _ h => List.mem_cons_of_mem _ (List.mem_append_right _ h)) (by decide +kernel))
set_option maxRecDepth 20000 in
theorem gX11_thing_X11_checkThing : GoodIn wsX11_thing (wsV RX11 223 RX11 yX11_checkThing wsX11_checkThing) := goodIn_app (goodIn_of _ (by decide +kernel)) ggX11_thing_X11_checkThing
theorem dX11_thing_0 : decode cX11_thing 0 = .ok (.aload_n 0, 1) := by decide +kernel
theorem dX11_thing_1 : decode cX11_thing 1 = .ok (.iload_n 1, 1) := by decide +kernel
theorem dX11_thing_2 : decode cX11_thing 2 = .ok (.invokevirtual 223, 3) := by decide +kernel
theorem dX11_thing_5 : decode cX11_thing 5 = .ok (.iload_n 2, 1) := by decide +kernel
theorem dX11_thing_6 : decode cX11_thing 6 = .ok (.tableswitch 56 0 2 #[26, 36, 46], 26) := by decide +kernel
theorem dX11_thing_32 : decode cX11_thing 32 = .ok (.aload_n 0, 1) := by decide +kernel
theorem dX11_thing_33 : decode cX11_thing 33 = .ok (.getfield 33, 3) := by decide +kernel
theorem dX11_thing_36 : decode cX11_thing 36 = .ok (.getfield 226, 3) := by decide +kernel
theorem dX11_thing_39 : decode cX11_thing 39 = .ok (.iload_n 1, 1) := by decide +kernel
theorem dX11_thing_40 : decode cX11_thing 40 = .ok (.iaload, 1) := by decide +kernel
theorem dX11_thing_41 : decode cX11_thing 41 = .ok (.ireturn, 1) := by decide +kernel
theorem dX11_thing_42 : decode cX11_thing 42 = .ok (.aload_n 0, 1) := by decide +kernel
theorem dX11_thing_43 : decode cX11_thing 43 = .ok (.getfield 33, 3) := by decide +kernel
theorem dX11_thing_46 : decode cX11_thing 46 = .ok (.getfield 229, 3) := by decide +kernel
theorem dX11_thing_49 : decode cX11_thing 49 = .ok (.iload_n 1, 1) := by decide +kernel
theorem dX11_thing_50 : decode cX11_thing 50 = .ok (.iaload, 1) := by decide +kernel
theorem dX11_thing_51 : decode cX11_thing 51 = .ok (.ireturn, 1) := by decide +kernel
theorem dX11_thing_52 : decode cX11_thing 52 = .ok (.aload_n 0, 1) := by decide +kernel
theorem dX11_thing_53 : decode cX11_thing 53 = .ok (.getfield 33, 3) := by decide +kernel
theorem dX11_thing_56 : decode cX11_thing 56 = .ok (.getfield 232, 3) := by decide +kernel
theorem dX11_thing_59 : decode cX11_thing 59 = .ok (.iload_n 1, 1) := by decide +kernel
theorem dX11_thing_60 : decode cX11_thing 60 = .ok (.iaload, 1) := by decide +kernel
theorem dX11_thing_61 : decode cX11_thing 61 = .ok (.ireturn, 1) := by decide +kernel
theorem dX11_thing_62 : decode cX11_thing 62 = .ok (.new 190, 3) := by decide +kernel
theorem dX11_thing_65 : decode cX11_thing 65 = .ok (.dup, 1) := by decide +kernel
theorem dX11_thing_66 : decode cX11_thing 66 = .ok (.invokespecial 192, 3) := by decide +kernel
theorem dX11_thing_69 : decode cX11_thing 69 = .ok (.athrow, 1) := by decide +kernel
set_option maxRecDepth 20000 in
theorem ggX11_carry_X11_checkThing : GoodIn wsX11_carry wsX11_checkThing := goodIn_ca (goodIn_r _ [12, 13, 14, 3, 15, 94, 95, 96, 97, 98, 99, 100, 101, 102, 103, 104, 105, 106, 107, 108, 109, 110, 111, 112, 113, 114, 115, 116, 117, 118, 119, 120, 121, 122, 123, 124, 125, 126, 127, 128, 129, 130, 131, 132, 133] (by decide +kernel) (by decide +kernel)) (goodIn_sub (fun _ h => List.mem_cons_of_mem _ (List.mem_append_right _ h)) (by decide +kernel))
set_option maxRecDepth 20000 in
theorem gX11_carry_X11_checkThing : GoodIn wsX11_carry (wsV RX11 223 RX11 yX11_checkThing wsX11_checkThing) := goodIn_app (goodIn_of _ (by decide +kernel)) ggX11_carry_X11_checkThing
set_option maxRecDepth 20000 in
theorem ggX11_carry_X11_checkHouse : GoodIn wsX11_carry wsX11_checkHouse := goodIn_ca (goodIn_r _ [19, 13, 14, 3, 20, 21, 22, 23, 24, 25, 94, 95, 96, 97, 98, 99, 100, 101, 102, 103, 104, 105, 106, 107, 108, 109, 110, 111, 112, 113, 114, 115, 116, 117, 118, 119, 120, 121, 122, 123, 124, 125, 126, 127, 128, 129, 130, 131, 132, 133] (by decide +kernel) (by decide +kernel)) (goodIn_sub (fun _ h => List.mem_cons_of_mem _ (List.mem_append_right _ h)) (by decide +kernel))
set_option maxRecDepth 20000 in
theorem gX11_carry_X11_checkHouse : GoodIn wsX11_carry (wsV RX11 193 RX11 yX11_checkHouse wsX11_checkHouse) := goodIn_app (goodIn_of _ (by decide +kernel)) ggX11_carry_X11_checkHouse
set_option maxRecDepth 20000 in
theorem ggX11_carry_X8_remember : GoodIn wsX11_carry wsX8_remember := goodIn_r _ [30, 31, 32, 33, 34, 35, 36, 37, 23, 38, 25, 39, 40, 41, 42, 43, 44, 45, 46, 47, 48, 49, 50, 51, 52, 53, 54, 55, 56, 57, 58, 59, 60, 61, 62, 63, 64, 65, 66, 67, 68, 69, 134, 135, 136, 137, 114, 115, 116, 117, 118, 119, 120, 121, 122, 123, 124, 125, 126, 127, 128, 129, 130, 131, 132, 133, 138, 139] (by decide +kernel) (by decide +kernel)
set_option maxRecDepth 20000 in
theorem gX11_carry_X8_remember : GoodIn wsX11_carry (wsV RX11 238 RX8 yX8_remember wsX8_remember) := goodIn_app (goodIn_of _ (by decide +kernel)) ggX11_carry_X8_remember
set_option maxRecDepth 20000 in
theorem ggX11_carry_X1_addRow : GoodIn wsX11_carry wsX1_addRow := goodIn_r _ [73, 67, 68, 69, 51, 52, 53, 138, 139] (by decide +kernel) (by decide +kernel)
set_option maxRecDepth 20000 in
theorem gX11_carry_X1_addRow : GoodIn wsX11_carry (wsV RX11 245 RX1 yX1_addRow wsX1_addRow) := goodIn_app (goodIn_of _ (by decide +kernel)) ggX11_carry_X1_addRow
set_option maxRecDepth 20000 in
theorem ggX11_carry_X3_weigh : GoodIn wsX11_carry wsX3_weigh := goodIn_r _ [77, 60, 40, 56, 39, 59, 57, 25, 61, 48, 78, 21, 22, 23, 24, 79, 80, 81, 82, 47, 83, 84, 85, 86, 41, 87, 88, 89, 90, 91, 92, 93, 114, 115, 116, 117, 118, 119, 120, 121, 122, 123, 124, 125, 126, 127, 128, 129, 130, 131, 132, 133] (by decide +kernel) (by decide +kernel)
set_option maxRecDepth 20000 in
theorem gX11_carry_X3_weigh : GoodIn wsX11_carry (wsV RX11 133 RX3 yX3_weigh wsX3_weigh) := goodIn_app (goodIn_of _ (by decide +kernel)) ggX11_carry_X3_weigh
theorem dX11_carry_0 : decode cX11_carry 0 = .ok (.aload_n 0, 1) := by decide +kernel
theorem dX11_carry_1 : decode cX11_carry 1 = .ok (.iload_n 1, 1) := by decide +kernel
theorem dX11_carry_2 : decode cX11_carry 2 = .ok (.invokevirtual 223, 3) := by decide +kernel
theorem dX11_carry_5 : decode cX11_carry 5 = .ok (.aload_n 0, 1) := by decide +kernel
theorem dX11_carry_6 : decode cX11_carry 6 = .ok (.iload_n 2, 1) := by decide +kernel
theorem dX11_carry_7 : decode cX11_carry 7 = .ok (.invokevirtual 193, 3) := by decide +kernel
theorem dX11_carry_10 : decode cX11_carry 10 = .ok (.aload_n 0, 1) := by decide +kernel
theorem dX11_carry_11 : decode cX11_carry 11 = .ok (.getfield 33, 3) := by decide +kernel
theorem dX11_carry_14 : decode cX11_carry 14 = .ok (.getfield 232, 3) := by decide +kernel
theorem dX11_carry_17 : decode cX11_carry 17 = .ok (.iload_n 1, 1) := by decide +kernel
theorem dX11_carry_18 : decode cX11_carry 18 = .ok (.iaload, 1) := by decide +kernel
theorem dX11_carry_19 : decode cX11_carry 19 = .ok (.istore_n 3, 1) := by decide +kernel
theorem dX11_carry_20 : decode cX11_carry 20 = .ok (.iload_n 3, 1) := by decide +kernel
theorem dX11_carry_21 : decode cX11_carry 21 = .ok (.iconst (-1), 1) := by decide +kernel
theorem dX11_carry_22 : decode cX11_carry 22 = .ok (.if_icmp .ne 11, 3) := by decide +kernel
theorem dX11_carry_25 : decode cX11_carry 25 = .ok (.new 235, 3) := by decide +kernel
theorem dX11_carry_28 : decode cX11_carry 28 = .ok (.dup, 1) := by decide +kernel
theorem dX11_carry_29 : decode cX11_carry 29 = .ok (.invokespecial 237, 3) := by decide +kernel
theorem dX11_carry_32 : decode cX11_carry 32 = .ok (.athrow, 1) := by decide +kernel
theorem dX11_carry_33 : decode cX11_carry 33 = .ok (.aload_n 0, 1) := by decide +kernel
theorem dX11_carry_34 : decode cX11_carry 34 = .ok (.getfield 88, 3) := by decide +kernel
theorem dX11_carry_37 : decode cX11_carry 37 = .ok (.aload_n 0, 1) := by decide +kernel
theorem dX11_carry_38 : decode cX11_carry 38 = .ok (.getfield 33, 3) := by decide +kernel
theorem dX11_carry_41 : decode cX11_carry 41 = .ok (.aload_n 0, 1) := by decide +kernel
theorem dX11_carry_42 : decode cX11_carry 42 = .ok (.getfield 47, 3) := by decide +kernel
theorem dX11_carry_45 : decode cX11_carry 45 = .ok (.invokevirtual 238, 3) := by decide +kernel
theorem dX11_carry_48 : decode cX11_carry 48 = .ok (.aload_n 0, 1) := by decide +kernel
theorem dX11_carry_49 : decode cX11_carry 49 = .ok (.getfield 47, 3) := by decide +kernel
theorem dX11_carry_52 : decode cX11_carry 52 = .ok (.aload_n 0, 1) := by decide +kernel
theorem dX11_carry_53 : decode cX11_carry 53 = .ok (.getfield 33, 3) := by decide +kernel
theorem dX11_carry_56 : decode cX11_carry 56 = .ok (.getfield 242, 3) := by decide +kernel
theorem dX11_carry_59 : decode cX11_carry 59 = .ok (.iload_n 1, 1) := by decide +kernel
theorem dX11_carry_60 : decode cX11_carry 60 = .ok (.iload_n 3, 1) := by decide +kernel
theorem dX11_carry_61 : decode cX11_carry 61 = .ok (.iload_n 2, 1) := by decide +kernel
theorem dX11_carry_62 : decode cX11_carry 62 = .ok (.invokevirtual 245, 3) := by decide +kernel
theorem dX11_carry_65 : decode cX11_carry 65 = .ok (.aload_n 0, 1) := by decide +kernel
theorem dX11_carry_66 : decode cX11_carry 66 = .ok (.getfield 33, 3) := by decide +kernel
theorem dX11_carry_69 : decode cX11_carry 69 = .ok (.getfield 232, 3) := by decide +kernel
theorem dX11_carry_72 : decode cX11_carry 72 = .ok (.iload_n 1, 1) := by decide +kernel
theorem dX11_carry_73 : decode cX11_carry 73 = .ok (.iload_n 2, 1) := by decide +kernel
theorem dX11_carry_74 : decode cX11_carry 74 = .ok (.iastore, 1) := by decide +kernel
theorem dX11_carry_75 : decode cX11_carry 75 = .ok (.aload_n 0, 1) := by decide +kernel
theorem dX11_carry_76 : decode cX11_carry 76 = .ok (.getfield 33, 3) := by decide +kernel
theorem dX11_carry_79 : decode cX11_carry 79 = .ok (.invokevirtual 133, 3) := by decide +kernel
theorem dX11_carry_82 : decode cX11_carry 82 = .ok (.iload_n 3, 1) := by decide +kernel
theorem dX11_carry_83 : decode cX11_carry 83 = .ok (.ireturn, 1) := by decide +kernel
set_option maxRecDepth 20000 in
theorem ggX11_guests_X11_checkHouse : GoodIn wsX11_guests wsX11_checkHouse := goodIn_ca (goodIn_r _ [9, 10, 11, 2, 12, 13, 14, 15, 16, 17, 87, 88, 89, 90, 91, 92, 93, 94, 95, 96, 97, 98, 99, 100, 101, 102, 103, 104, 105, 106, 107, 108, 109, 110, 111, 112, 113, 114, 115, 116, 117, 118, 119, 120, 121, 122, 123, 124, 125, 126] (by decide +kernel) (by decide +kernel)) (goodIn_sub (fun _ h => List.mem_cons_of_mem _ (List.mem_append_left _ (List.mem_append_right _ h))) (by decide +kernel))
set_option maxRecDepth 20000 in
theorem gX11_guests_X11_checkHouse : GoodIn wsX11_guests (wsV RX11 193 RX11 yX11_checkHouse wsX11_checkHouse) := goodIn_app (goodIn_of _ (by decide +kernel)) ggX11_guests_X11_checkHouse
set_option maxRecDepth 20000 in
theorem ggX11_guests_X11_checkNumber : GoodIn wsX11_guests wsX11_checkNumber := goodIn_ca (goodIn_r _ [20, 21, 22] (by decide +kernel) (by decide +kernel)) (goodIn_sub (fun _ h => List.mem_cons_of_mem _ (List.mem_append_right _ h)) (by decide +kernel))
set_option maxRecDepth 20000 in
theorem gX11_guests_X11_checkNumber : GoodIn wsX11_guests (va_wsS RX11 249 yX11_checkNumber wsX11_checkNumber) := goodIn_app (goodIn_of _ (by decide +kernel)) ggX11_guests_X11_checkNumber
set_option maxRecDepth 20000 in
theorem ggX11_guests_X8_remember : GoodIn wsX11_guests wsX8_remember := goodIn_r _ [27, 28, 29, 30, 31, 32, 33, 34, 15, 35, 17, 36, 37, 38, 39, 40, 41, 42, 43, 44, 45, 46, 47, 48, 49, 50, 51, 52, 53, 54, 55, 56, 57, 58, 59, 60, 61, 62, 63, 64, 65, 66, 127, 128, 129, 130, 107, 108, 109, 110, 111, 112, 113, 114, 115, 116, 117, 118, 119, 120, 121, 122, 123, 124, 125, 126, 131, 132] (by decide +kernel) (by decide +kernel)
set_option maxRecDepth 20000 in
theorem gX11_guests_X8_remember : GoodIn wsX11_guests (wsV RX11 238 RX8 yX8_remember wsX8_remember) := goodIn_app (goodIn_of _ (by decide +kernel)) ggX11_guests_X8_remember
set_option maxRecDepth 20000 in
theorem ggX11_guests_X3_weigh : GoodIn wsX11_guests wsX3_weigh := goodIn_r _ [70, 57, 37, 53, 36, 56, 54, 17, 58, 45, 71, 13, 14, 15, 16, 72, 73, 74, 75, 44, 76, 77, 78, 79, 38, 80, 81, 82, 83, 84, 85, 86, 107, 108, 109, 110, 111, 112, 113, 114, 115, 116, 117, 118, 119, 120, 121, 122, 123, 124, 125, 126] (by decide +kernel) (by decide +kernel)
set_option maxRecDepth 20000 in
theorem gX11_guests_X3_weigh : GoodIn wsX11_guests (wsV RX11 133 RX3 yX3_weigh wsX3_weigh) := goodIn_app (goodIn_of _ (by decide +kernel)) ggX11_guests_X3_weigh
theorem dX11_guests_0 : decode cX11_guests 0 = .ok (.aload_n 0, 1) := by decide +kernel
theorem dX11_guests_1 : decode cX11_guests 1 = .ok (.iload_n 1, 1) := by decide +kernel
theorem dX11_guests_2 : decode cX11_guests 2 = .ok (.invokevirtual 193, 3) := by decide +kernel
theorem dX11_guests_5 : decode cX11_guests 5 = .ok (.iload_n 2, 1) := by decide +kernel
theorem dX11_guests_6 : decode cX11_guests 6 = .ok (.iconst 0, 1) := by decide +kernel
theorem dX11_guests_7 : decode cX11_guests 7 = .ok (.bipush 9, 2) := by decide +kernel
theorem dX11_guests_9 : decode cX11_guests 9 = .ok (.invokestatic 249, 3) := by decide +kernel
theorem dX11_guests_12 : decode cX11_guests 12 = .ok (.aload_n 0, 1) := by decide +kernel
theorem dX11_guests_13 : decode cX11_guests 13 = .ok (.getfield 88, 3) := by decide +kernel
theorem dX11_guests_16 : decode cX11_guests 16 = .ok (.aload_n 0, 1) := by decide +kernel
theorem dX11_guests_17 : decode cX11_guests 17 = .ok (.getfield 33, 3) := by decide +kernel
theorem dX11_guests_20 : decode cX11_guests 20 = .ok (.aload_n 0, 1) := by decide +kernel
theorem dX11_guests_21 : decode cX11_guests 21 = .ok (.getfield 47, 3) := by decide +kernel
theorem dX11_guests_24 : decode cX11_guests 24 = .ok (.invokevirtual 238, 3) := by decide +kernel
theorem dX11_guests_27 : decode cX11_guests 27 = .ok (.aload_n 0, 1) := by decide +kernel
theorem dX11_guests_28 : decode cX11_guests 28 = .ok (.getfield 33, 3) := by decide +kernel
theorem dX11_guests_31 : decode cX11_guests 31 = .ok (.getfield 199, 3) := by decide +kernel
theorem dX11_guests_34 : decode cX11_guests 34 = .ok (.iload_n 1, 1) := by decide +kernel
theorem dX11_guests_35 : decode cX11_guests 35 = .ok (.iaload, 1) := by decide +kernel
theorem dX11_guests_36 : decode cX11_guests 36 = .ok (.istore_n 3, 1) := by decide +kernel
theorem dX11_guests_37 : decode cX11_guests 37 = .ok (.aload_n 0, 1) := by decide +kernel
theorem dX11_guests_38 : decode cX11_guests 38 = .ok (.getfield 33, 3) := by decide +kernel
theorem dX11_guests_41 : decode cX11_guests 41 = .ok (.getfield 199, 3) := by decide +kernel
theorem dX11_guests_44 : decode cX11_guests 44 = .ok (.iload_n 1, 1) := by decide +kernel
theorem dX11_guests_45 : decode cX11_guests 45 = .ok (.iload_n 2, 1) := by decide +kernel
theorem dX11_guests_46 : decode cX11_guests 46 = .ok (.iastore, 1) := by decide +kernel
theorem dX11_guests_47 : decode cX11_guests 47 = .ok (.aload_n 0, 1) := by decide +kernel
theorem dX11_guests_48 : decode cX11_guests 48 = .ok (.getfield 33, 3) := by decide +kernel
theorem dX11_guests_51 : decode cX11_guests 51 = .ok (.invokevirtual 133, 3) := by decide +kernel
theorem dX11_guests_54 : decode cX11_guests 54 = .ok (.iload_n 3, 1) := by decide +kernel
theorem dX11_guests_55 : decode cX11_guests 55 = .ok (.ireturn, 1) := by decide +kernel
set_option maxRecDepth 20000 in
theorem ggX11_prop_X11_checkPlank : GoodIn wsX11_prop wsX11_checkPlank := goodIn_ca (goodIn_r _ [9, 10, 11, 2, 12, 82, 83, 84, 85, 86, 87, 88, 89, 90, 91, 92, 93, 94, 95, 96, 97, 98, 99, 100, 101, 102, 103, 104, 105, 106, 107, 108, 109, 110, 111, 112, 113, 114, 115, 116, 117, 118, 119, 120, 121] (by decide +kernel) (by decide +kernel)) (goodIn_sub (fun _ h => List.mem_cons_of_mem _ (List.mem_append_right _ h)) (by decide +kernel))
set_option maxRecDepth 20000 in
theorem gX11_prop_X11_checkPlank : GoodIn wsX11_prop (wsV RX11 161 RX11 yX11_checkPlank wsX11_checkPlank) := goodIn_app (goodIn_of _ (by decide +kernel)) ggX11_prop_X11_checkPlank
set_option maxRecDepth 20000 in
theorem ggX11_prop_X8_remember : GoodIn wsX11_prop wsX8_remember := goodIn_r _ [17, 18, 19, 20, 21, 22, 23, 24, 25, 26, 27, 28, 29, 30, 31, 32, 33, 34, 35, 36, 37, 38, 39, 40, 41, 42, 43, 44, 45, 46, 47, 48, 49, 50, 51, 52, 53, 54, 55, 56, 57, 58, 122, 123, 124, 125, 102, 103, 104, 105, 106, 107, 108, 109, 110, 111, 112, 113, 114, 115, 116, 117, 118, 119, 120, 121, 126, 127] (by decide +kernel) (by decide +kernel)
set_option maxRecDepth 20000 in
theorem gX11_prop_X8_remember : GoodIn wsX11_prop (wsV RX11 238 RX8 yX8_remember wsX8_remember) := goodIn_app (goodIn_of _ (by decide +kernel)) ggX11_prop_X8_remember
set_option maxRecDepth 20000 in
theorem ggX11_prop_X3_weigh : GoodIn wsX11_prop wsX3_weigh := goodIn_r _ [62, 49, 29, 45, 28, 48, 46, 27, 50, 37, 63, 64, 65, 25, 66, 67, 68, 69, 70, 36, 71, 72, 73, 74, 30, 75, 76, 77, 78, 79, 80, 81, 102, 103, 104, 105, 106, 107, 108, 109, 110, 111, 112, 113, 114, 115, 116, 117, 118, 119, 120, 121] (by decide +kernel) (by decide +kernel)
set_option maxRecDepth 20000 in
theorem gX11_prop_X3_weigh : GoodIn wsX11_prop (wsV RX11 133 RX3 yX3_weigh wsX3_weigh) := goodIn_app (goodIn_of _ (by decide +kernel)) ggX11_prop_X3_weigh
theorem dX11_prop_0 : decode cX11_prop 0 = .ok (.aload_n 0, 1) := by decide +kernel
theorem dX11_prop_1 : decode cX11_prop 1 = .ok (.iload_n 1, 1) := by decide +kernel
theorem dX11_prop_2 : decode cX11_prop 2 = .ok (.invokevirtual 161, 3) := by decide +kernel
theorem dX11_prop_5 : decode cX11_prop 5 = .ok (.aload_n 0, 1) := by decide +kernel
theorem dX11_prop_6 : decode cX11_prop 6 = .ok (.getfield 88, 3) := by decide +kernel
theorem dX11_prop_9 : decode cX11_prop 9 = .ok (.aload_n 0, 1) := by decide +kernel
theorem dX11_prop_10 : decode cX11_prop 10 = .ok (.getfield 33, 3) := by decide +kernel
theorem dX11_prop_13 : decode cX11_prop 13 = .ok (.aload_n 0, 1) := by decide +kernel
theorem dX11_prop_14 : decode cX11_prop 14 = .ok (.getfield 47, 3) := by decide +kernel
theorem dX11_prop_17 : decode cX11_prop 17 = .ok (.invokevirtual 238, 3) := by decide +kernel
theorem dX11_prop_20 : decode cX11_prop 20 = .ok (.aload_n 0, 1) := by decide +kernel
theorem dX11_prop_21 : decode cX11_prop 21 = .ok (.getfield 33, 3) := by decide +kernel
theorem dX11_prop_24 : decode cX11_prop 24 = .ok (.getfield 171, 3) := by decide +kernel
theorem dX11_prop_27 : decode cX11_prop 27 = .ok (.iload_n 1, 1) := by decide +kernel
theorem dX11_prop_28 : decode cX11_prop 28 = .ok (.baload, 1) := by decide +kernel
theorem dX11_prop_29 : decode cX11_prop 29 = .ok (.istore_n 3, 1) := by decide +kernel
theorem dX11_prop_30 : decode cX11_prop 30 = .ok (.aload_n 0, 1) := by decide +kernel
theorem dX11_prop_31 : decode cX11_prop 31 = .ok (.getfield 33, 3) := by decide +kernel
theorem dX11_prop_34 : decode cX11_prop 34 = .ok (.getfield 171, 3) := by decide +kernel
theorem dX11_prop_37 : decode cX11_prop 37 = .ok (.iload_n 1, 1) := by decide +kernel
theorem dX11_prop_38 : decode cX11_prop 38 = .ok (.iload_n 2, 1) := by decide +kernel
theorem dX11_prop_39 : decode cX11_prop 39 = .ok (.bastore, 1) := by decide +kernel
theorem dX11_prop_40 : decode cX11_prop 40 = .ok (.aload_n 0, 1) := by decide +kernel
theorem dX11_prop_41 : decode cX11_prop 41 = .ok (.getfield 33, 3) := by decide +kernel
theorem dX11_prop_44 : decode cX11_prop 44 = .ok (.invokevirtual 133, 3) := by decide +kernel
theorem dX11_prop_47 : decode cX11_prop 47 = .ok (.iload_n 3, 1) := by decide +kernel
theorem dX11_prop_48 : decode cX11_prop 48 = .ok (.iload_n 2, 1) := by decide +kernel
theorem dX11_prop_49 : decode cX11_prop 49 = .ok (.if_icmp .eq 7, 3) := by decide +kernel
theorem dX11_prop_52 : decode cX11_prop 52 = .ok (.iconst 1, 1) := by decide +kernel
theorem dX11_prop_53 : decode cX11_prop 53 = .ok (.goto 4, 3) := by decide +kernel
theorem dX11_prop_56 : decode cX11_prop 56 = .ok (.iconst 0, 1) := by decide +kernel
theorem dX11_prop_57 : decode cX11_prop 57 = .ok (.ireturn, 1) := by decide +kernel
set_option maxRecDepth 20000 in
theorem ggX11_mend_X11_checkPlank : GoodIn wsX11_mend wsX11_checkPlank := goodIn_ca (goodIn_r _ [12, 13, 14, 3, 15, 85, 86, 87, 88, 89, 90, 91, 92, 93, 94, 95, 96, 97, 98, 99, 100, 101, 102, 103, 104, 105, 106, 107, 108, 109, 110, 111, 112, 113, 114, 115, 116, 117, 118, 119, 120, 121, 122, 123, 124] (by decide +kernel) (by decide +kernel)) (goodIn_sub (fun _ h => List.mem_cons_of_mem _ (List.mem_append_right _ h)) (by decide +kernel))
set_option maxRecDepth 20000 in
theorem gX11_mend_X11_checkPlank : GoodIn wsX11_mend (wsV RX11 161 RX11 yX11_checkPlank wsX11_checkPlank) := goodIn_app (goodIn_of _ (by decide +kernel)) ggX11_mend_X11_checkPlank
set_option maxRecDepth 20000 in
theorem ggX11_mend_X8_remember : GoodIn wsX11_mend wsX8_remember := goodIn_r _ [20, 21, 22, 23, 24, 25, 26, 27, 28, 29, 30, 31, 32, 33, 34, 35, 36, 37, 38, 39, 40, 41, 42, 43, 44, 45, 46, 47, 48, 49, 50, 51, 52, 53, 54, 55, 56, 57, 58, 59, 60, 61, 125, 126, 127, 128, 105, 106, 107, 108, 109, 110, 111, 112, 113, 114, 115, 116, 117, 118, 119, 120, 121, 122, 123, 124, 129, 130] (by decide +kernel) (by decide +kernel)
set_option maxRecDepth 20000 in
theorem gX11_mend_X8_remember : GoodIn wsX11_mend (wsV RX11 238 RX8 yX8_remember wsX8_remember) := goodIn_app (goodIn_of _ (by decide +kernel)) ggX11_mend_X8_remember
set_option maxRecDepth 20000 in
theorem ggX11_mend_X3_weigh : GoodIn wsX11_mend wsX3_weigh := goodIn_r _ [65, 52, 32, 48, 31, 51, 49, 30, 53, 40, 66, 67, 68, 28, 69, 70, 71, 72, 73, 39, 74, 75, 76, 77, 33, 78, 79, 80, 81, 82, 83, 84, 105, 106, 107, 108, 109, 110, 111, 112, 113, 114, 115, 116, 117, 118, 119, 120, 121, 122, 123, 124] (by decide +kernel) (by decide +kernel)
set_option maxRecDepth 20000 in
theorem gX11_mend_X3_weigh : GoodIn wsX11_mend (wsV RX11 133 RX3 yX3_weigh wsX3_weigh) := goodIn_app (goodIn_of _ (by decide +kernel)) ggX11_mend_X3_weigh
theorem dX11_mend_0 : decode cX11_mend 0 = .ok (.aload_n 0, 1) := by decide +kernel
theorem dX11_mend_1 : decode cX11_mend 1 = .ok (.iload_n 1, 1) := by decide +kernel
theorem dX11_mend_2 : decode cX11_mend 2 = .ok (.invokevirtual 161, 3) := by decide +kernel
theorem dX11_mend_5 : decode cX11_mend 5 = .ok (.aload_n 0, 1) := by decide +kernel
theorem dX11_mend_6 : decode cX11_mend 6 = .ok (.getfield 33, 3) := by decide +kernel
theorem dX11_mend_9 : decode cX11_mend 9 = .ok (.getfield 175, 3) := by decide +kernel
theorem dX11_mend_12 : decode cX11_mend 12 = .ok (.iload_n 1, 1) := by decide +kernel
theorem dX11_mend_13 : decode cX11_mend 13 = .ok (.baload, 1) := by decide +kernel
theorem dX11_mend_14 : decode cX11_mend 14 = .ok (.ifCond .ne 11, 3) := by decide +kernel
theorem dX11_mend_17 : decode cX11_mend 17 = .ok (.new 235, 3) := by decide +kernel
theorem dX11_mend_20 : decode cX11_mend 20 = .ok (.dup, 1) := by decide +kernel
theorem dX11_mend_21 : decode cX11_mend 21 = .ok (.invokespecial 237, 3) := by decide +kernel
theorem dX11_mend_24 : decode cX11_mend 24 = .ok (.athrow, 1) := by decide +kernel
theorem dX11_mend_25 : decode cX11_mend 25 = .ok (.aload_n 0, 1) := by decide +kernel
theorem dX11_mend_26 : decode cX11_mend 26 = .ok (.getfield 88, 3) := by decide +kernel
theorem dX11_mend_29 : decode cX11_mend 29 = .ok (.aload_n 0, 1) := by decide +kernel
theorem dX11_mend_30 : decode cX11_mend 30 = .ok (.getfield 33, 3) := by decide +kernel
theorem dX11_mend_33 : decode cX11_mend 33 = .ok (.aload_n 0, 1) := by decide +kernel
theorem dX11_mend_34 : decode cX11_mend 34 = .ok (.getfield 47, 3) := by decide +kernel
theorem dX11_mend_37 : decode cX11_mend 37 = .ok (.invokevirtual 238, 3) := by decide +kernel
theorem dX11_mend_40 : decode cX11_mend 40 = .ok (.aload_n 0, 1) := by decide +kernel
theorem dX11_mend_41 : decode cX11_mend 41 = .ok (.getfield 33, 3) := by decide +kernel
theorem dX11_mend_44 : decode cX11_mend 44 = .ok (.getfield 168, 3) := by decide +kernel
theorem dX11_mend_47 : decode cX11_mend 47 = .ok (.iload_n 1, 1) := by decide +kernel
theorem dX11_mend_48 : decode cX11_mend 48 = .ok (.iaload, 1) := by decide +kernel
theorem dX11_mend_49 : decode cX11_mend 49 = .ok (.istore_n 2, 1) := by decide +kernel
theorem dX11_mend_50 : decode cX11_mend 50 = .ok (.aload_n 0, 1) := by decide +kernel
theorem dX11_mend_51 : decode cX11_mend 51 = .ok (.getfield 33, 3) := by decide +kernel
theorem dX11_mend_54 : decode cX11_mend 54 = .ok (.getfield 175, 3) := by decide +kernel
theorem dX11_mend_57 : decode cX11_mend 57 = .ok (.iload_n 1, 1) := by decide +kernel
theorem dX11_mend_58 : decode cX11_mend 58 = .ok (.iconst 0, 1) := by decide +kernel
theorem dX11_mend_59 : decode cX11_mend 59 = .ok (.bastore, 1) := by decide +kernel
theorem dX11_mend_60 : decode cX11_mend 60 = .ok (.aload_n 0, 1) := by decide +kernel
theorem dX11_mend_61 : decode cX11_mend 61 = .ok (.getfield 33, 3) := by decide +kernel
theorem dX11_mend_64 : decode cX11_mend 64 = .ok (.getfield 168, 3) := by decide +kernel
theorem dX11_mend_67 : decode cX11_mend 67 = .ok (.iload_n 1, 1) := by decide +kernel
theorem dX11_mend_68 : decode cX11_mend 68 = .ok (.iconst 0, 1) := by decide +kernel
theorem dX11_mend_69 : decode cX11_mend 69 = .ok (.iastore, 1) := by decide +kernel
theorem dX11_mend_70 : decode cX11_mend 70 = .ok (.aload_n 0, 1) := by decide +kernel
theorem dX11_mend_71 : decode cX11_mend 71 = .ok (.getfield 33, 3) := by decide +kernel
theorem dX11_mend_74 : decode cX11_mend 74 = .ok (.invokevirtual 133, 3) := by decide +kernel
theorem dX11_mend_77 : decode cX11_mend 77 = .ok (.iload_n 2, 1) := by decide +kernel
theorem dX11_mend_78 : decode cX11_mend 78 = .ok (.ireturn, 1) := by decide +kernel
set_option maxRecDepth 20000 in
theorem ggX11_give_X11_checkHouse : GoodIn wsX11_give wsX11_checkHouse := goodIn_ca (goodIn_r _ [15, 16, 17, 3, 18, 19, 20, 21, 22, 23, 71, 72, 73, 74, 75, 76, 77, 78, 79, 80, 81, 82, 83, 84, 85, 86, 87, 88, 89, 90, 91, 92, 93, 94, 95, 96, 97, 98, 99, 100, 101, 102, 103, 104, 105, 106, 107, 108, 109, 110] (by decide +kernel) (by decide +kernel)) (goodIn_sub (fun _ h => List.mem_cons_of_mem _ (List.mem_append_right _ h)) (by decide +kernel))
set_option maxRecDepth 20000 in
theorem gX11_give_X11_checkHouse : GoodIn wsX11_give (wsV RX11 193 RX11 yX11_checkHouse wsX11_checkHouse) := goodIn_app (goodIn_of _ (by decide +kernel)) ggX11_give_X11_checkHouse
set_option maxRecDepth 20000 in
theorem ggX11_give_X11_checkNumber : GoodIn wsX11_give wsX11_checkNumber := goodIn_ca (goodIn_r _ [26, 1, 2] (by decide +kernel) (by decide +kernel)) (goodIn_sub (fun _ h => List.mem_cons_of_mem _ (List.mem_append_left _ (List.mem_append_right _ h))) (by decide +kernel))
set_option maxRecDepth 20000 in
theorem gX11_give_X11_checkNumber : GoodIn wsX11_give (va_wsS RX11 249 yX11_checkNumber wsX11_checkNumber) := goodIn_app (goodIn_of _ (by decide +kernel)) ggX11_give_X11_checkNumber
set_option maxRecDepth 20000 in
theorem ggX11_give_X8_remember : GoodIn wsX11_give wsX8_remember := goodIn_r _ [31, 32, 33, 34, 35, 36, 37, 38, 21, 39, 23, 40, 41, 42, 43, 44, 45, 46, 47, 48, 49, 50, 51, 52, 53, 54, 55, 56, 57, 58, 59, 60, 61, 62, 63, 64, 65, 66, 67, 68, 69, 70, 111, 112, 113, 114, 91, 92, 93, 94, 95, 96, 97, 98, 99, 100, 101, 102, 103, 104, 105, 106, 107, 108, 109, 110, 115, 116] (by decide +kernel) (by decide +kernel)
set_option maxRecDepth 20000 in
theorem gX11_give_X8_remember : GoodIn wsX11_give (wsV RX11 238 RX8 yX8_remember wsX8_remember) := goodIn_app (goodIn_of _ (by decide +kernel)) ggX11_give_X8_remember
theorem dX11_give_0 : decode cX11_give 0 = .ok (.aload_n 0, 1) := by decide +kernel
theorem dX11_give_1 : decode cX11_give 1 = .ok (.iload_n 1, 1) := by decide +kernel
theorem dX11_give_2 : decode cX11_give 2 = .ok (.invokevirtual 193, 3) := by decide +kernel
theorem dX11_give_5 : decode cX11_give 5 = .ok (.aload_n 0, 1) := by decide +kernel
theorem dX11_give_6 : decode cX11_give 6 = .ok (.iload_n 2, 1) := by decide +kernel
theorem dX11_give_7 : decode cX11_give 7 = .ok (.invokevirtual 193, 3) := by decide +kernel
theorem dX11_give_10 : decode cX11_give 10 = .ok (.iload_n 1, 1) := by decide +kernel
theorem dX11_give_11 : decode cX11_give 11 = .ok (.iload_n 2, 1) := by decide +kernel
theorem dX11_give_12 : decode cX11_give 12 = .ok (.if_icmp .ne 11, 3) := by decide +kernel
theorem dX11_give_15 : decode cX11_give 15 = .ok (.new 127, 3) := by decide +kernel
theorem dX11_give_18 : decode cX11_give 18 = .ok (.dup, 1) := by decide +kernel
theorem dX11_give_19 : decode cX11_give 19 = .ok (.invokespecial 129, 3) := by decide +kernel
theorem dX11_give_22 : decode cX11_give 22 = .ok (.athrow, 1) := by decide +kernel
theorem dX11_give_23 : decode cX11_give 23 = .ok (.iload_n 3, 1) := by decide +kernel
theorem dX11_give_24 : decode cX11_give 24 = .ok (.iconst 1, 1) := by decide +kernel
theorem dX11_give_25 : decode cX11_give 25 = .ok (.aload_n 0, 1) := by decide +kernel
theorem dX11_give_26 : decode cX11_give 26 = .ok (.getfield 33, 3) := by decide +kernel
theorem dX11_give_29 : decode cX11_give 29 = .ok (.getfield 196, 3) := by decide +kernel
theorem dX11_give_32 : decode cX11_give 32 = .ok (.iload_n 1, 1) := by decide +kernel
theorem dX11_give_33 : decode cX11_give 33 = .ok (.iaload, 1) := by decide +kernel
theorem dX11_give_34 : decode cX11_give 34 = .ok (.invokestatic 249, 3) := by decide +kernel
theorem dX11_give_37 : decode cX11_give 37 = .ok (.aload_n 0, 1) := by decide +kernel
theorem dX11_give_38 : decode cX11_give 38 = .ok (.getfield 88, 3) := by decide +kernel
theorem dX11_give_41 : decode cX11_give 41 = .ok (.aload_n 0, 1) := by decide +kernel
theorem dX11_give_42 : decode cX11_give 42 = .ok (.getfield 33, 3) := by decide +kernel
theorem dX11_give_45 : decode cX11_give 45 = .ok (.aload_n 0, 1) := by decide +kernel
theorem dX11_give_46 : decode cX11_give 46 = .ok (.getfield 47, 3) := by decide +kernel
theorem dX11_give_49 : decode cX11_give 49 = .ok (.invokevirtual 238, 3) := by decide +kernel
theorem dX11_give_52 : decode cX11_give 52 = .ok (.aload_n 0, 1) := by decide +kernel
theorem dX11_give_53 : decode cX11_give 53 = .ok (.getfield 33, 3) := by decide +kernel
theorem dX11_give_56 : decode cX11_give 56 = .ok (.getfield 196, 3) := by decide +kernel
theorem dX11_give_59 : decode cX11_give 59 = .ok (.iload_n 1, 1) := by decide +kernel
theorem dX11_give_60 : decode cX11_give 60 = .ok (.dup2, 1) := by decide +kernel
theorem dX11_give_61 : decode cX11_give 61 = .ok (.iaload, 1) := by decide +kernel
theorem dX11_give_62 : decode cX11_give 62 = .ok (.iload_n 3, 1) := by decide +kernel
theorem dX11_give_63 : decode cX11_give 63 = .ok (.isub, 1) := by decide +kernel
theorem dX11_give_64 : decode cX11_give 64 = .ok (.iastore, 1) := by decide +kernel
theorem dX11_give_65 : decode cX11_give 65 = .ok (.aload_n 0, 1) := by decide +kernel
theorem dX11_give_66 : decode cX11_give 66 = .ok (.getfield 33, 3) := by decide +kernel
theorem dX11_give_69 : decode cX11_give 69 = .ok (.getfield 196, 3) := by decide +kernel
theorem dX11_give_72 : decode cX11_give 72 = .ok (.iload_n 2, 1) := by decide +kernel
theorem dX11_give_73 : decode cX11_give 73 = .ok (.sipush 9999, 3) := by decide +kernel
theorem dX11_give_76 : decode cX11_give 76 = .ok (.aload_n 0, 1) := by decide +kernel
theorem dX11_give_77 : decode cX11_give 77 = .ok (.getfield 33, 3) := by decide +kernel
theorem dX11_give_80 : decode cX11_give 80 = .ok (.getfield 196, 3) := by decide +kernel
theorem dX11_give_83 : decode cX11_give 83 = .ok (.iload_n 2, 1) := by decide +kernel
theorem dX11_give_84 : decode cX11_give 84 = .ok (.iaload, 1) := by decide +kernel
theorem dX11_give_85 : decode cX11_give 85 = .ok (.iload_n 3, 1) := by decide +kernel
theorem dX11_give_86 : decode cX11_give 86 = .ok (.iadd, 1) := by decide +kernel
theorem dX11_give_87 : decode cX11_give 87 = .ok (.invokestatic 253, 3) := by decide +kernel
theorem dX11_give_90 : decode cX11_give 90 = .ok (.iastore, 1) := by decide +kernel
theorem dX11_give_91 : decode cX11_give 91 = .ok (.aload_n 0, 1) := by decide +kernel
theorem dX11_give_92 : decode cX11_give 92 = .ok (.getfield 33, 3) := by decide +kernel
theorem dX11_give_95 : decode cX11_give 95 = .ok (.getfield 196, 3) := by decide +kernel
theorem dX11_give_98 : decode cX11_give 98 = .ok (.iload_n 2, 1) := by decide +kernel
theorem dX11_give_99 : decode cX11_give 99 = .ok (.iaload, 1) := by decide +kernel
theorem dX11_give_100 : decode cX11_give 100 = .ok (.ireturn, 1) := by decide +kernel
set_option maxRecDepth 20000 in
theorem ggX11_sweep_X8_remember : GoodIn wsX11_sweep wsX8_remember := goodIn_r _ [9, 10, 11, 12, 13, 14, 15, 16, 17, 18, 19, 20, 21, 22, 23, 24, 25, 26, 27, 28, 29, 30, 31, 32, 33, 34, 35, 36, 37, 38, 39, 40, 41, 42, 43, 44, 45, 46, 47, 48, 49, 50, 114, 115, 116, 117, 94, 95, 96, 97, 98, 99, 100, 101, 102, 103, 104, 105, 106, 107, 108, 109, 110, 111, 112, 113, 118, 119] (by decide +kernel) (by decide +kernel)
set_option maxRecDepth 20000 in
theorem gX11_sweep_X8_remember : GoodIn wsX11_sweep (wsV RX11 238 RX8 yX8_remember wsX8_remember) := goodIn_app (goodIn_of _ (by decide +kernel)) ggX11_sweep_X8_remember
set_option maxRecDepth 20000 in
theorem ggX11_sweep_X3_weigh : GoodIn wsX11_sweep wsX3_weigh := goodIn_r _ [54, 41, 21, 37, 20, 40, 38, 19, 42, 29, 55, 56, 57, 17, 58, 59, 60, 61, 62, 28, 63, 64, 65, 66, 22, 67, 68, 69, 70, 71, 72, 73, 94, 95, 96, 97, 98, 99, 100, 101, 102, 103, 104, 105, 106, 107, 108, 109, 110, 111, 112, 113] (by decide +kernel) (by decide +kernel)
set_option maxRecDepth 20000 in
theorem gX11_sweep_X3_weigh : GoodIn wsX11_sweep (wsV RX11 133 RX3 yX3_weigh wsX3_weigh) := goodIn_app (goodIn_of _ (by decide +kernel)) ggX11_sweep_X3_weigh
theorem dX11_sweep_0 : decode cX11_sweep 0 = .ok (.aload_n 0, 1) := by decide +kernel
theorem dX11_sweep_1 : decode cX11_sweep 1 = .ok (.getfield 88, 3) := by decide +kernel
theorem dX11_sweep_4 : decode cX11_sweep 4 = .ok (.aload_n 0, 1) := by decide +kernel
theorem dX11_sweep_5 : decode cX11_sweep 5 = .ok (.getfield 33, 3) := by decide +kernel
theorem dX11_sweep_8 : decode cX11_sweep 8 = .ok (.aload_n 0, 1) := by decide +kernel
theorem dX11_sweep_9 : decode cX11_sweep 9 = .ok (.getfield 47, 3) := by decide +kernel
theorem dX11_sweep_12 : decode cX11_sweep 12 = .ok (.invokevirtual 238, 3) := by decide +kernel
theorem dX11_sweep_15 : decode cX11_sweep 15 = .ok (.aload_n 0, 1) := by decide +kernel
theorem dX11_sweep_16 : decode cX11_sweep 16 = .ok (.getfield 33, 3) := by decide +kernel
theorem dX11_sweep_19 : decode cX11_sweep 19 = .ok (.getfield 259, 3) := by decide +kernel
theorem dX11_sweep_22 : decode cX11_sweep 22 = .ok (.istore_n 1, 1) := by decide +kernel
theorem dX11_sweep_23 : decode cX11_sweep 23 = .ok (.aload_n 0, 1) := by decide +kernel
theorem dX11_sweep_24 : decode cX11_sweep 24 = .ok (.getfield 33, 3) := by decide +kernel
theorem dX11_sweep_27 : decode cX11_sweep 27 = .ok (.iconst 0, 1) := by decide +kernel
theorem dX11_sweep_28 : decode cX11_sweep 28 = .ok (.putfield 259, 3) := by decide +kernel
theorem dX11_sweep_31 : decode cX11_sweep 31 = .ok (.aload_n 0, 1) := by decide +kernel
theorem dX11_sweep_32 : decode cX11_sweep 32 = .ok (.getfield 33, 3) := by decide +kernel
theorem dX11_sweep_35 : decode cX11_sweep 35 = .ok (.invokevirtual 133, 3) := by decide +kernel
theorem dX11_sweep_38 : decode cX11_sweep 38 = .ok (.iload_n 1, 1) := by decide +kernel
theorem dX11_sweep_39 : decode cX11_sweep 39 = .ok (.ireturn, 1) := by decide +kernel
set_option maxRecDepth 20000 in
theorem ggX11_weeks_X11_checkNumber : GoodIn wsX11_weeks wsX11_checkNumber := goodIn_ca (goodIn_r _ [8, 9, 10] (by decide +kernel) (by decide +kernel)) (goodIn_sub (fun _ h => List.mem_cons_of_mem _ (List.mem_append_right _ h)) (by decide +kernel))
set_option maxRecDepth 20000 in
theorem gX11_weeks_X11_checkNumber : GoodIn wsX11_weeks (va_wsS RX11 249 yX11_checkNumber wsX11_checkNumber) := goodIn_app (goodIn_of _ (by decide +kernel)) ggX11_weeks_X11_checkNumber
set_option maxRecDepth 20000 in
theorem ggX11_weeks_X8_remember : GoodIn wsX11_weeks wsX8_remember := goodIn_r _ [15, 16, 17, 18, 19, 20, 21, 22, 23, 24, 25, 26, 27, 28, 29, 30, 31, 32, 33, 34, 35, 36, 37, 38, 39, 40, 41, 42, 43, 44, 45, 46, 47, 48, 49, 50, 51, 52, 53, 54, 55, 56, 178, 179, 180, 181, 182, 183, 184, 185, 186, 187, 188, 189, 190, 191, 192, 193, 194, 195, 196, 197, 198, 199, 200, 201, 202, 203] (by decide +kernel) (by decide +kernel)
set_option maxRecDepth 20000 in
theorem gX11_weeks_X8_remember : GoodIn wsX11_weeks (wsV RX11 238 RX8 yX8_remember wsX8_remember) := goodIn_app (goodIn_of _ (by decide +kernel)) ggX11_weeks_X8_remember
set_option maxRecDepth 20000 in
theorem ggX11_weeks_X3_passWeek : GoodIn wsX11_weeks wsX3_passWeek := goodIn_r _ [60, 29, 27, 61, 62, 63, 64, 25, 30, 32, 46, 65, 66, 67, 23, 68, 69, 33, 70, 71, 72, 73, 47, 43, 26, 44, 48, 35, 74, 75, 76, 77, 78, 79, 80, 81, 34, 82, 83, 84, 85, 28, 86, 87, 88, 89, 90, 91, 92, 42, 93, 94, 95, 96, 31, 97, 98, 99, 100, 101, 102, 103, 104, 105, 106, 107, 108, 109, 110, 111, 112, 113, 114, 115, 116, 117, 118, 119, 120, 121, 41, 122, 123, 124, 125, 126, 127, 128, 129, 130, 131, 132, 133, 45, 134, 135, 136, 137, 138, 139, 140, 52, 141, 54, 55, 56, 38, 39, 40, 142, 143, 144, 145, 146, 147, 148, 149, 150, 151, 152, 153, 36, 154, 155, 156, 157, 182, 183, 184, 185, 186, 187, 188, 189, 190, 191, 192, 193, 194, 195, 196, 197, 198, 199, 200, 201, 204, 205, 206, 207, 208, 209, 210, 202, 203] (by decide +kernel) (by decide +kernel)
set_option maxRecDepth 20000 in
theorem gX11_weeks_X3_passWeek : GoodIn wsX11_weeks (wsV RX11 262 RX3 yX3_passWeek wsX3_passWeek) := goodIn_app (goodIn_of _ (by decide +kernel)) ggX11_weeks_X3_passWeek
theorem dX11_weeks_0 : decode cX11_weeks 0 = .ok (.iload_n 1, 1) := by decide +kernel
theorem dX11_weeks_1 : decode cX11_weeks 1 = .ok (.iconst 1, 1) := by decide +kernel
theorem dX11_weeks_2 : decode cX11_weeks 2 = .ok (.bipush 60, 2) := by decide +kernel
theorem dX11_weeks_4 : decode cX11_weeks 4 = .ok (.invokestatic 249, 3) := by decide +kernel
theorem dX11_weeks_7 : decode cX11_weeks 7 = .ok (.aload_n 0, 1) := by decide +kernel
theorem dX11_weeks_8 : decode cX11_weeks 8 = .ok (.getfield 88, 3) := by decide +kernel
theorem dX11_weeks_11 : decode cX11_weeks 11 = .ok (.aload_n 0, 1) := by decide +kernel
theorem dX11_weeks_12 : decode cX11_weeks 12 = .ok (.getfield 33, 3) := by decide +kernel
theorem dX11_weeks_15 : decode cX11_weeks 15 = .ok (.aload_n 0, 1) := by decide +kernel
theorem dX11_weeks_16 : decode cX11_weeks 16 = .ok (.getfield 47, 3) := by decide +kernel
theorem dX11_weeks_19 : decode cX11_weeks 19 = .ok (.invokevirtual 238, 3) := by decide +kernel
theorem dX11_weeks_22 : decode cX11_weeks 22 = .ok (.iconst 0, 1) := by decide +kernel
theorem dX11_weeks_23 : decode cX11_weeks 23 = .ok (.istore_n 2, 1) := by decide +kernel
theorem dX11_weeks_24 : decode cX11_weeks 24 = .ok (.iconst 0, 1) := by decide +kernel
theorem dX11_weeks_25 : decode cX11_weeks 25 = .ok (.istore_n 3, 1) := by decide +kernel
theorem dX11_weeks_26 : decode cX11_weeks 26 = .ok (.iload_n 3, 1) := by decide +kernel
theorem dX11_weeks_27 : decode cX11_weeks 27 = .ok (.iload_n 1, 1) := by decide +kernel
theorem dX11_weeks_28 : decode cX11_weeks 28 = .ok (.if_icmp .ge 27, 3) := by decide +kernel
theorem dX11_weeks_31 : decode cX11_weeks 31 = .ok (.iload_n 2, 1) := by decide +kernel
theorem dX11_weeks_32 : decode cX11_weeks 32 = .ok (.aload_n 0, 1) := by decide +kernel
theorem dX11_weeks_33 : decode cX11_weeks 33 = .ok (.getfield 33, 3) := by decide +kernel
theorem dX11_weeks_36 : decode cX11_weeks 36 = .ok (.aload_n 0, 1) := by decide +kernel
theorem dX11_weeks_37 : decode cX11_weeks 37 = .ok (.getfield 40, 3) := by decide +kernel
theorem dX11_weeks_40 : decode cX11_weeks 40 = .ok (.aload_n 0, 1) := by decide +kernel
theorem dX11_weeks_41 : decode cX11_weeks 41 = .ok (.getfield 47, 3) := by decide +kernel
theorem dX11_weeks_44 : decode cX11_weeks 44 = .ok (.invokevirtual 262, 3) := by decide +kernel
theorem dX11_weeks_47 : decode cX11_weeks 47 = .ok (.iadd, 1) := by decide +kernel
theorem dX11_weeks_48 : decode cX11_weeks 48 = .ok (.istore_n 2, 1) := by decide +kernel
theorem dX11_weeks_49 : decode cX11_weeks 49 = .ok (.iinc 3 1, 3) := by decide +kernel
theorem dX11_weeks_52 : decode cX11_weeks 52 = .ok (.goto (-26), 3) := by decide +kernel
theorem dX11_weeks_55 : decode cX11_weeks 55 = .ok (.iload_n 2, 1) := by decide +kernel
theorem dX11_weeks_56 : decode cX11_weeks 56 = .ok (.ireturn, 1) := by decide +kernel
set_option maxRecDepth 20000 in
theorem ggX11_view_X3_houses : GoodIn wsX11_view wsX3_houses := goodIn_r _ [7, 8, 29, 30, 31, 32, 33, 34, 35, 36, 37, 38, 39, 40, 41, 42, 43, 44, 45, 46, 47, 48] (by decide +kernel) (by decide +kernel)
set_option maxRecDepth 20000 in
theorem gX11_view_X3_houses : GoodIn wsX11_view (wsV RX11 155 RX3 yX3_houses wsX3_houses) := goodIn_app (goodIn_of _ (by decide +kernel)) ggX11_view_X3_houses
theorem dX11_view_0 : decode cX11_view 0 = .ok (.iconst 0, 1) := by decide +kernel
theorem dX11_view_1 : decode cX11_view 1 = .ok (.istore_n 1, 1) := by decide +kernel
theorem dX11_view_2 : decode cX11_view 2 = .ok (.iconst 0, 1) := by decide +kernel
theorem dX11_view_3 : decode cX11_view 3 = .ok (.istore_n 2, 1) := by decide +kernel
theorem dX11_view_4 : decode cX11_view 4 = .ok (.iload_n 2, 1) := by decide +kernel
theorem dX11_view_5 : decode cX11_view 5 = .ok (.aload_n 0, 1) := by decide +kernel
theorem dX11_view_6 : decode cX11_view 6 = .ok (.getfield 33, 3) := by decide +kernel
theorem dX11_view_9 : decode cX11_view 9 = .ok (.invokevirtual 155, 3) := by decide +kernel
theorem dX11_view_12 : decode cX11_view 12 = .ok (.if_icmp .ge 28, 3) := by decide +kernel
theorem dX11_view_15 : decode cX11_view 15 = .ok (.aload_n 0, 1) := by decide +kernel
theorem dX11_view_16 : decode cX11_view 16 = .ok (.getfield 33, 3) := by decide +kernel
theorem dX11_view_19 : decode cX11_view 19 = .ok (.getfield 205, 3) := by decide +kernel
theorem dX11_view_22 : decode cX11_view 22 = .ok (.iload_n 2, 1) := by decide +kernel
theorem dX11_view_23 : decode cX11_view 23 = .ok (.iaload, 1) := by decide +kernel
theorem dX11_view_24 : decode cX11_view 24 = .ok (.iconst 5, 1) := by decide +kernel
theorem dX11_view_25 : decode cX11_view 25 = .ok (.if_icmp .le 9, 3) := by decide +kernel
theorem dX11_view_28 : decode cX11_view 28 = .ok (.iload_n 1, 1) := by decide +kernel
theorem dX11_view_29 : decode cX11_view 29 = .ok (.iconst 1, 1) := by decide +kernel
theorem dX11_view_30 : decode cX11_view 30 = .ok (.iload_n 2, 1) := by decide +kernel
theorem dX11_view_31 : decode cX11_view 31 = .ok (.ishl, 1) := by decide +kernel
theorem dX11_view_32 : decode cX11_view 32 = .ok (.ior, 1) := by decide +kernel
theorem dX11_view_33 : decode cX11_view 33 = .ok (.istore_n 1, 1) := by decide +kernel
theorem dX11_view_34 : decode cX11_view 34 = .ok (.iinc 2 1, 3) := by decide +kernel
theorem dX11_view_37 : decode cX11_view 37 = .ok (.goto (-33), 3) := by decide +kernel
theorem dX11_view_40 : decode cX11_view 40 = .ok (.iload_n 1, 1) := by decide +kernel
theorem dX11_view_41 : decode cX11_view 41 = .ok (.ireturn, 1) := by decide +kernel
set_option maxRecDepth 20000 in
theorem ggX11_well_X3_houses : GoodIn wsX11_well wsX3_houses := goodIn_r _ [7, 8, 29, 30, 31, 32, 33, 34, 35, 36, 37, 38, 39, 40, 41, 42, 43, 44, 45, 46, 47, 48] (by decide +kernel) (by decide +kernel)
set_option maxRecDepth 20000 in
theorem gX11_well_X3_houses : GoodIn wsX11_well (wsV RX11 155 RX3 yX3_houses wsX3_houses) := goodIn_app (goodIn_of _ (by decide +kernel)) ggX11_well_X3_houses
theorem dX11_well_0 : decode cX11_well 0 = .ok (.iconst 0, 1) := by decide +kernel
theorem dX11_well_1 : decode cX11_well 1 = .ok (.istore_n 1, 1) := by decide +kernel
theorem dX11_well_2 : decode cX11_well 2 = .ok (.iconst 0, 1) := by decide +kernel
theorem dX11_well_3 : decode cX11_well 3 = .ok (.istore_n 2, 1) := by decide +kernel
theorem dX11_well_4 : decode cX11_well 4 = .ok (.iload_n 2, 1) := by decide +kernel
theorem dX11_well_5 : decode cX11_well 5 = .ok (.aload_n 0, 1) := by decide +kernel
theorem dX11_well_6 : decode cX11_well 6 = .ok (.getfield 33, 3) := by decide +kernel
theorem dX11_well_9 : decode cX11_well 9 = .ok (.invokevirtual 155, 3) := by decide +kernel
theorem dX11_well_12 : decode cX11_well 12 = .ok (.if_icmp .ge 28, 3) := by decide +kernel
theorem dX11_well_15 : decode cX11_well 15 = .ok (.aload_n 0, 1) := by decide +kernel
theorem dX11_well_16 : decode cX11_well 16 = .ok (.getfield 33, 3) := by decide +kernel
theorem dX11_well_19 : decode cX11_well 19 = .ok (.getfield 205, 3) := by decide +kernel
theorem dX11_well_22 : decode cX11_well 22 = .ok (.iload_n 2, 1) := by decide +kernel
theorem dX11_well_23 : decode cX11_well 23 = .ok (.iaload, 1) := by decide +kernel
theorem dX11_well_24 : decode cX11_well 24 = .ok (.iconst 5, 1) := by decide +kernel
theorem dX11_well_25 : decode cX11_well 25 = .ok (.if_icmp .ge 9, 3) := by decide +kernel
theorem dX11_well_28 : decode cX11_well 28 = .ok (.iload_n 1, 1) := by decide +kernel
theorem dX11_well_29 : decode cX11_well 29 = .ok (.iconst 1, 1) := by decide +kernel
theorem dX11_well_30 : decode cX11_well 30 = .ok (.iload_n 2, 1) := by decide +kernel
theorem dX11_well_31 : decode cX11_well 31 = .ok (.ishl, 1) := by decide +kernel
theorem dX11_well_32 : decode cX11_well 32 = .ok (.ior, 1) := by decide +kernel
theorem dX11_well_33 : decode cX11_well 33 = .ok (.istore_n 1, 1) := by decide +kernel
theorem dX11_well_34 : decode cX11_well 34 = .ok (.iinc 2 1, 3) := by decide +kernel
theorem dX11_well_37 : decode cX11_well 37 = .ok (.goto (-33), 3) := by decide +kernel
theorem dX11_well_40 : decode cX11_well 40 = .ok (.iload_n 1, 1) := by decide +kernel
theorem dX11_well_41 : decode cX11_well 41 = .ok (.ireturn, 1) := by decide +kernel
set_option maxRecDepth 20000 in
theorem ggX11_twins_X3_tiltOf : GoodIn wsX11_twins wsX3_tiltOf := goodIn_r _ [8, 9, 10, 11, 12, 13, 7, 14, 15, 16, 17, 18, 19, 20, 21, 22, 43, 44, 45, 46, 47, 48, 49, 50, 51, 52, 53, 54, 55, 56, 57, 58, 59, 60, 61, 62] (by decide +kernel) (by decide +kernel)
set_option maxRecDepth 20000 in
theorem gX11_twins_X3_tiltOf : GoodIn wsX11_twins (wsV RX11 178 RX3 yX3_tiltOf wsX3_tiltOf) := goodIn_app (goodIn_of _ (by decide +kernel)) ggX11_twins_X3_tiltOf
theorem dX11_twins_0 : decode cX11_twins 0 = .ok (.iconst 0, 1) := by decide +kernel
theorem dX11_twins_1 : decode cX11_twins 1 = .ok (.istore_n 1, 1) := by decide +kernel
theorem dX11_twins_2 : decode cX11_twins 2 = .ok (.iconst 0, 1) := by decide +kernel
theorem dX11_twins_3 : decode cX11_twins 3 = .ok (.istore_n 2, 1) := by decide +kernel
theorem dX11_twins_4 : decode cX11_twins 4 = .ok (.iload_n 2, 1) := by decide +kernel
theorem dX11_twins_5 : decode cX11_twins 5 = .ok (.aload_n 0, 1) := by decide +kernel
theorem dX11_twins_6 : decode cX11_twins 6 = .ok (.getfield 33, 3) := by decide +kernel
theorem dX11_twins_9 : decode cX11_twins 9 = .ok (.getfield 149, 3) := by decide +kernel
theorem dX11_twins_12 : decode cX11_twins 12 = .ok (.if_icmp .ge 88, 3) := by decide +kernel
theorem dX11_twins_15 : decode cX11_twins 15 = .ok (.iload_n 2, 1) := by decide +kernel
theorem dX11_twins_16 : decode cX11_twins 16 = .ok (.iconst 1, 1) := by decide +kernel
theorem dX11_twins_17 : decode cX11_twins 17 = .ok (.iadd, 1) := by decide +kernel
theorem dX11_twins_18 : decode cX11_twins 18 = .ok (.istore_n 3, 1) := by decide +kernel
theorem dX11_twins_19 : decode cX11_twins 19 = .ok (.iload_n 3, 1) := by decide +kernel
theorem dX11_twins_20 : decode cX11_twins 20 = .ok (.aload_n 0, 1) := by decide +kernel
theorem dX11_twins_21 : decode cX11_twins 21 = .ok (.getfield 33, 3) := by decide +kernel
theorem dX11_twins_24 : decode cX11_twins 24 = .ok (.getfield 149, 3) := by decide +kernel
theorem dX11_twins_27 : decode cX11_twins 27 = .ok (.if_icmp .ge 67, 3) := by decide +kernel
theorem dX11_twins_30 : decode cX11_twins 30 = .ok (.aload_n 0, 1) := by decide +kernel
theorem dX11_twins_31 : decode cX11_twins 31 = .ok (.getfield 33, 3) := by decide +kernel
theorem dX11_twins_34 : decode cX11_twins 34 = .ok (.getfield 175, 3) := by decide +kernel
theorem dX11_twins_37 : decode cX11_twins 37 = .ok (.iload_n 2, 1) := by decide +kernel
theorem dX11_twins_38 : decode cX11_twins 38 = .ok (.baload, 1) := by decide +kernel
theorem dX11_twins_39 : decode cX11_twins 39 = .ok (.ifCond .ne 19, 3) := by decide +kernel
theorem dX11_twins_42 : decode cX11_twins 42 = .ok (.aload_n 0, 1) := by decide +kernel
theorem dX11_twins_43 : decode cX11_twins 43 = .ok (.getfield 33, 3) := by decide +kernel
theorem dX11_twins_46 : decode cX11_twins 46 = .ok (.getfield 175, 3) := by decide +kernel
theorem dX11_twins_49 : decode cX11_twins 49 = .ok (.iload_n 3, 1) := by decide +kernel
theorem dX11_twins_50 : decode cX11_twins 50 = .ok (.baload, 1) := by decide +kernel
theorem dX11_twins_51 : decode cX11_twins 51 = .ok (.ifCond .ne 7, 3) := by decide +kernel
theorem dX11_twins_54 : decode cX11_twins 54 = .ok (.iconst 1, 1) := by decide +kernel
theorem dX11_twins_55 : decode cX11_twins 55 = .ok (.goto 4, 3) := by decide +kernel
theorem dX11_twins_58 : decode cX11_twins 58 = .ok (.iconst 0, 1) := by decide +kernel
theorem dX11_twins_59 : decode cX11_twins 59 = .ok (.istore 4, 2) := by decide +kernel
theorem dX11_twins_61 : decode cX11_twins 61 = .ok (.iload 4, 2) := by decide +kernel
theorem dX11_twins_63 : decode cX11_twins 63 = .ok (.ifCond .eq 25, 3) := by decide +kernel
theorem dX11_twins_66 : decode cX11_twins 66 = .ok (.aload_n 0, 1) := by decide +kernel
theorem dX11_twins_67 : decode cX11_twins 67 = .ok (.getfield 33, 3) := by decide +kernel
theorem dX11_twins_70 : decode cX11_twins 70 = .ok (.iload_n 2, 1) := by decide +kernel
theorem dX11_twins_71 : decode cX11_twins 71 = .ok (.invokevirtual 178, 3) := by decide +kernel
theorem dX11_twins_74 : decode cX11_twins 74 = .ok (.aload_n 0, 1) := by decide +kernel
theorem dX11_twins_75 : decode cX11_twins 75 = .ok (.getfield 33, 3) := by decide +kernel
theorem dX11_twins_78 : decode cX11_twins 78 = .ok (.iload_n 3, 1) := by decide +kernel
theorem dX11_twins_79 : decode cX11_twins 79 = .ok (.invokevirtual 178, 3) := by decide +kernel
theorem dX11_twins_82 : decode cX11_twins 82 = .ok (.if_icmp .ne 6, 3) := by decide +kernel
theorem dX11_twins_85 : decode cX11_twins 85 = .ok (.iinc 1 1, 3) := by decide +kernel
theorem dX11_twins_88 : decode cX11_twins 88 = .ok (.iinc 3 1, 3) := by decide +kernel
theorem dX11_twins_91 : decode cX11_twins 91 = .ok (.goto (-72), 3) := by decide +kernel
theorem dX11_twins_94 : decode cX11_twins 94 = .ok (.iinc 2 1, 3) := by decide +kernel
theorem dX11_twins_97 : decode cX11_twins 97 = .ok (.goto (-93), 3) := by decide +kernel
theorem dX11_twins_100 : decode cX11_twins 100 = .ok (.iload_n 1, 1) := by decide +kernel
theorem dX11_twins_101 : decode cX11_twins 101 = .ok (.ireturn, 1) := by decide +kernel
set_option maxRecDepth 20000 in
theorem ggX11_best_X11_checkPlank : GoodIn wsX11_best wsX11_checkPlank := goodIn_ca (goodIn_r _ [6, 7, 8, 1, 9, 25, 26, 27, 28, 29, 30, 31, 32, 33, 34, 35, 36, 37, 38, 39, 40, 41, 42, 43, 44, 45, 46, 47, 48, 49, 50, 51, 52, 53, 54, 55, 56, 57, 58, 59, 60, 61, 62, 63, 64] (by decide +kernel) (by decide +kernel)) (goodIn_sub (fun _ h => List.mem_cons_of_mem _ (List.mem_append_right _ h)) (by decide +kernel))
set_option maxRecDepth 20000 in
theorem gX11_best_X11_checkPlank : GoodIn wsX11_best (wsV RX11 161 RX11 yX11_checkPlank wsX11_checkPlank) := goodIn_app (goodIn_of _ (by decide +kernel)) ggX11_best_X11_checkPlank
set_option maxRecDepth 20000 in
theorem ggX11_best_X0_levelling : GoodIn wsX11_best wsX0_levelling := goodIn_r _ [13, 14, 15, 16, 17, 18, 19, 20, 21, 12, 22, 23, 24, 45, 46, 47, 48, 49, 50, 51, 52, 53, 54, 55, 56, 57, 58, 59, 60, 61, 62, 63, 64] (by decide +kernel) (by decide +kernel)
set_option maxRecDepth 20000 in
theorem gX11_best_X0_levelling : GoodIn wsX11_best (va_wsS RX11 266 yX0_levelling wsX0_levelling) := goodIn_app (goodIn_of _ (by decide +kernel)) ggX11_best_X0_levelling
theorem dX11_best_0 : decode cX11_best 0 = .ok (.aload_n 0, 1) := by decide +kernel
theorem dX11_best_1 : decode cX11_best 1 = .ok (.iload_n 1, 1) := by decide +kernel
theorem dX11_best_2 : decode cX11_best 2 = .ok (.invokevirtual 161, 3) := by decide +kernel
theorem dX11_best_5 : decode cX11_best 5 = .ok (.aload_n 0, 1) := by decide +kernel
theorem dX11_best_6 : decode cX11_best 6 = .ok (.getfield 33, 3) := by decide +kernel
theorem dX11_best_9 : decode cX11_best 9 = .ok (.iload_n 1, 1) := by decide +kernel
theorem dX11_best_10 : decode cX11_best 10 = .ok (.invokestatic 266, 3) := by decide +kernel
theorem dX11_best_13 : decode cX11_best 13 = .ok (.ireturn, 1) := by decide +kernel
set_option maxRecDepth 20000 in
theorem ggX11_stand_X11_checkPlank : GoodIn wsX11_stand wsX11_checkPlank := goodIn_ca (goodIn_r _ [6, 7, 8, 1, 9, 57, 58, 59, 60, 61, 62, 63, 64, 65, 66, 67, 68, 69, 70, 71, 72, 73, 74, 75, 76, 77, 78, 79, 80, 81, 82, 83, 84, 85, 86, 87, 88, 89, 90, 91, 92, 93, 94, 95, 96] (by decide +kernel) (by decide +kernel)) (goodIn_sub (fun _ h => List.mem_cons_of_mem _ (List.mem_append_left _ (List.mem_append_right _ h))) (by decide +kernel))
set_option maxRecDepth 20000 in
theorem gX11_stand_X11_checkPlank : GoodIn wsX11_stand (wsV RX11 161 RX11 yX11_checkPlank wsX11_checkPlank) := goodIn_app (goodIn_of _ (by decide +kernel)) ggX11_stand_X11_checkPlank
set_option maxRecDepth 20000 in
theorem ggX11_stand_X11_checkNumber : GoodIn wsX11_stand wsX11_checkNumber := goodIn_ca (goodIn_r _ [12, 13, 14] (by decide +kernel) (by decide +kernel)) (goodIn_sub (fun _ h => List.mem_cons_of_mem _ (List.mem_append_right _ h)) (by decide +kernel))
set_option maxRecDepth 20000 in
theorem gX11_stand_X11_checkNumber : GoodIn wsX11_stand (va_wsS RX11 249 yX11_checkNumber wsX11_checkNumber) := goodIn_app (goodIn_of _ (by decide +kernel)) ggX11_stand_X11_checkNumber
set_option maxRecDepth 20000 in
theorem ggX11_stand_X0_leastSet : GoodIn wsX11_stand wsX0_leastSet := goodIn_r _ [18, 19, 20, 21, 22, 23, 24, 25, 26, 27, 28, 17, 29, 30, 31, 32, 33, 34, 35, 36, 37, 38, 39, 40, 41, 42, 43, 44, 45, 46, 47, 48, 49, 50, 51, 52, 53, 54, 55, 56, 77, 78, 79, 80, 81, 82, 83, 84, 85, 86, 87, 88, 89, 90, 91, 92, 93, 94, 95, 96] (by decide +kernel) (by decide +kernel)
set_option maxRecDepth 20000 in
theorem gX11_stand_X0_leastSet : GoodIn wsX11_stand (va_wsS RX11 272 yX0_leastSet wsX0_leastSet) := goodIn_app (goodIn_of _ (by decide +kernel)) ggX11_stand_X0_leastSet
theorem dX11_stand_0 : decode cX11_stand 0 = .ok (.aload_n 0, 1) := by decide +kernel
theorem dX11_stand_1 : decode cX11_stand 1 = .ok (.iload_n 1, 1) := by decide +kernel
theorem dX11_stand_2 : decode cX11_stand 2 = .ok (.invokevirtual 161, 3) := by decide +kernel
theorem dX11_stand_5 : decode cX11_stand 5 = .ok (.iload_n 2, 1) := by decide +kernel
theorem dX11_stand_6 : decode cX11_stand 6 = .ok (.bipush (-5), 2) := by decide +kernel
theorem dX11_stand_8 : decode cX11_stand 8 = .ok (.iconst 5, 1) := by decide +kernel
theorem dX11_stand_9 : decode cX11_stand 9 = .ok (.invokestatic 249, 3) := by decide +kernel
theorem dX11_stand_12 : decode cX11_stand 12 = .ok (.aload_n 0, 1) := by decide +kernel
theorem dX11_stand_13 : decode cX11_stand 13 = .ok (.getfield 33, 3) := by decide +kernel
theorem dX11_stand_16 : decode cX11_stand 16 = .ok (.iload_n 1, 1) := by decide +kernel
theorem dX11_stand_17 : decode cX11_stand 17 = .ok (.iload_n 2, 1) := by decide +kernel
theorem dX11_stand_18 : decode cX11_stand 18 = .ok (.iconst 0, 1) := by decide +kernel
theorem dX11_stand_19 : decode cX11_stand 19 = .ok (.invokestatic 272, 3) := by decide +kernel
theorem dX11_stand_22 : decode cX11_stand 22 = .ok (.ireturn, 1) := by decide +kernel
set_option maxRecDepth 20000 in
theorem ggX11_heave_X11_checkPlank : GoodIn wsX11_heave wsX11_checkPlank := goodIn_ca (goodIn_r _ [6, 7, 8, 1, 9, 58, 59, 60, 61, 62, 63, 64, 65, 66, 67, 68, 69, 70, 71, 72, 73, 74, 75, 76, 77, 78, 79, 80, 81, 82, 83, 84, 85, 86, 87, 88, 89, 90, 91, 92, 93, 94, 95, 96, 97] (by decide +kernel) (by decide +kernel)) (goodIn_sub (fun _ h => List.mem_cons_of_mem _ (List.mem_append_left _ (List.mem_append_right _ h))) (by decide +kernel))
set_option maxRecDepth 20000 in
theorem gX11_heave_X11_checkPlank : GoodIn wsX11_heave (wsV RX11 161 RX11 yX11_checkPlank wsX11_checkPlank) := goodIn_app (goodIn_of _ (by decide +kernel)) ggX11_heave_X11_checkPlank
set_option maxRecDepth 20000 in
theorem ggX11_heave_X11_checkNumber : GoodIn wsX11_heave wsX11_checkNumber := goodIn_ca (goodIn_r _ [12, 13, 14] (by decide +kernel) (by decide +kernel)) (goodIn_sub (fun _ h => List.mem_cons_of_mem _ (List.mem_append_right _ h)) (by decide +kernel))
set_option maxRecDepth 20000 in
theorem gX11_heave_X11_checkNumber : GoodIn wsX11_heave (va_wsS RX11 249 yX11_checkNumber wsX11_checkNumber) := goodIn_app (goodIn_of _ (by decide +kernel)) ggX11_heave_X11_checkNumber
set_option maxRecDepth 20000 in
theorem ggX11_heave_X0_leastSet : GoodIn wsX11_heave wsX0_leastSet := goodIn_r _ [18, 19, 20, 21, 22, 23, 24, 25, 26, 27, 28, 17, 29, 30, 31, 32, 33, 34, 35, 36, 37, 38, 39, 40, 41, 42, 43, 44, 45, 46, 47, 48, 49, 50, 51, 52, 53, 54, 55, 56, 78, 79, 80, 81, 82, 83, 84, 85, 86, 87, 88, 89, 90, 91, 92, 93, 94, 95, 96, 97] (by decide +kernel) (by decide +kernel)
set_option maxRecDepth 20000 in
theorem gX11_heave_X0_leastSet : GoodIn wsX11_heave (va_wsS RX11 272 yX0_leastSet wsX0_leastSet) := goodIn_app (goodIn_of _ (by decide +kernel)) ggX11_heave_X0_leastSet
set_option maxRecDepth 20000 in
theorem ggX11_heave_X3_weightOf : GoodIn wsX11_heave wsX3_weightOf := goodIn_r _ [48, 25, 49, 78, 79, 80, 81, 82, 83, 84, 85, 86, 87, 88, 89, 90, 91, 92, 93, 94, 95, 96, 97] (by decide +kernel) (by decide +kernel)
set_option maxRecDepth 20000 in
theorem gX11_heave_X3_weightOf : GoodIn wsX11_heave (wsV RX11 276 RX3 yX3_weightOf wsX3_weightOf) := goodIn_app (goodIn_of _ (by decide +kernel)) ggX11_heave_X3_weightOf
theorem dX11_heave_0 : decode cX11_heave 0 = .ok (.aload_n 0, 1) := by decide +kernel
theorem dX11_heave_1 : decode cX11_heave 1 = .ok (.iload_n 1, 1) := by decide +kernel
theorem dX11_heave_2 : decode cX11_heave 2 = .ok (.invokevirtual 161, 3) := by decide +kernel
theorem dX11_heave_5 : decode cX11_heave 5 = .ok (.iload_n 2, 1) := by decide +kernel
theorem dX11_heave_6 : decode cX11_heave 6 = .ok (.bipush (-5), 2) := by decide +kernel
theorem dX11_heave_8 : decode cX11_heave 8 = .ok (.iconst 5, 1) := by decide +kernel
theorem dX11_heave_9 : decode cX11_heave 9 = .ok (.invokestatic 249, 3) := by decide +kernel
theorem dX11_heave_12 : decode cX11_heave 12 = .ok (.aload_n 0, 1) := by decide +kernel
theorem dX11_heave_13 : decode cX11_heave 13 = .ok (.getfield 33, 3) := by decide +kernel
theorem dX11_heave_16 : decode cX11_heave 16 = .ok (.iload_n 1, 1) := by decide +kernel
theorem dX11_heave_17 : decode cX11_heave 17 = .ok (.iload_n 2, 1) := by decide +kernel
theorem dX11_heave_18 : decode cX11_heave 18 = .ok (.iconst 1, 1) := by decide +kernel
theorem dX11_heave_19 : decode cX11_heave 19 = .ok (.invokestatic 272, 3) := by decide +kernel
theorem dX11_heave_22 : decode cX11_heave 22 = .ok (.istore 4, 2) := by decide +kernel
theorem dX11_heave_24 : decode cX11_heave 24 = .ok (.iload_n 3, 1) := by decide +kernel
theorem dX11_heave_25 : decode cX11_heave 25 = .ok (.ifCond .eq 21, 3) := by decide +kernel
theorem dX11_heave_28 : decode cX11_heave 28 = .ok (.iload 4, 2) := by decide +kernel
theorem dX11_heave_30 : decode cX11_heave 30 = .ok (.iconst (-1), 1) := by decide +kernel
theorem dX11_heave_31 : decode cX11_heave 31 = .ok (.if_icmp .eq 15, 3) := by decide +kernel
theorem dX11_heave_34 : decode cX11_heave 34 = .ok (.aload_n 0, 1) := by decide +kernel
theorem dX11_heave_35 : decode cX11_heave 35 = .ok (.getfield 33, 3) := by decide +kernel
theorem dX11_heave_38 : decode cX11_heave 38 = .ok (.iload 4, 2) := by decide +kernel
theorem dX11_heave_40 : decode cX11_heave 40 = .ok (.invokevirtual 276, 3) := by decide +kernel
theorem dX11_heave_43 : decode cX11_heave 43 = .ok (.goto 5, 3) := by decide +kernel
theorem dX11_heave_46 : decode cX11_heave 46 = .ok (.iload 4, 2) := by decide +kernel
theorem dX11_heave_48 : decode cX11_heave 48 = .ok (.ireturn, 1) := by decide +kernel
set_option maxRecDepth 20000 in
theorem ggX11_breaks_X11_checkPlank : GoodIn wsX11_breaks wsX11_checkPlank := goodIn_ca (goodIn_r _ [5, 6, 7, 8, 9, 110, 111, 112, 113, 114, 115, 116, 117, 118, 119, 120, 121, 122, 123, 124, 125, 126, 127, 128, 129, 130, 131, 132, 133, 134, 135, 136, 137, 138, 139, 140, 141, 142, 143, 144, 145, 146, 147, 148, 149] (by decide +kernel) (by decide +kernel)) (goodIn_sub (fun _ h => List.mem_cons_of_mem _ (List.mem_append_right _ h)) (by decide +kernel))
set_option maxRecDepth 20000 in
theorem gX11_breaks_X11_checkPlank : GoodIn wsX11_breaks (wsV RX11 161 RX11 yX11_checkPlank wsX11_checkPlank) := goodIn_app (goodIn_of _ (by decide +kernel)) ggX11_breaks_X11_checkPlank
set_option maxRecDepth 20000 in
theorem ggX11_breaks_X11_weeksToBreak : GoodIn wsX11_breaks wsX11_weeksToBreak := goodIn_r _ [13, 8, 14, 15, 16, 17, 18, 19, 20, 21, 22, 23, 24, 25, 26, 27, 28, 29, 30, 31, 32, 33, 34, 35, 36, 37, 38, 39, 40, 41, 42, 43, 44, 45, 46, 47, 48, 49, 50, 51, 52, 53, 54, 55, 56, 57, 58, 59, 60, 61, 62, 63, 64, 65, 66, 67, 68, 69, 70, 71, 72, 73, 74, 75, 76, 77, 78, 79, 80, 81, 82, 83, 84, 85, 86, 87, 88, 89, 90, 91, 92, 93, 94, 95, 96, 97, 98, 99, 100, 101, 102, 103, 104, 105, 106, 107, 108, 109, 110, 111, 112, 113, 114, 115, 116, 117, 118, 119, 120, 121, 122, 123, 124, 125, 126, 127, 128, 129, 130, 131, 132, 133, 134, 135, 136, 137, 138, 139, 140, 141, 142, 143, 144, 145, 146, 147, 148, 149, 150, 151, 152, 153, 154, 155, 156] (by decide +kernel) (by decide +kernel)
set_option maxRecDepth 20000 in
theorem gX11_breaks_X11_weeksToBreak : GoodIn wsX11_breaks (wsV RX11 279 RX11 yX11_weeksToBreak wsX11_weeksToBreak) := goodIn_app (goodIn_of _ (by decide +kernel)) ggX11_breaks_X11_weeksToBreak
theorem dX11_breaks_0 : decode cX11_breaks 0 = .ok (.aload_n 0, 1) := by decide +kernel
theorem dX11_breaks_1 : decode cX11_breaks 1 = .ok (.iload_n 1, 1) := by decide +kernel
theorem dX11_breaks_2 : decode cX11_breaks 2 = .ok (.invokevirtual 161, 3) := by decide +kernel
theorem dX11_breaks_5 : decode cX11_breaks 5 = .ok (.aload_n 0, 1) := by decide +kernel
theorem dX11_breaks_6 : decode cX11_breaks 6 = .ok (.iload_n 1, 1) := by decide +kernel
theorem dX11_breaks_7 : decode cX11_breaks 7 = .ok (.invokevirtual 279, 3) := by decide +kernel
theorem dX11_breaks_10 : decode cX11_breaks 10 = .ok (.ireturn, 1) := by decide +kernel
set_option maxRecDepth 20000 in
theorem ggX11_weeksToBreak_X3_copyFrom : GoodIn wsX11_weeksToBreak wsX3_copyFrom := goodIn_r _ [9, 10, 11, 12, 13, 14, 15, 16, 17, 18, 19, 20, 21, 22, 23, 24, 25, 26, 27, 28, 29, 30, 31, 32, 33, 118, 119, 120, 121, 122, 123, 124, 125, 126, 127, 128, 129, 130, 131, 132, 133, 134, 135, 136, 137] (by decide +kernel) (by decide +kernel)
set_option maxRecDepth 20000 in
theorem gX11_weeksToBreak_X3_copyFrom : GoodIn wsX11_weeksToBreak (wsV RX11 120 RX3 yX3_copyFrom wsX3_copyFrom) := goodIn_app (goodIn_of _ (by decide +kernel)) ggX11_weeksToBreak_X3_copyFrom
set_option maxRecDepth 20000 in
theorem ggX11_weeksToBreak_X3_growOld : GoodIn wsX11_weeksToBreak wsX3_growOld := goodIn_r _ [37, 20, 26, 38, 39, 40, 41, 42, 43, 44, 8, 45, 46, 47, 48, 49, 50, 51, 52, 53, 54, 55, 56, 57, 58, 59, 60, 61, 62, 63, 64, 65, 66, 67, 68, 69, 70, 33, 32, 28, 17, 71, 72, 73, 74, 21, 118, 119, 120, 121, 122, 123, 124, 125, 126, 127, 128, 129, 130, 131, 132, 133, 134, 135, 136, 137, 138, 139, 140, 141, 142, 143, 144] (by decide +kernel) (by decide +kernel)
set_option maxRecDepth 20000 in
theorem gX11_weeksToBreak_X3_growOld : GoodIn wsX11_weeksToBreak (wsV RX11 282 RX3 yX3_growOld wsX3_growOld) := goodIn_app (goodIn_of _ (by decide +kernel)) ggX11_weeksToBreak_X3_growOld
set_option maxRecDepth 20000 in
theorem ggX11_weeksToBreak_X3_turnWeek : GoodIn wsX11_weeksToBreak wsX3_turnWeek := goodIn_r _ [78, 17, 38, 39, 40, 41, 79, 80, 81, 8, 82, 32, 12, 28, 11, 31, 29, 10, 33, 20, 83, 84, 85, 86, 87, 88, 89, 90, 19, 91, 92, 93, 94, 13, 95, 96, 97, 118, 119, 120, 121, 122, 123, 124, 125, 126, 127, 128, 129, 130, 131, 132, 133, 134, 135, 136, 137] (by decide +kernel) (by decide +kernel)
set_option maxRecDepth 20000 in
theorem gX11_weeksToBreak_X3_turnWeek : GoodIn wsX11_weeksToBreak (wsV RX11 286 RX3 yX3_turnWeek wsX3_turnWeek) := goodIn_app (goodIn_of _ (by decide +kernel)) ggX11_weeksToBreak_X3_turnWeek
theorem dX11_weeksToBreak_0 : decode cX11_weeksToBreak 0 = .ok (.aload_n 0, 1) := by decide +kernel
theorem dX11_weeksToBreak_1 : decode cX11_weeksToBreak 1 = .ok (.getfield 33, 3) := by decide +kernel
theorem dX11_weeksToBreak_4 : decode cX11_weeksToBreak 4 = .ok (.getfield 175, 3) := by decide +kernel
theorem dX11_weeksToBreak_7 : decode cX11_weeksToBreak 7 = .ok (.iload_n 1, 1) := by decide +kernel
theorem dX11_weeksToBreak_8 : decode cX11_weeksToBreak 8 = .ok (.baload, 1) := by decide +kernel
theorem dX11_weeksToBreak_9 : decode cX11_weeksToBreak 9 = .ok (.ifCond .eq 5, 3) := by decide +kernel
theorem dX11_weeksToBreak_12 : decode cX11_weeksToBreak 12 = .ok (.iconst (-1), 1) := by decide +kernel
theorem dX11_weeksToBreak_13 : decode cX11_weeksToBreak 13 = .ok (.ireturn, 1) := by decide +kernel
theorem dX11_weeksToBreak_14 : decode cX11_weeksToBreak 14 = .ok (.aload_n 0, 1) := by decide +kernel
theorem dX11_weeksToBreak_15 : decode cX11_weeksToBreak 15 = .ok (.getfield 51, 3) := by decide +kernel
theorem dX11_weeksToBreak_18 : decode cX11_weeksToBreak 18 = .ok (.aload_n 0, 1) := by decide +kernel
theorem dX11_weeksToBreak_19 : decode cX11_weeksToBreak 19 = .ok (.getfield 33, 3) := by decide +kernel
theorem dX11_weeksToBreak_22 : decode cX11_weeksToBreak 22 = .ok (.invokevirtual 120, 3) := by decide +kernel
theorem dX11_weeksToBreak_25 : decode cX11_weeksToBreak 25 = .ok (.iconst 1, 1) := by decide +kernel
theorem dX11_weeksToBreak_26 : decode cX11_weeksToBreak 26 = .ok (.istore_n 2, 1) := by decide +kernel
theorem dX11_weeksToBreak_27 : decode cX11_weeksToBreak 27 = .ok (.iload_n 2, 1) := by decide +kernel
theorem dX11_weeksToBreak_28 : decode cX11_weeksToBreak 28 = .ok (.bipush 100, 2) := by decide +kernel
theorem dX11_weeksToBreak_30 : decode cX11_weeksToBreak 30 = .ok (.if_icmp .gt 42, 3) := by decide +kernel
theorem dX11_weeksToBreak_33 : decode cX11_weeksToBreak 33 = .ok (.aload_n 0, 1) := by decide +kernel
theorem dX11_weeksToBreak_34 : decode cX11_weeksToBreak 34 = .ok (.getfield 51, 3) := by decide +kernel
theorem dX11_weeksToBreak_37 : decode cX11_weeksToBreak 37 = .ok (.aload_n 0, 1) := by decide +kernel
theorem dX11_weeksToBreak_38 : decode cX11_weeksToBreak 38 = .ok (.getfield 40, 3) := by decide +kernel
theorem dX11_weeksToBreak_41 : decode cX11_weeksToBreak 41 = .ok (.iload_n 1, 1) := by decide +kernel
theorem dX11_weeksToBreak_42 : decode cX11_weeksToBreak 42 = .ok (.invokevirtual 282, 3) := by decide +kernel
theorem dX11_weeksToBreak_45 : decode cX11_weeksToBreak 45 = .ok (.aload_n 0, 1) := by decide +kernel
theorem dX11_weeksToBreak_46 : decode cX11_weeksToBreak 46 = .ok (.getfield 51, 3) := by decide +kernel
theorem dX11_weeksToBreak_49 : decode cX11_weeksToBreak 49 = .ok (.invokevirtual 286, 3) := by decide +kernel
theorem dX11_weeksToBreak_52 : decode cX11_weeksToBreak 52 = .ok (.aload_n 0, 1) := by decide +kernel
theorem dX11_weeksToBreak_53 : decode cX11_weeksToBreak 53 = .ok (.getfield 51, 3) := by decide +kernel
theorem dX11_weeksToBreak_56 : decode cX11_weeksToBreak 56 = .ok (.getfield 175, 3) := by decide +kernel
theorem dX11_weeksToBreak_59 : decode cX11_weeksToBreak 59 = .ok (.iload_n 1, 1) := by decide +kernel
theorem dX11_weeksToBreak_60 : decode cX11_weeksToBreak 60 = .ok (.baload, 1) := by decide +kernel
theorem dX11_weeksToBreak_61 : decode cX11_weeksToBreak 61 = .ok (.ifCond .eq 5, 3) := by decide +kernel
theorem dX11_weeksToBreak_64 : decode cX11_weeksToBreak 64 = .ok (.iload_n 2, 1) := by decide +kernel
theorem dX11_weeksToBreak_65 : decode cX11_weeksToBreak 65 = .ok (.ireturn, 1) := by decide +kernel
theorem dX11_weeksToBreak_66 : decode cX11_weeksToBreak 66 = .ok (.iinc 2 1, 3) := by decide +kernel
theorem dX11_weeksToBreak_69 : decode cX11_weeksToBreak 69 = .ok (.goto (-42), 3) := by decide +kernel
theorem dX11_weeksToBreak_72 : decode cX11_weeksToBreak 72 = .ok (.iconst (-1), 1) := by decide +kernel
theorem dX11_weeksToBreak_73 : decode cX11_weeksToBreak 73 = .ok (.ireturn, 1) := by decide +kernel
set_option maxRecDepth 20000 in
theorem ggX11_more_X11_checkPlank : GoodIn wsX11_more wsX11_checkPlank := goodIn_ca (goodIn_r _ [7, 8, 9, 1, 10, 19, 20, 21, 22, 23, 24, 25, 26, 27, 28, 29, 30, 31, 32, 33, 34, 35, 36, 37, 38, 39, 40, 41, 42, 43, 44, 45, 46, 47, 48, 49, 50, 51, 52, 53, 54, 55, 56, 57, 58] (by decide +kernel) (by decide +kernel)) (goodIn_sub (fun _ h => List.mem_cons_of_mem _ (List.mem_append_right _ h)) (by decide +kernel))
set_option maxRecDepth 20000 in
theorem gX11_more_X11_checkPlank : GoodIn wsX11_more (wsV RX11 161 RX11 yX11_checkPlank wsX11_checkPlank) := goodIn_app (goodIn_of _ (by decide +kernel)) ggX11_more_X11_checkPlank
set_option maxRecDepth 20000 in
theorem ggX11_more_X3_bearsMore : GoodIn wsX11_more wsX3_bearsMore := goodIn_r _ [15, 16, 17, 18, 39, 40, 41, 42, 43, 44, 45, 46, 47, 48, 49, 50, 51, 52, 53, 54, 55, 56, 57, 58] (by decide +kernel) (by decide +kernel)
set_option maxRecDepth 20000 in
theorem gX11_more_X3_bearsMore : GoodIn wsX11_more (wsV RX11 289 RX3 yX3_bearsMore wsX3_bearsMore) := goodIn_app (goodIn_of _ (by decide +kernel)) ggX11_more_X3_bearsMore
theorem dX11_more_0 : decode cX11_more 0 = .ok (.aload_n 0, 1) := by decide +kernel
theorem dX11_more_1 : decode cX11_more 1 = .ok (.iload_n 1, 1) := by decide +kernel
theorem dX11_more_2 : decode cX11_more 2 = .ok (.invokevirtual 161, 3) := by decide +kernel
theorem dX11_more_5 : decode cX11_more 5 = .ok (.aload_n 0, 1) := by decide +kernel
theorem dX11_more_6 : decode cX11_more 6 = .ok (.getfield 33, 3) := by decide +kernel
theorem dX11_more_9 : decode cX11_more 9 = .ok (.getfield 175, 3) := by decide +kernel
theorem dX11_more_12 : decode cX11_more 12 = .ok (.iload_n 1, 1) := by decide +kernel
theorem dX11_more_13 : decode cX11_more 13 = .ok (.baload, 1) := by decide +kernel
theorem dX11_more_14 : decode cX11_more 14 = .ok (.ifCond .eq 9, 3) := by decide +kernel
theorem dX11_more_17 : decode cX11_more 17 = .ok (.sipush (-10000), 3) := by decide +kernel
theorem dX11_more_20 : decode cX11_more 20 = .ok (.goto 11, 3) := by decide +kernel
theorem dX11_more_23 : decode cX11_more 23 = .ok (.aload_n 0, 1) := by decide +kernel
theorem dX11_more_24 : decode cX11_more 24 = .ok (.getfield 33, 3) := by decide +kernel
theorem dX11_more_27 : decode cX11_more 27 = .ok (.iload_n 1, 1) := by decide +kernel
theorem dX11_more_28 : decode cX11_more 28 = .ok (.invokevirtual 289, 3) := by decide +kernel
theorem dX11_more_31 : decode cX11_more 31 = .ok (.ireturn, 1) := by decide +kernel
set_option maxRecDepth 20000 in
theorem ggX11_last_X11_weeksToBreak : GoodIn wsX11_last wsX11_weeksToBreak := goodIn_r _ [8, 1, 3, 9, 10, 11, 12, 13, 14, 15, 16, 17, 18, 19, 20, 21, 22, 23, 24, 25, 26, 27, 28, 29, 30, 31, 32, 33, 34, 35, 36, 37, 38, 39, 40, 41, 42, 43, 44, 45, 46, 47, 48, 49, 50, 51, 52, 53, 54, 55, 56, 57, 58, 59, 60, 61, 62, 63, 64, 65, 66, 67, 68, 69, 70, 71, 72, 73, 74, 75, 76, 77, 78, 79, 80, 81, 82, 83, 84, 85, 86, 87, 88, 89, 90, 91, 92, 93, 94, 95, 96, 97, 98, 99, 100, 101, 102, 103, 104, 105, 106, 107, 108, 109, 110, 111, 112, 113, 114, 115, 116, 117, 118, 119, 120, 121, 122, 123, 124, 125, 126, 127, 128, 129, 130, 131, 132, 133, 134, 135, 136, 137, 138, 139, 140, 141, 142, 143, 144, 145, 146, 147, 148, 149, 150] (by decide +kernel) (by decide +kernel)
set_option maxRecDepth 20000 in
theorem gX11_last_X11_weeksToBreak : GoodIn wsX11_last (wsV RX11 279 RX11 yX11_weeksToBreak wsX11_weeksToBreak) := goodIn_app (goodIn_of _ (by decide +kernel)) ggX11_last_X11_weeksToBreak
theorem dX11_last_0 : decode cX11_last 0 = .ok (.iconst (-1), 1) := by decide +kernel
theorem dX11_last_1 : decode cX11_last 1 = .ok (.istore_n 1, 1) := by decide +kernel
theorem dX11_last_2 : decode cX11_last 2 = .ok (.iconst (-1), 1) := by decide +kernel
theorem dX11_last_3 : decode cX11_last 3 = .ok (.istore_n 2, 1) := by decide +kernel
theorem dX11_last_4 : decode cX11_last 4 = .ok (.iconst 0, 1) := by decide +kernel
theorem dX11_last_5 : decode cX11_last 5 = .ok (.istore_n 3, 1) := by decide +kernel
theorem dX11_last_6 : decode cX11_last 6 = .ok (.iload_n 3, 1) := by decide +kernel
theorem dX11_last_7 : decode cX11_last 7 = .ok (.aload_n 0, 1) := by decide +kernel
theorem dX11_last_8 : decode cX11_last 8 = .ok (.getfield 33, 3) := by decide +kernel
theorem dX11_last_11 : decode cX11_last 11 = .ok (.getfield 149, 3) := by decide +kernel
theorem dX11_last_14 : decode cX11_last 14 = .ok (.if_icmp .ge 50, 3) := by decide +kernel
theorem dX11_last_17 : decode cX11_last 17 = .ok (.aload_n 0, 1) := by decide +kernel
theorem dX11_last_18 : decode cX11_last 18 = .ok (.getfield 33, 3) := by decide +kernel
theorem dX11_last_21 : decode cX11_last 21 = .ok (.getfield 175, 3) := by decide +kernel
theorem dX11_last_24 : decode cX11_last 24 = .ok (.iload_n 3, 1) := by decide +kernel
theorem dX11_last_25 : decode cX11_last 25 = .ok (.baload, 1) := by decide +kernel
theorem dX11_last_26 : decode cX11_last 26 = .ok (.ifCond .eq 6, 3) := by decide +kernel
theorem dX11_last_29 : decode cX11_last 29 = .ok (.goto 29, 3) := by decide +kernel
theorem dX11_last_32 : decode cX11_last 32 = .ok (.aload_n 0, 1) := by decide +kernel
theorem dX11_last_33 : decode cX11_last 33 = .ok (.iload_n 3, 1) := by decide +kernel
theorem dX11_last_34 : decode cX11_last 34 = .ok (.invokevirtual 279, 3) := by decide +kernel
theorem dX11_last_37 : decode cX11_last 37 = .ok (.istore 4, 2) := by decide +kernel
theorem dX11_last_39 : decode cX11_last 39 = .ok (.iload 4, 2) := by decide +kernel
theorem dX11_last_41 : decode cX11_last 41 = .ok (.iconst (-1), 1) := by decide +kernel
theorem dX11_last_42 : decode cX11_last 42 = .ok (.if_icmp .ne 5, 3) := by decide +kernel
theorem dX11_last_45 : decode cX11_last 45 = .ok (.iload_n 3, 1) := by decide +kernel
theorem dX11_last_46 : decode cX11_last 46 = .ok (.ireturn, 1) := by decide +kernel
theorem dX11_last_47 : decode cX11_last 47 = .ok (.iload 4, 2) := by decide +kernel
theorem dX11_last_49 : decode cX11_last 49 = .ok (.iload_n 2, 1) := by decide +kernel
theorem dX11_last_50 : decode cX11_last 50 = .ok (.if_icmp .le 8, 3) := by decide +kernel
theorem dX11_last_53 : decode cX11_last 53 = .ok (.iload_n 3, 1) := by decide +kernel
theorem dX11_last_54 : decode cX11_last 54 = .ok (.istore_n 1, 1) := by decide +kernel
theorem dX11_last_55 : decode cX11_last 55 = .ok (.iload 4, 2) := by decide +kernel
theorem dX11_last_57 : decode cX11_last 57 = .ok (.istore_n 2, 1) := by decide +kernel
theorem dX11_last_58 : decode cX11_last 58 = .ok (.iinc 3 1, 3) := by decide +kernel
theorem dX11_last_61 : decode cX11_last 61 = .ok (.goto (-55), 3) := by decide +kernel
theorem dX11_last_64 : decode cX11_last 64 = .ok (.iload_n 1, 1) := by decide +kernel
theorem dX11_last_65 : decode cX11_last 65 = .ok (.ireturn, 1) := by decide +kernel
set_option maxRecDepth 20000 in
theorem ggX11_match_X11_checkHouse : GoodIn wsX11_match wsX11_checkHouse := goodIn_ca (goodIn_r _ [7, 8, 9, 1, 10, 11, 12, 13, 14, 15, 46, 47, 48, 49, 50, 51, 52, 53, 54, 55, 56, 57, 58, 59, 60, 61, 62, 63, 64, 65, 66, 67, 68, 69, 70, 71, 72, 73, 74, 75, 76, 77, 78, 79, 80, 81, 82, 83, 84, 85] (by decide +kernel) (by decide +kernel)) (goodIn_sub (fun _ h => List.mem_cons_of_mem _ (List.mem_append_right _ h)) (by decide +kernel))
set_option maxRecDepth 20000 in
theorem gX11_match_X11_checkHouse : GoodIn wsX11_match (wsV RX11 193 RX11 yX11_checkHouse wsX11_checkHouse) := goodIn_app (goodIn_of _ (by decide +kernel)) ggX11_match_X11_checkHouse
set_option maxRecDepth 20000 in
theorem ggX11_match_X3_houses : GoodIn wsX11_match wsX3_houses := goodIn_r _ [14, 15, 66, 67, 68, 69, 70, 71, 72, 73, 74, 75, 76, 77, 78, 79, 80, 81, 82, 83, 84, 85] (by decide +kernel) (by decide +kernel)
set_option maxRecDepth 20000 in
theorem gX11_match_X3_houses : GoodIn wsX11_match (wsV RX11 155 RX3 yX3_houses wsX3_houses) := goodIn_app (goodIn_of _ (by decide +kernel)) ggX11_match_X3_houses
set_option maxRecDepth 20000 in
theorem ggX11_match_J6_bitCount_0f7a4 : GoodIn wsX11_match wsJ6_bitCount_0f7a4 := goodIn_r _ [19, 20, 21, 22] (by decide +kernel) (by decide +kernel)
set_option maxRecDepth 20000 in
theorem gX11_match_J6_bitCount_0f7a4 : GoodIn wsX11_match (va_wsS RX11 292 yJ6_bitCount_0f7a4 wsJ6_bitCount_0f7a4) := goodIn_app (goodIn_of _ (by decide +kernel)) ggX11_match_J6_bitCount_0f7a4
set_option maxRecDepth 20000 in
theorem ggX11_match_X7_howMuch : GoodIn wsX11_match wsX7_howMuch := goodIn_r _ [26, 27, 28, 25, 29, 30, 31, 32, 33, 34, 35, 36, 37, 38, 39] (by decide +kernel) (by decide +kernel)
set_option maxRecDepth 20000 in
theorem gX11_match_X7_howMuch : GoodIn wsX11_match (va_wsS RX11 297 yX7_howMuch wsX7_howMuch) := goodIn_app (goodIn_of _ (by decide +kernel)) ggX11_match_X7_howMuch
set_option maxRecDepth 20000 in
theorem ggX11_match_X7_partnerOf : GoodIn wsX11_match wsX7_partnerOf := goodIn_r _ [42, 37, 38, 25, 39, 43, 44, 45, 30, 31, 32, 33, 27, 28, 29, 34, 35, 36] (by decide +kernel) (by decide +kernel)
set_option maxRecDepth 20000 in
theorem gX11_match_X7_partnerOf : GoodIn wsX11_match (va_wsS RX11 303 yX7_partnerOf wsX7_partnerOf) := goodIn_app (goodIn_of _ (by decide +kernel)) ggX11_match_X7_partnerOf
theorem dX11_match_0 : decode cX11_match 0 = .ok (.iload_n 2, 1) := by decide +kernel
theorem dX11_match_1 : decode cX11_match 1 = .ok (.iconst (-1), 1) := by decide +kernel
theorem dX11_match_2 : decode cX11_match 2 = .ok (.if_icmp .eq 8, 3) := by decide +kernel
theorem dX11_match_5 : decode cX11_match 5 = .ok (.aload_n 0, 1) := by decide +kernel
theorem dX11_match_6 : decode cX11_match 6 = .ok (.iload_n 2, 1) := by decide +kernel
theorem dX11_match_7 : decode cX11_match 7 = .ok (.invokevirtual 193, 3) := by decide +kernel
theorem dX11_match_10 : decode cX11_match 10 = .ok (.iload_n 1, 1) := by decide +kernel
theorem dX11_match_11 : decode cX11_match 11 = .ok (.iconst 1, 1) := by decide +kernel
theorem dX11_match_12 : decode cX11_match 12 = .ok (.aload_n 0, 1) := by decide +kernel
theorem dX11_match_13 : decode cX11_match 13 = .ok (.getfield 33, 3) := by decide +kernel
theorem dX11_match_16 : decode cX11_match 16 = .ok (.invokevirtual 155, 3) := by decide +kernel
theorem dX11_match_19 : decode cX11_match 19 = .ok (.ishl, 1) := by decide +kernel
theorem dX11_match_20 : decode cX11_match 20 = .ok (.iconst 1, 1) := by decide +kernel
theorem dX11_match_21 : decode cX11_match 21 = .ok (.isub, 1) := by decide +kernel
theorem dX11_match_22 : decode cX11_match 22 = .ok (.iand, 1) := by decide +kernel
theorem dX11_match_23 : decode cX11_match 23 = .ok (.istore_n 3, 1) := by decide +kernel
theorem dX11_match_24 : decode cX11_match 24 = .ok (.iload_n 3, 1) := by decide +kernel
theorem dX11_match_25 : decode cX11_match 25 = .ok (.invokestatic 292, 3) := by decide +kernel
theorem dX11_match_28 : decode cX11_match 28 = .ok (.istore 4, 2) := by decide +kernel
theorem dX11_match_30 : decode cX11_match 30 = .ok (.iload 4, 2) := by decide +kernel
theorem dX11_match_32 : decode cX11_match 32 = .ok (.iconst 2, 1) := by decide +kernel
theorem dX11_match_33 : decode cX11_match 33 = .ok (.irem, 1) := by decide +kernel
theorem dX11_match_34 : decode cX11_match 34 = .ok (.ifCond .ne 10, 3) := by decide +kernel
theorem dX11_match_37 : decode cX11_match 37 = .ok (.iload 4, 2) := by decide +kernel
theorem dX11_match_39 : decode cX11_match 39 = .ok (.bipush 8, 2) := by decide +kernel
theorem dX11_match_41 : decode cX11_match 41 = .ok (.if_icmp .le 5, 3) := by decide +kernel
theorem dX11_match_44 : decode cX11_match 44 = .ok (.iconst (-1), 1) := by decide +kernel
theorem dX11_match_45 : decode cX11_match 45 = .ok (.ireturn, 1) := by decide +kernel
theorem dX11_match_46 : decode cX11_match 46 = .ok (.iload_n 2, 1) := by decide +kernel
theorem dX11_match_47 : decode cX11_match 47 = .ok (.iconst (-1), 1) := by decide +kernel
theorem dX11_match_48 : decode cX11_match 48 = .ok (.if_icmp .ne 17, 3) := by decide +kernel
theorem dX11_match_51 : decode cX11_match 51 = .ok (.aload_n 0, 1) := by decide +kernel
theorem dX11_match_52 : decode cX11_match 52 = .ok (.getfield 33, 3) := by decide +kernel
theorem dX11_match_55 : decode cX11_match 55 = .ok (.getfield 202, 3) := by decide +kernel
theorem dX11_match_58 : decode cX11_match 58 = .ok (.iload_n 3, 1) := by decide +kernel
theorem dX11_match_59 : decode cX11_match 59 = .ok (.invokestatic 297, 3) := by decide +kernel
theorem dX11_match_62 : decode cX11_match 62 = .ok (.goto 15, 3) := by decide +kernel
theorem dX11_match_65 : decode cX11_match 65 = .ok (.aload_n 0, 1) := by decide +kernel
theorem dX11_match_66 : decode cX11_match 66 = .ok (.getfield 33, 3) := by decide +kernel
theorem dX11_match_69 : decode cX11_match 69 = .ok (.getfield 202, 3) := by decide +kernel
theorem dX11_match_72 : decode cX11_match 72 = .ok (.iload_n 3, 1) := by decide +kernel
theorem dX11_match_73 : decode cX11_match 73 = .ok (.iload_n 2, 1) := by decide +kernel
theorem dX11_match_74 : decode cX11_match 74 = .ok (.invokestatic 303, 3) := by decide +kernel
theorem dX11_match_77 : decode cX11_match 77 = .ok (.ireturn, 1) := by decide +kernel
set_option maxRecDepth 20000 in
theorem ggX11_has_X11_findFits : GoodIn wsX11_has wsX11_findFits := goodIn_ca (goodIn_ca (goodIn_r _ [8, 9, 10, 11, 1, 12, 13, 14, 15, 7, 16, 17, 18, 19, 20, 21, 22, 23, 24, 25, 26, 27, 28, 29, 30, 31, 32, 33, 34, 35, 36, 37, 38, 39, 40, 41, 42, 43, 44, 45, 46, 47, 48, 49, 50, 51, 52, 53, 54, 55, 56, 57, 58, 59, 60, 61, 62, 63, 64, 65, 66, 67, 68, 69, 70, 71, 72, 73, 74, 75, 76, 77, 78, 79, 80, 81, 82, 83, 84, 85, 86, 87, 88, 89, 90, 95, 96, 97, 98, 99, 100, 101, 102, 103, 104, 105, 106, 107, 108, 109, 110, 111, 112, 113, 114, 91, 92, 93, 94] (by decide +kernel) (by decide +kernel)) (goodIn_sub (fun _ h => List.mem_cons_of_mem _ (List.mem_append_left _ (List.mem_append_right _ h))) (by decide +kernel))) (goodIn_sub (fun _ h => List.mem_cons_of_mem _ (List.mem_append_right _ h)) (by decide +kernel))
set_option maxRecDepth 20000 in
theorem gX11_has_X11_findFits : GoodIn wsX11_has (wsV RX11 307 RX11 yX11_findFits wsX11_findFits) := goodIn_app (goodIn_of _ (by decide +kernel)) ggX11_has_X11_findFits
theorem dX11_has_0 : decode cX11_has 0 = .ok (.aload_n 0, 1) := by decide +kernel
theorem dX11_has_1 : decode cX11_has 1 = .ok (.iload_n 1, 1) := by decide +kernel
theorem dX11_has_2 : decode cX11_has 2 = .ok (.invokevirtual 307, 3) := by decide +kernel
theorem dX11_has_5 : decode cX11_has 5 = .ok (.iload_n 2, 1) := by decide +kernel
theorem dX11_has_6 : decode cX11_has 6 = .ok (.ifCond .eq 13, 3) := by decide +kernel
theorem dX11_has_9 : decode cX11_has 9 = .ok (.aload_n 0, 1) := by decide +kernel
theorem dX11_has_10 : decode cX11_has 10 = .ok (.getfield 81, 3) := by decide +kernel
theorem dX11_has_13 : decode cX11_has 13 = .ok (.getfield 310, 3) := by decide +kernel
theorem dX11_has_16 : decode cX11_has 16 = .ok (.goto 10, 3) := by decide +kernel
theorem dX11_has_19 : decode cX11_has 19 = .ok (.aload_n 0, 1) := by decide +kernel
theorem dX11_has_20 : decode cX11_has 20 = .ok (.getfield 81, 3) := by decide +kernel
theorem dX11_has_23 : decode cX11_has 23 = .ok (.getfield 313, 3) := by decide +kernel
theorem dX11_has_26 : decode cX11_has 26 = .ok (.ireturn, 1) := by decide +kernel
set_option maxRecDepth 20000 in
theorem ggX11_ask_X11_findFits : GoodIn wsX11_ask wsX11_findFits := goodIn_ca (goodIn_ca (goodIn_r _ [8, 9, 10, 11, 1, 3, 12, 13, 14, 7, 15, 16, 17, 18, 19, 20, 21, 22, 23, 24, 25, 26, 27, 28, 29, 30, 31, 32, 33, 34, 35, 36, 37, 38, 39, 40, 41, 42, 43, 44, 45, 46, 47, 48, 49, 50, 51, 52, 53, 54, 55, 56, 57, 58, 59, 60, 61, 62, 63, 64, 65, 66, 67, 68, 69, 80, 81, 82, 83, 84, 85, 86, 87, 88, 89, 90, 91, 92, 93, 94, 95, 96, 97, 98, 99, 104, 105, 106, 107, 108, 109, 110, 111, 112, 113, 114, 115, 116, 117, 118, 119, 120, 121, 122, 123, 100, 101, 102, 103] (by decide +kernel) (by decide +kernel)) (goodIn_sub (fun _ h => List.mem_cons_of_mem _ (List.mem_append_left _ (List.mem_append_right _ h))) (by decide +kernel))) (goodIn_sub (fun _ h => List.mem_cons_of_mem _ (List.mem_append_right _ h)) (by decide +kernel))
set_option maxRecDepth 20000 in
theorem gX11_ask_X11_findFits : GoodIn wsX11_ask (wsV RX11 307 RX11 yX11_findFits wsX11_findFits) := goodIn_app (goodIn_of _ (by decide +kernel)) ggX11_ask_X11_findFits
set_option maxRecDepth 20000 in
theorem ggX11_ask_X2_bestAsk : GoodIn wsX11_ask wsX2_bestAsk := goodIn_r _ [73, 74, 75, 76, 26, 77, 78, 32, 34, 79, 68, 65, 69, 54, 55, 56, 57, 58, 59, 60, 38, 61, 62, 63, 64, 66, 67, 100, 101, 102, 103, 104, 105, 106, 107, 108, 109, 110, 111, 112, 113, 114, 115, 116, 117, 118, 119, 120, 121, 122, 123] (by decide +kernel) (by decide +kernel)
set_option maxRecDepth 20000 in
theorem gX11_ask_X2_bestAsk : GoodIn wsX11_ask (wsV RX11 316 RX2 yX2_bestAsk wsX2_bestAsk) := goodIn_app (goodIn_of _ (by decide +kernel)) ggX11_ask_X2_bestAsk
theorem dX11_ask_0 : decode cX11_ask 0 = .ok (.aload_n 0, 1) := by decide +kernel
theorem dX11_ask_1 : decode cX11_ask 1 = .ok (.iload_n 1, 1) := by decide +kernel
theorem dX11_ask_2 : decode cX11_ask 2 = .ok (.invokevirtual 307, 3) := by decide +kernel
theorem dX11_ask_5 : decode cX11_ask 5 = .ok (.aload_n 0, 1) := by decide +kernel
theorem dX11_ask_6 : decode cX11_ask 6 = .ok (.getfield 81, 3) := by decide +kernel
theorem dX11_ask_9 : decode cX11_ask 9 = .ok (.getfield 313, 3) := by decide +kernel
theorem dX11_ask_12 : decode cX11_ask 12 = .ok (.iconst 2, 1) := by decide +kernel
theorem dX11_ask_13 : decode cX11_ask 13 = .ok (.if_icmp .ge 7, 3) := by decide +kernel
theorem dX11_ask_16 : decode cX11_ask 16 = .ok (.iconst (-1), 1) := by decide +kernel
theorem dX11_ask_17 : decode cX11_ask 17 = .ok (.goto 15, 3) := by decide +kernel
theorem dX11_ask_20 : decode cX11_ask 20 = .ok (.aload_n 0, 1) := by decide +kernel
theorem dX11_ask_21 : decode cX11_ask 21 = .ok (.getfield 81, 3) := by decide +kernel
theorem dX11_ask_24 : decode cX11_ask 24 = .ok (.aload_n 0, 1) := by decide +kernel
theorem dX11_ask_25 : decode cX11_ask 25 = .ok (.getfield 33, 3) := by decide +kernel
theorem dX11_ask_28 : decode cX11_ask 28 = .ok (.iload_n 1, 1) := by decide +kernel
theorem dX11_ask_29 : decode cX11_ask 29 = .ok (.invokevirtual 316, 3) := by decide +kernel
theorem dX11_ask_32 : decode cX11_ask 32 = .ok (.ireturn, 1) := by decide +kernel
set_option maxRecDepth 20000 in
theorem ggX11_findFits_X11_useTapeUp : GoodIn wsX11_findFits wsX11_useTapeUp := goodIn_r _ [10, 11, 65, 66, 67, 68, 69, 70, 71, 72, 73, 74, 75, 76, 77, 78, 79, 80, 81, 82, 83, 84] (by decide +kernel) (by decide +kernel)
set_option maxRecDepth 20000 in
theorem gX11_findFits_X11_useTapeUp : GoodIn wsX11_findFits (wsV RX11 112 RX11 yX11_useTapeUp wsX11_useTapeUp) := goodIn_app (goodIn_of _ (by decide +kernel)) ggX11_findFits_X11_useTapeUp
set_option maxRecDepth 20000 in
theorem ggX11_findFits_X11_checkPlank : GoodIn wsX11_findFits wsX11_checkPlank := goodIn_ca (goodIn_r _ [15, 16, 17, 5, 18, 65, 66, 67, 68, 69, 70, 71, 72, 73, 74, 75, 76, 77, 78, 79, 80, 81, 82, 83, 84, 85, 86, 87, 88, 89, 90, 91, 92, 93, 94, 95, 96, 97, 98, 99, 100, 101, 102, 103, 104] (by decide +kernel) (by decide +kernel)) (goodIn_sub (fun _ h => List.mem_cons_of_mem _ (List.mem_append_right _ h)) (by decide +kernel))
set_option maxRecDepth 20000 in
theorem gX11_findFits_X11_checkPlank : GoodIn wsX11_findFits (wsV RX11 161 RX11 yX11_checkPlank wsX11_checkPlank) := goodIn_app (goodIn_of _ (by decide +kernel)) ggX11_findFits_X11_checkPlank
set_option maxRecDepth 20000 in
theorem ggX11_findFits_X2_isTold : GoodIn wsX11_findFits wsX2_isTold := goodIn_r _ [22] (by decide +kernel) (by decide +kernel)
set_option maxRecDepth 20000 in
theorem gX11_findFits_X2_isTold : GoodIn wsX11_findFits (va_wsS RX11 319 yX2_isTold wsX2_isTold) := goodIn_app (goodIn_of _ (by decide +kernel)) ggX11_findFits_X2_isTold
set_option maxRecDepth 20000 in
theorem ggX11_findFits_X2_search : GoodIn wsX11_findFits wsX2_search := goodIn_r _ [26, 27, 28, 29, 30, 31, 32, 33, 34, 35, 36, 37, 38, 39, 40, 41, 42, 43, 44, 45, 46, 47, 21, 48, 49, 50, 51, 52, 53, 54, 55, 56, 57, 58, 59, 60, 61, 62, 63, 64, 105, 106, 107, 108, 85, 86, 87, 88, 89, 90, 91, 92, 93, 94, 95, 96, 97, 98, 99, 100, 101, 102, 103, 104] (by decide +kernel) (by decide +kernel)
set_option maxRecDepth 20000 in
theorem gX11_findFits_X2_search : GoodIn wsX11_findFits (wsV RX11 323 RX2 yX2_search wsX2_search) := goodIn_app (goodIn_of _ (by decide +kernel)) ggX11_findFits_X2_search
theorem dX11_findFits_0 : decode cX11_findFits 0 = .ok (.aload_n 0, 1) := by decide +kernel
theorem dX11_findFits_1 : decode cX11_findFits 1 = .ok (.invokevirtual 112, 3) := by decide +kernel
theorem dX11_findFits_4 : decode cX11_findFits 4 = .ok (.istore_n 2, 1) := by decide +kernel
theorem dX11_findFits_5 : decode cX11_findFits 5 = .ok (.aload_n 0, 1) := by decide +kernel
theorem dX11_findFits_6 : decode cX11_findFits 6 = .ok (.iload_n 1, 1) := by decide +kernel
theorem dX11_findFits_7 : decode cX11_findFits 7 = .ok (.invokevirtual 161, 3) := by decide +kernel
theorem dX11_findFits_10 : decode cX11_findFits 10 = .ok (.aload_n 0, 1) := by decide +kernel
theorem dX11_findFits_11 : decode cX11_findFits 11 = .ok (.getfield 9, 3) := by decide +kernel
theorem dX11_findFits_14 : decode cX11_findFits 14 = .ok (.iload_n 2, 1) := by decide +kernel
theorem dX11_findFits_15 : decode cX11_findFits 15 = .ok (.invokestatic 319, 3) := by decide +kernel
theorem dX11_findFits_18 : decode cX11_findFits 18 = .ok (.ifCond .ne 11, 3) := by decide +kernel
theorem dX11_findFits_21 : decode cX11_findFits 21 = .ok (.new 127, 3) := by decide +kernel
theorem dX11_findFits_24 : decode cX11_findFits 24 = .ok (.dup, 1) := by decide +kernel
theorem dX11_findFits_25 : decode cX11_findFits 25 = .ok (.invokespecial 129, 3) := by decide +kernel
theorem dX11_findFits_28 : decode cX11_findFits 28 = .ok (.athrow, 1) := by decide +kernel
theorem dX11_findFits_29 : decode cX11_findFits 29 = .ok (.aload_n 0, 1) := by decide +kernel
theorem dX11_findFits_30 : decode cX11_findFits 30 = .ok (.getfield 81, 3) := by decide +kernel
theorem dX11_findFits_33 : decode cX11_findFits 33 = .ok (.aload_n 0, 1) := by decide +kernel
theorem dX11_findFits_34 : decode cX11_findFits 34 = .ok (.getfield 33, 3) := by decide +kernel
theorem dX11_findFits_37 : decode cX11_findFits 37 = .ok (.iload_n 1, 1) := by decide +kernel
theorem dX11_findFits_38 : decode cX11_findFits 38 = .ok (.aload_n 0, 1) := by decide +kernel
theorem dX11_findFits_39 : decode cX11_findFits 39 = .ok (.getfield 9, 3) := by decide +kernel
theorem dX11_findFits_42 : decode cX11_findFits 42 = .ok (.iload_n 2, 1) := by decide +kernel
theorem dX11_findFits_43 : decode cX11_findFits 43 = .ok (.invokevirtual 323, 3) := by decide +kernel
theorem dX11_findFits_46 : decode cX11_findFits 46 = .ok (.return_, 1) := by decide +kernel
set_option maxRecDepth 20000 in
theorem ggX11_ballast_X11_checkPlank : GoodIn wsX11_ballast wsX11_checkPlank := goodIn_ca (goodIn_r _ [6, 7, 8, 1, 9, 35, 36, 37, 38, 39, 40, 41, 42, 43, 44, 45, 46, 47, 48, 49, 50, 51, 52, 53, 54, 55, 56, 57, 58, 59, 60, 61, 62, 63, 64, 65, 66, 67, 68, 69, 70, 71, 72, 73, 74] (by decide +kernel) (by decide +kernel)) (goodIn_sub (fun _ h => List.mem_cons_of_mem _ (List.mem_append_right _ h)) (by decide +kernel))
set_option maxRecDepth 20000 in
theorem gX11_ballast_X11_checkPlank : GoodIn wsX11_ballast (wsV RX11 161 RX11 yX11_checkPlank wsX11_checkPlank) := goodIn_app (goodIn_of _ (by decide +kernel)) ggX11_ballast_X11_checkPlank
set_option maxRecDepth 20000 in
theorem ggX11_ballast_X0_restingChoices : GoodIn wsX11_ballast wsX0_restingChoices := goodIn_r _ [13, 14, 15, 12, 16, 17, 18, 19, 20, 21, 22, 23, 24, 25, 26, 27, 28, 29, 30, 31, 32, 33, 34, 55, 56, 57, 58, 59, 60, 61, 62, 63, 64, 65, 66, 67, 68, 69, 70, 71, 72, 73, 74] (by decide +kernel) (by decide +kernel)
set_option maxRecDepth 20000 in
theorem gX11_ballast_X0_restingChoices : GoodIn wsX11_ballast (va_wsS RX11 327 yX0_restingChoices wsX0_restingChoices) := goodIn_app (goodIn_of _ (by decide +kernel)) ggX11_ballast_X0_restingChoices
theorem dX11_ballast_0 : decode cX11_ballast 0 = .ok (.aload_n 0, 1) := by decide +kernel
theorem dX11_ballast_1 : decode cX11_ballast 1 = .ok (.iload_n 1, 1) := by decide +kernel
theorem dX11_ballast_2 : decode cX11_ballast 2 = .ok (.invokevirtual 161, 3) := by decide +kernel
theorem dX11_ballast_5 : decode cX11_ballast 5 = .ok (.aload_n 0, 1) := by decide +kernel
theorem dX11_ballast_6 : decode cX11_ballast 6 = .ok (.getfield 33, 3) := by decide +kernel
theorem dX11_ballast_9 : decode cX11_ballast 9 = .ok (.iload_n 1, 1) := by decide +kernel
theorem dX11_ballast_10 : decode cX11_ballast 10 = .ok (.invokestatic 327, 3) := by decide +kernel
theorem dX11_ballast_13 : decode cX11_ballast 13 = .ok (.ireturn, 1) := by decide +kernel
set_option maxRecDepth 20000 in
theorem ggX11_thief_X3_luredTo : GoodIn wsX11_thief wsX3_luredTo := goodIn_r _ [7, 8, 9, 10, 6, 11, 12, 13, 14, 15, 16, 17, 18, 19, 20, 21, 22, 23, 24, 25, 26, 27, 28, 29, 30, 31, 32, 33, 34, 35, 36, 37, 38, 39, 40, 41, 42, 43, 44, 45, 46, 47, 48, 49, 50, 51, 52, 53, 74, 75, 76, 77, 78, 79, 80, 81, 82, 83, 84, 85, 86, 87, 88, 89, 90, 91, 92, 93, 94, 95, 96, 97, 98, 99, 100] (by decide +kernel) (by decide +kernel)
set_option maxRecDepth 20000 in
theorem gX11_thief_X3_luredTo : GoodIn wsX11_thief (wsV RX11 330 RX3 yX3_luredTo wsX3_luredTo) := goodIn_app (goodIn_of _ (by decide +kernel)) ggX11_thief_X3_luredTo
theorem dX11_thief_0 : decode cX11_thief 0 = .ok (.aload_n 0, 1) := by decide +kernel
theorem dX11_thief_1 : decode cX11_thief 1 = .ok (.getfield 33, 3) := by decide +kernel
theorem dX11_thief_4 : decode cX11_thief 4 = .ok (.aload_n 0, 1) := by decide +kernel
theorem dX11_thief_5 : decode cX11_thief 5 = .ok (.getfield 40, 3) := by decide +kernel
theorem dX11_thief_8 : decode cX11_thief 8 = .ok (.iconst 0, 1) := by decide +kernel
theorem dX11_thief_9 : decode cX11_thief 9 = .ok (.invokevirtual 330, 3) := by decide +kernel
theorem dX11_thief_12 : decode cX11_thief 12 = .ok (.ireturn, 1) := by decide +kernel
set_option maxRecDepth 20000 in
theorem ggX11_guards_X11_checkNumber : GoodIn wsX11_guards wsX11_checkNumber := goodIn_ca (goodIn_r _ [5, 6, 7] (by decide +kernel) (by decide +kernel)) (goodIn_sub (fun _ h => List.mem_cons_of_mem _ (List.mem_append_right _ h)) (by decide +kernel))
set_option maxRecDepth 20000 in
theorem gX11_guards_X11_checkNumber : GoodIn wsX11_guards (va_wsS RX11 249 yX11_checkNumber wsX11_checkNumber) := goodIn_app (goodIn_of _ (by decide +kernel)) ggX11_guards_X11_checkNumber
set_option maxRecDepth 20000 in
theorem ggX11_guards_X3_houses : GoodIn wsX11_guards wsX3_houses := goodIn_r _ [12, 13, 140, 141, 142, 143, 144, 145, 146, 147, 148, 149, 150, 151, 152, 153, 154, 155, 156, 157, 158, 159] (by decide +kernel) (by decide +kernel)
set_option maxRecDepth 20000 in
theorem gX11_guards_X3_houses : GoodIn wsX11_guards (wsV RX11 155 RX3 yX3_houses wsX3_houses) := goodIn_app (goodIn_of _ (by decide +kernel)) ggX11_guards_X3_houses
set_option maxRecDepth 20000 in
theorem ggX11_guards_J6_bitCount_0f7a4 : GoodIn wsX11_guards wsJ6_bitCount_0f7a4 := goodIn_r _ [17, 18, 19, 20] (by decide +kernel) (by decide +kernel)
set_option maxRecDepth 20000 in
theorem gX11_guards_J6_bitCount_0f7a4 : GoodIn wsX11_guards (va_wsS RX11 292 yJ6_bitCount_0f7a4 wsJ6_bitCount_0f7a4) := goodIn_app (goodIn_of _ (by decide +kernel)) ggX11_guards_J6_bitCount_0f7a4
set_option maxRecDepth 20000 in
theorem ggX11_guards_X11_isSafe : GoodIn wsX11_guards wsX11_isSafe := goodIn_r _ [24, 25, 1, 26, 27, 28, 29, 30, 11, 31, 13, 32, 33, 34, 35, 36, 37, 38, 39, 40, 41, 42, 43, 44, 45, 46, 47, 48, 49, 50, 51, 52, 53, 54, 55, 56, 57, 58, 59, 60, 61, 62, 63, 9, 10, 12, 64, 65, 66, 67, 68, 69, 70, 71, 72, 73, 74, 75, 76, 77, 78, 79, 80, 81, 82, 83, 84, 85, 86, 87, 88, 89, 90, 91, 92, 93, 94, 95, 96, 97, 98, 99, 100, 101, 102, 103, 104, 105, 106, 107, 108, 109, 110, 111, 112, 113, 114, 115, 116, 117, 118, 119, 120, 121, 122, 123, 124, 125, 126, 127, 128, 129, 130, 131, 132, 133, 134, 135, 136, 137, 138, 139, 140, 141, 142, 143, 144, 145, 146, 147, 148, 149, 150, 151, 152, 153, 154, 155, 156, 157, 158, 159, 160, 161, 162, 163, 164, 165, 166] (by decide +kernel) (by decide +kernel)
set_option maxRecDepth 20000 in
theorem gX11_guards_X11_isSafe : GoodIn wsX11_guards (wsV RX11 333 RX11 yX11_isSafe wsX11_isSafe) := goodIn_app (goodIn_of _ (by decide +kernel)) ggX11_guards_X11_isSafe
theorem dX11_guards_0 : decode cX11_guards 0 = .ok (.iload_n 1, 1) := by decide +kernel
theorem dX11_guards_1 : decode cX11_guards 1 = .ok (.iconst 0, 1) := by decide +kernel
theorem dX11_guards_2 : decode cX11_guards 2 = .ok (.bipush 8, 2) := by decide +kernel
theorem dX11_guards_4 : decode cX11_guards 4 = .ok (.invokestatic 249, 3) := by decide +kernel
theorem dX11_guards_7 : decode cX11_guards 7 = .ok (.iload_n 2, 1) := by decide +kernel
theorem dX11_guards_8 : decode cX11_guards 8 = .ok (.iconst 0, 1) := by decide +kernel
theorem dX11_guards_9 : decode cX11_guards 9 = .ok (.bipush 99, 2) := by decide +kernel
theorem dX11_guards_11 : decode cX11_guards 11 = .ok (.invokestatic 249, 3) := by decide +kernel
theorem dX11_guards_14 : decode cX11_guards 14 = .ok (.iconst 1, 1) := by decide +kernel
theorem dX11_guards_15 : decode cX11_guards 15 = .ok (.aload_n 0, 1) := by decide +kernel
theorem dX11_guards_16 : decode cX11_guards 16 = .ok (.getfield 33, 3) := by decide +kernel
theorem dX11_guards_19 : decode cX11_guards 19 = .ok (.invokevirtual 155, 3) := by decide +kernel
theorem dX11_guards_22 : decode cX11_guards 22 = .ok (.ishl, 1) := by decide +kernel
theorem dX11_guards_23 : decode cX11_guards 23 = .ok (.istore_n 3, 1) := by decide +kernel
theorem dX11_guards_24 : decode cX11_guards 24 = .ok (.iconst 0, 1) := by decide +kernel
theorem dX11_guards_25 : decode cX11_guards 25 = .ok (.istore 4, 2) := by decide +kernel
theorem dX11_guards_27 : decode cX11_guards 27 = .ok (.iload 4, 2) := by decide +kernel
theorem dX11_guards_29 : decode cX11_guards 29 = .ok (.iconst 3, 1) := by decide +kernel
theorem dX11_guards_30 : decode cX11_guards 30 = .ok (.if_icmp .gt 48, 3) := by decide +kernel
theorem dX11_guards_33 : decode cX11_guards 33 = .ok (.iconst 0, 1) := by decide +kernel
theorem dX11_guards_34 : decode cX11_guards 34 = .ok (.istore 5, 2) := by decide +kernel
theorem dX11_guards_36 : decode cX11_guards 36 = .ok (.iload 5, 2) := by decide +kernel
theorem dX11_guards_38 : decode cX11_guards 38 = .ok (.iload_n 3, 1) := by decide +kernel
theorem dX11_guards_39 : decode cX11_guards 39 = .ok (.if_icmp .ge 33, 3) := by decide +kernel
theorem dX11_guards_42 : decode cX11_guards 42 = .ok (.iload 5, 2) := by decide +kernel
theorem dX11_guards_44 : decode cX11_guards 44 = .ok (.invokestatic 292, 3) := by decide +kernel
theorem dX11_guards_47 : decode cX11_guards 47 = .ok (.iload 4, 2) := by decide +kernel
theorem dX11_guards_49 : decode cX11_guards 49 = .ok (.if_icmp .ne 17, 3) := by decide +kernel
theorem dX11_guards_52 : decode cX11_guards 52 = .ok (.aload_n 0, 1) := by decide +kernel
theorem dX11_guards_53 : decode cX11_guards 53 = .ok (.iload 5, 2) := by decide +kernel
theorem dX11_guards_55 : decode cX11_guards 55 = .ok (.iload_n 1, 1) := by decide +kernel
theorem dX11_guards_56 : decode cX11_guards 56 = .ok (.iload_n 2, 1) := by decide +kernel
theorem dX11_guards_57 : decode cX11_guards 57 = .ok (.invokevirtual 333, 3) := by decide +kernel
theorem dX11_guards_60 : decode cX11_guards 60 = .ok (.ifCond .eq 6, 3) := by decide +kernel
theorem dX11_guards_63 : decode cX11_guards 63 = .ok (.iload 5, 2) := by decide +kernel
theorem dX11_guards_65 : decode cX11_guards 65 = .ok (.ireturn, 1) := by decide +kernel
theorem dX11_guards_66 : decode cX11_guards 66 = .ok (.iinc 5 1, 3) := by decide +kernel
theorem dX11_guards_69 : decode cX11_guards 69 = .ok (.goto (-33), 3) := by decide +kernel
theorem dX11_guards_72 : decode cX11_guards 72 = .ok (.iinc 4 1, 3) := by decide +kernel
theorem dX11_guards_75 : decode cX11_guards 75 = .ok (.goto (-48), 3) := by decide +kernel
theorem dX11_guards_78 : decode cX11_guards 78 = .ok (.iconst (-1), 1) := by decide +kernel
theorem dX11_guards_79 : decode cX11_guards 79 = .ok (.ireturn, 1) := by decide +kernel
set_option maxRecDepth 20000 in
theorem ggX11_isSafe_X3_copyFrom : GoodIn wsX11_isSafe wsX3_copyFrom := goodIn_r _ [9, 10, 11, 12, 13, 14, 15, 16, 17, 18, 19, 20, 21, 22, 23, 24, 25, 26, 27, 28, 29, 30, 31, 32, 33, 122, 123, 124, 125, 126, 127, 128, 129, 130, 131, 132, 133, 134, 135, 136, 137, 138, 139, 140, 141] (by decide +kernel) (by decide +kernel)
set_option maxRecDepth 20000 in
theorem gX11_isSafe_X3_copyFrom : GoodIn wsX11_isSafe (wsV RX11 120 RX3 yX3_copyFrom wsX3_copyFrom) := goodIn_app (goodIn_of _ (by decide +kernel)) ggX11_isSafe_X3_copyFrom
set_option maxRecDepth 20000 in
theorem ggX11_isSafe_X3_stealOne : GoodIn wsX11_isSafe wsX3_stealOne := goodIn_r _ [37, 31, 38, 39, 40, 8, 41, 42, 43, 44, 45, 10, 46, 47, 48, 49, 50, 51, 52, 53, 54, 55, 56, 57, 58, 59, 60, 61, 62, 63, 64, 65, 66, 67, 68, 69, 70, 71, 72, 73, 74, 33, 32, 28, 26, 17, 75, 76, 77, 78, 11, 30, 79, 80, 81, 82, 83, 84, 85, 86, 12, 29, 20, 87, 88, 89, 90, 19, 91, 92, 93, 94, 13, 95, 96, 97, 98, 99, 100, 101, 122, 123, 124, 125, 126, 127, 128, 129, 130, 131, 132, 133, 134, 135, 136, 137, 138, 139, 140, 141, 142, 143, 144, 145, 146, 147, 148] (by decide +kernel) (by decide +kernel)
set_option maxRecDepth 20000 in
theorem gX11_isSafe_X3_stealOne : GoodIn wsX11_isSafe (wsV RX11 337 RX3 yX3_stealOne wsX3_stealOne) := goodIn_app (goodIn_of _ (by decide +kernel)) ggX11_isSafe_X3_stealOne
theorem dX11_isSafe_0 : decode cX11_isSafe 0 = .ok (.aload_n 0, 1) := by decide +kernel
theorem dX11_isSafe_1 : decode cX11_isSafe 1 = .ok (.getfield 51, 3) := by decide +kernel
theorem dX11_isSafe_4 : decode cX11_isSafe 4 = .ok (.aload_n 0, 1) := by decide +kernel
theorem dX11_isSafe_5 : decode cX11_isSafe 5 = .ok (.getfield 33, 3) := by decide +kernel
theorem dX11_isSafe_8 : decode cX11_isSafe 8 = .ok (.invokevirtual 120, 3) := by decide +kernel
theorem dX11_isSafe_11 : decode cX11_isSafe 11 = .ok (.iconst 0, 1) := by decide +kernel
theorem dX11_isSafe_12 : decode cX11_isSafe 12 = .ok (.istore 4, 2) := by decide +kernel
theorem dX11_isSafe_14 : decode cX11_isSafe 14 = .ok (.iload 4, 2) := by decide +kernel
theorem dX11_isSafe_16 : decode cX11_isSafe 16 = .ok (.iload_n 2, 1) := by decide +kernel
theorem dX11_isSafe_17 : decode cX11_isSafe 17 = .ok (.if_icmp .ge 47, 3) := by decide +kernel
theorem dX11_isSafe_20 : decode cX11_isSafe 20 = .ok (.aload_n 0, 1) := by decide +kernel
theorem dX11_isSafe_21 : decode cX11_isSafe 21 = .ok (.getfield 51, 3) := by decide +kernel
theorem dX11_isSafe_24 : decode cX11_isSafe 24 = .ok (.aload_n 0, 1) := by decide +kernel
theorem dX11_isSafe_25 : decode cX11_isSafe 25 = .ok (.getfield 40, 3) := by decide +kernel
theorem dX11_isSafe_28 : decode cX11_isSafe 28 = .ok (.iload_n 1, 1) := by decide +kernel
theorem dX11_isSafe_29 : decode cX11_isSafe 29 = .ok (.invokevirtual 337, 3) := by decide +kernel
theorem dX11_isSafe_32 : decode cX11_isSafe 32 = .ok (.istore 5, 2) := by decide +kernel
theorem dX11_isSafe_34 : decode cX11_isSafe 34 = .ok (.iload 5, 2) := by decide +kernel
theorem dX11_isSafe_36 : decode cX11_isSafe 36 = .ok (.iconst (-1), 1) := by decide +kernel
theorem dX11_isSafe_37 : decode cX11_isSafe 37 = .ok (.if_icmp .ne 5, 3) := by decide +kernel
theorem dX11_isSafe_40 : decode cX11_isSafe 40 = .ok (.iconst 1, 1) := by decide +kernel
theorem dX11_isSafe_41 : decode cX11_isSafe 41 = .ok (.ireturn, 1) := by decide +kernel
theorem dX11_isSafe_42 : decode cX11_isSafe 42 = .ok (.aload_n 0, 1) := by decide +kernel
theorem dX11_isSafe_43 : decode cX11_isSafe 43 = .ok (.getfield 51, 3) := by decide +kernel
theorem dX11_isSafe_46 : decode cX11_isSafe 46 = .ok (.getfield 229, 3) := by decide +kernel
theorem dX11_isSafe_49 : decode cX11_isSafe 49 = .ok (.iload 5, 2) := by decide +kernel
theorem dX11_isSafe_51 : decode cX11_isSafe 51 = .ok (.iaload, 1) := by decide +kernel
theorem dX11_isSafe_52 : decode cX11_isSafe 52 = .ok (.iload_n 3, 1) := by decide +kernel
theorem dX11_isSafe_53 : decode cX11_isSafe 53 = .ok (.if_icmp .le 5, 3) := by decide +kernel
theorem dX11_isSafe_56 : decode cX11_isSafe 56 = .ok (.iconst 0, 1) := by decide +kernel
theorem dX11_isSafe_57 : decode cX11_isSafe 57 = .ok (.ireturn, 1) := by decide +kernel
theorem dX11_isSafe_58 : decode cX11_isSafe 58 = .ok (.iinc 4 1, 3) := by decide +kernel
theorem dX11_isSafe_61 : decode cX11_isSafe 61 = .ok (.goto (-47), 3) := by decide +kernel
theorem dX11_isSafe_64 : decode cX11_isSafe 64 = .ok (.iconst 1, 1) := by decide +kernel
theorem dX11_isSafe_65 : decode cX11_isSafe 65 = .ok (.ireturn, 1) := by decide +kernel
set_option maxRecDepth 20000 in
theorem ggX11_loot_X11_checkNumber : GoodIn wsX11_loot wsX11_checkNumber := goodIn_ca (goodIn_r _ [8, 9, 10] (by decide +kernel) (by decide +kernel)) (goodIn_sub (fun _ h => List.mem_cons_of_mem _ (List.mem_append_right _ h)) (by decide +kernel))
set_option maxRecDepth 20000 in
theorem gX11_loot_X11_checkNumber : GoodIn wsX11_loot (va_wsS RX11 249 yX11_checkNumber wsX11_checkNumber) := goodIn_app (goodIn_of _ (by decide +kernel)) ggX11_loot_X11_checkNumber
set_option maxRecDepth 20000 in
theorem ggX11_loot_X3_copyFrom : GoodIn wsX11_loot wsX3_copyFrom := goodIn_r _ [15, 16, 17, 18, 19, 20, 21, 22, 23, 24, 25, 26, 27, 28, 29, 30, 31, 32, 33, 34, 35, 36, 37, 38, 39, 128, 129, 130, 131, 132, 133, 134, 135, 136, 137, 138, 139, 140, 141, 142, 143, 144, 145, 146, 147] (by decide +kernel) (by decide +kernel)
set_option maxRecDepth 20000 in
theorem gX11_loot_X3_copyFrom : GoodIn wsX11_loot (wsV RX11 120 RX3 yX3_copyFrom wsX3_copyFrom) := goodIn_app (goodIn_of _ (by decide +kernel)) ggX11_loot_X3_copyFrom
set_option maxRecDepth 20000 in
theorem ggX11_loot_X3_stealOne : GoodIn wsX11_loot wsX3_stealOne := goodIn_r _ [43, 37, 44, 45, 46, 14, 47, 48, 49, 50, 51, 16, 52, 53, 54, 55, 56, 57, 58, 59, 60, 61, 62, 63, 64, 65, 66, 67, 68, 69, 70, 71, 72, 73, 74, 75, 76, 77, 78, 79, 80, 39, 38, 34, 32, 23, 81, 82, 83, 84, 17, 36, 85, 86, 87, 88, 89, 90, 91, 92, 18, 35, 26, 93, 94, 95, 96, 25, 97, 98, 99, 100, 19, 101, 102, 103, 104, 105, 106, 107, 128, 129, 130, 131, 132, 133, 134, 135, 136, 137, 138, 139, 140, 141, 142, 143, 144, 145, 146, 147, 148, 149, 150, 151, 152, 153, 154] (by decide +kernel) (by decide +kernel)
set_option maxRecDepth 20000 in
theorem gX11_loot_X3_stealOne : GoodIn wsX11_loot (wsV RX11 337 RX3 yX3_stealOne wsX3_stealOne) := goodIn_app (goodIn_of _ (by decide +kernel)) ggX11_loot_X3_stealOne
theorem dX11_loot_0 : decode cX11_loot 0 = .ok (.iload_n 1, 1) := by decide +kernel
theorem dX11_loot_1 : decode cX11_loot 1 = .ok (.iconst 0, 1) := by decide +kernel
theorem dX11_loot_2 : decode cX11_loot 2 = .ok (.bipush 10, 2) := by decide +kernel
theorem dX11_loot_4 : decode cX11_loot 4 = .ok (.invokestatic 249, 3) := by decide +kernel
theorem dX11_loot_7 : decode cX11_loot 7 = .ok (.aload_n 0, 1) := by decide +kernel
theorem dX11_loot_8 : decode cX11_loot 8 = .ok (.getfield 51, 3) := by decide +kernel
theorem dX11_loot_11 : decode cX11_loot 11 = .ok (.aload_n 0, 1) := by decide +kernel
theorem dX11_loot_12 : decode cX11_loot 12 = .ok (.getfield 33, 3) := by decide +kernel
theorem dX11_loot_15 : decode cX11_loot 15 = .ok (.invokevirtual 120, 3) := by decide +kernel
theorem dX11_loot_18 : decode cX11_loot 18 = .ok (.iconst 0, 1) := by decide +kernel
theorem dX11_loot_19 : decode cX11_loot 19 = .ok (.istore_n 2, 1) := by decide +kernel
theorem dX11_loot_20 : decode cX11_loot 20 = .ok (.iconst 0, 1) := by decide +kernel
theorem dX11_loot_21 : decode cX11_loot 21 = .ok (.istore_n 3, 1) := by decide +kernel
theorem dX11_loot_22 : decode cX11_loot 22 = .ok (.iload_n 3, 1) := by decide +kernel
theorem dX11_loot_23 : decode cX11_loot 23 = .ok (.iload_n 1, 1) := by decide +kernel
theorem dX11_loot_24 : decode cX11_loot 24 = .ok (.if_icmp .ge 46, 3) := by decide +kernel
theorem dX11_loot_27 : decode cX11_loot 27 = .ok (.aload_n 0, 1) := by decide +kernel
theorem dX11_loot_28 : decode cX11_loot 28 = .ok (.getfield 51, 3) := by decide +kernel
theorem dX11_loot_31 : decode cX11_loot 31 = .ok (.aload_n 0, 1) := by decide +kernel
theorem dX11_loot_32 : decode cX11_loot 32 = .ok (.getfield 40, 3) := by decide +kernel
theorem dX11_loot_35 : decode cX11_loot 35 = .ok (.iconst 0, 1) := by decide +kernel
theorem dX11_loot_36 : decode cX11_loot 36 = .ok (.invokevirtual 337, 3) := by decide +kernel
theorem dX11_loot_39 : decode cX11_loot 39 = .ok (.istore 4, 2) := by decide +kernel
theorem dX11_loot_41 : decode cX11_loot 41 = .ok (.iload_n 2, 1) := by decide +kernel
theorem dX11_loot_42 : decode cX11_loot 42 = .ok (.iload 4, 2) := by decide +kernel
theorem dX11_loot_44 : decode cX11_loot 44 = .ok (.iconst (-1), 1) := by decide +kernel
theorem dX11_loot_45 : decode cX11_loot 45 = .ok (.if_icmp .ne 7, 3) := by decide +kernel
theorem dX11_loot_48 : decode cX11_loot 48 = .ok (.iconst 0, 1) := by decide +kernel
theorem dX11_loot_49 : decode cX11_loot 49 = .ok (.goto 13, 3) := by decide +kernel
theorem dX11_loot_52 : decode cX11_loot 52 = .ok (.aload_n 0, 1) := by decide +kernel
theorem dX11_loot_53 : decode cX11_loot 53 = .ok (.getfield 51, 3) := by decide +kernel
theorem dX11_loot_56 : decode cX11_loot 56 = .ok (.getfield 229, 3) := by decide +kernel
theorem dX11_loot_59 : decode cX11_loot 59 = .ok (.iload 4, 2) := by decide +kernel
theorem dX11_loot_61 : decode cX11_loot 61 = .ok (.iaload, 1) := by decide +kernel
theorem dX11_loot_62 : decode cX11_loot 62 = .ok (.iadd, 1) := by decide +kernel
theorem dX11_loot_63 : decode cX11_loot 63 = .ok (.istore_n 2, 1) := by decide +kernel
theorem dX11_loot_64 : decode cX11_loot 64 = .ok (.iinc 3 1, 3) := by decide +kernel
theorem dX11_loot_67 : decode cX11_loot 67 = .ok (.goto (-45), 3) := by decide +kernel
theorem dX11_loot_70 : decode cX11_loot 70 = .ok (.iload_n 2, 1) := by decide +kernel
theorem dX11_loot_71 : decode cX11_loot 71 = .ok (.ireturn, 1) := by decide +kernel
set_option maxRecDepth 20000 in
theorem ggX11_rent_X11_checkHouse : GoodIn wsX11_rent wsX11_checkHouse := goodIn_ca (goodIn_r _ [8, 9, 10, 1, 11, 12, 13, 14, 15, 16, 127, 128, 129, 130, 131, 132, 133, 134, 135, 136, 137, 138, 139, 140, 141, 142, 143, 144, 145, 146, 147, 148, 149, 150, 151, 152, 153, 154, 155, 156, 157, 158, 159, 160, 161, 162, 163, 164, 165, 166] (by decide +kernel) (by decide +kernel)) (goodIn_sub (fun _ h => List.mem_cons_of_mem _ (List.mem_append_left _ (List.mem_append_right _ h))) (by decide +kernel))
set_option maxRecDepth 20000 in
theorem gX11_rent_X11_checkHouse : GoodIn wsX11_rent (wsV RX11 193 RX11 yX11_checkHouse wsX11_checkHouse) := goodIn_app (goodIn_of _ (by decide +kernel)) ggX11_rent_X11_checkHouse
set_option maxRecDepth 20000 in
theorem ggX11_rent_X11_checkNumber : GoodIn wsX11_rent wsX11_checkNumber := goodIn_ca (goodIn_r _ [19, 20, 21] (by decide +kernel) (by decide +kernel)) (goodIn_sub (fun _ h => List.mem_cons_of_mem _ (List.mem_append_right _ h)) (by decide +kernel))
set_option maxRecDepth 20000 in
theorem gX11_rent_X11_checkNumber : GoodIn wsX11_rent (va_wsS RX11 249 yX11_checkNumber wsX11_checkNumber) := goodIn_app (goodIn_of _ (by decide +kernel)) ggX11_rent_X11_checkNumber
set_option maxRecDepth 20000 in
theorem ggX11_rent_X11_lookAhead : GoodIn wsX11_rent wsX11_lookAhead := goodIn_r _ [25, 3, 1, 26, 27, 28, 29, 14, 30, 16, 31, 32, 33, 34, 35, 36, 37, 38, 39, 40, 41, 42, 43, 44, 45, 46, 47, 48, 49, 50, 51, 52, 53, 54, 55, 56, 57, 58, 59, 60, 61, 62, 63, 64, 65, 66, 67, 68, 69, 70, 71, 72, 73, 74, 75, 76, 77, 78, 79, 80, 81, 82, 83, 84, 85, 86, 87, 88, 89, 90, 91, 92, 93, 94, 95, 96, 97, 98, 99, 100, 101, 102, 103, 104, 105, 106, 107, 108, 109, 110, 111, 112, 113, 114, 115, 116, 117, 118, 12, 13, 15, 119, 120, 121, 122, 123, 124, 125, 126, 127, 128, 129, 130, 131, 132, 133, 134, 135, 136, 137, 138, 139, 140, 141, 142, 143, 144, 145, 146, 147, 148, 149, 150, 151, 152, 153, 154, 155, 156, 157, 158, 159, 160, 161, 162, 163, 164, 165, 166, 167, 168, 169, 170, 171, 172, 173] (by decide +kernel) (by decide +kernel)
set_option maxRecDepth 20000 in
theorem gX11_rent_X11_lookAhead : GoodIn wsX11_rent (wsV RX11 340 RX11 yX11_lookAhead wsX11_lookAhead) := goodIn_app (goodIn_of _ (by decide +kernel)) ggX11_rent_X11_lookAhead
theorem dX11_rent_0 : decode cX11_rent 0 = .ok (.aload_n 0, 1) := by decide +kernel
theorem dX11_rent_1 : decode cX11_rent 1 = .ok (.iload_n 1, 1) := by decide +kernel
theorem dX11_rent_2 : decode cX11_rent 2 = .ok (.invokevirtual 193, 3) := by decide +kernel
theorem dX11_rent_5 : decode cX11_rent 5 = .ok (.iload_n 2, 1) := by decide +kernel
theorem dX11_rent_6 : decode cX11_rent 6 = .ok (.iconst 0, 1) := by decide +kernel
theorem dX11_rent_7 : decode cX11_rent 7 = .ok (.bipush 100, 2) := by decide +kernel
theorem dX11_rent_9 : decode cX11_rent 9 = .ok (.invokestatic 249, 3) := by decide +kernel
theorem dX11_rent_12 : decode cX11_rent 12 = .ok (.aload_n 0, 1) := by decide +kernel
theorem dX11_rent_13 : decode cX11_rent 13 = .ok (.iload_n 1, 1) := by decide +kernel
theorem dX11_rent_14 : decode cX11_rent 14 = .ok (.iconst 2, 1) := by decide +kernel
theorem dX11_rent_15 : decode cX11_rent 15 = .ok (.idiv, 1) := by decide +kernel
theorem dX11_rent_16 : decode cX11_rent 16 = .ok (.iload_n 2, 1) := by decide +kernel
theorem dX11_rent_17 : decode cX11_rent 17 = .ok (.invokevirtual 340, 3) := by decide +kernel
theorem dX11_rent_20 : decode cX11_rent 20 = .ok (.aload_n 0, 1) := by decide +kernel
theorem dX11_rent_21 : decode cX11_rent 21 = .ok (.getfield 33, 3) := by decide +kernel
theorem dX11_rent_24 : decode cX11_rent 24 = .ok (.getfield 196, 3) := by decide +kernel
theorem dX11_rent_27 : decode cX11_rent 27 = .ok (.iload_n 1, 1) := by decide +kernel
theorem dX11_rent_28 : decode cX11_rent 28 = .ok (.iaload, 1) := by decide +kernel
theorem dX11_rent_29 : decode cX11_rent 29 = .ok (.aload_n 0, 1) := by decide +kernel
theorem dX11_rent_30 : decode cX11_rent 30 = .ok (.getfield 51, 3) := by decide +kernel
theorem dX11_rent_33 : decode cX11_rent 33 = .ok (.getfield 196, 3) := by decide +kernel
theorem dX11_rent_36 : decode cX11_rent 36 = .ok (.iload_n 1, 1) := by decide +kernel
theorem dX11_rent_37 : decode cX11_rent 37 = .ok (.iaload, 1) := by decide +kernel
theorem dX11_rent_38 : decode cX11_rent 38 = .ok (.isub, 1) := by decide +kernel
theorem dX11_rent_39 : decode cX11_rent 39 = .ok (.ireturn, 1) := by decide +kernel
set_option maxRecDepth 20000 in
theorem ggX11_lookAhead_X3_copyFrom : GoodIn wsX11_lookAhead wsX3_copyFrom := goodIn_r _ [8, 9, 10, 11, 12, 13, 14, 15, 16, 17, 18, 19, 20, 21, 22, 23, 24, 25, 26, 27, 28, 29, 30, 31, 32, 129, 130, 131, 132, 133, 134, 135, 136, 137, 138, 139, 140, 141, 142, 143, 144, 145, 146, 147, 148] (by decide +kernel) (by decide +kernel)
set_option maxRecDepth 20000 in
theorem gX11_lookAhead_X3_copyFrom : GoodIn wsX11_lookAhead (wsV RX11 120 RX3 yX3_copyFrom wsX3_copyFrom) := goodIn_app (goodIn_of _ (by decide +kernel)) ggX11_lookAhead_X3_copyFrom
set_option maxRecDepth 20000 in
theorem ggX11_lookAhead_X3_payAndGrowOld : GoodIn wsX11_lookAhead wsX3_payAndGrowOld := goodIn_r _ [36, 37, 38, 39, 7, 40, 19, 26, 41, 42, 43, 44, 45, 46, 47, 48, 15, 32, 49, 50, 51, 52, 53, 54, 55, 56, 57, 58, 59, 60, 61, 62, 63, 64, 65, 66, 67, 68, 69, 70, 71, 72, 73, 31, 27, 25, 16, 74, 75, 76, 77, 78, 79, 80, 81, 82, 83, 84, 85, 86, 87, 88, 20, 129, 130, 131, 132, 133, 134, 135, 136, 137, 138, 139, 140, 141, 142, 143, 144, 145, 146, 147, 148, 149, 150, 151, 152, 153, 154, 155] (by decide +kernel) (by decide +kernel)
set_option maxRecDepth 20000 in
theorem gX11_lookAhead_X3_payAndGrowOld : GoodIn wsX11_lookAhead (wsV RX11 344 RX3 yX3_payAndGrowOld wsX3_payAndGrowOld) := goodIn_app (goodIn_of _ (by decide +kernel)) ggX11_lookAhead_X3_payAndGrowOld
set_option maxRecDepth 20000 in
theorem ggX11_lookAhead_X3_turnWeek : GoodIn wsX11_lookAhead wsX3_turnWeek := goodIn_r _ [92, 16, 78, 79, 43, 80, 93, 94, 95, 7, 96, 31, 11, 27, 10, 30, 28, 9, 32, 19, 97, 98, 99, 100, 101, 102, 103, 104, 18, 105, 106, 107, 108, 12, 41, 42, 44, 129, 130, 131, 132, 133, 134, 135, 136, 137, 138, 139, 140, 141, 142, 143, 144, 145, 146, 147, 148] (by decide +kernel) (by decide +kernel)
set_option maxRecDepth 20000 in
theorem gX11_lookAhead_X3_turnWeek : GoodIn wsX11_lookAhead (wsV RX11 286 RX3 yX3_turnWeek wsX3_turnWeek) := goodIn_app (goodIn_of _ (by decide +kernel)) ggX11_lookAhead_X3_turnWeek
theorem dX11_lookAhead_0 : decode cX11_lookAhead 0 = .ok (.aload_n 0, 1) := by decide +kernel
theorem dX11_lookAhead_1 : decode cX11_lookAhead 1 = .ok (.getfield 51, 3) := by decide +kernel
theorem dX11_lookAhead_4 : decode cX11_lookAhead 4 = .ok (.aload_n 0, 1) := by decide +kernel
theorem dX11_lookAhead_5 : decode cX11_lookAhead 5 = .ok (.getfield 33, 3) := by decide +kernel
theorem dX11_lookAhead_8 : decode cX11_lookAhead 8 = .ok (.invokevirtual 120, 3) := by decide +kernel
theorem dX11_lookAhead_11 : decode cX11_lookAhead 11 = .ok (.iconst 0, 1) := by decide +kernel
theorem dX11_lookAhead_12 : decode cX11_lookAhead 12 = .ok (.istore_n 3, 1) := by decide +kernel
theorem dX11_lookAhead_13 : decode cX11_lookAhead 13 = .ok (.iload_n 3, 1) := by decide +kernel
theorem dX11_lookAhead_14 : decode cX11_lookAhead 14 = .ok (.iload_n 2, 1) := by decide +kernel
theorem dX11_lookAhead_15 : decode cX11_lookAhead 15 = .ok (.if_icmp .ge 28, 3) := by decide +kernel
theorem dX11_lookAhead_18 : decode cX11_lookAhead 18 = .ok (.aload_n 0, 1) := by decide +kernel
theorem dX11_lookAhead_19 : decode cX11_lookAhead 19 = .ok (.getfield 51, 3) := by decide +kernel
theorem dX11_lookAhead_22 : decode cX11_lookAhead 22 = .ok (.aload_n 0, 1) := by decide +kernel
theorem dX11_lookAhead_23 : decode cX11_lookAhead 23 = .ok (.getfield 40, 3) := by decide +kernel
theorem dX11_lookAhead_26 : decode cX11_lookAhead 26 = .ok (.iload_n 1, 1) := by decide +kernel
theorem dX11_lookAhead_27 : decode cX11_lookAhead 27 = .ok (.invokevirtual 344, 3) := by decide +kernel
theorem dX11_lookAhead_30 : decode cX11_lookAhead 30 = .ok (.aload_n 0, 1) := by decide +kernel
theorem dX11_lookAhead_31 : decode cX11_lookAhead 31 = .ok (.getfield 51, 3) := by decide +kernel
theorem dX11_lookAhead_34 : decode cX11_lookAhead 34 = .ok (.invokevirtual 286, 3) := by decide +kernel
theorem dX11_lookAhead_37 : decode cX11_lookAhead 37 = .ok (.iinc 3 1, 3) := by decide +kernel
theorem dX11_lookAhead_40 : decode cX11_lookAhead 40 = .ok (.goto (-27), 3) := by decide +kernel
theorem dX11_lookAhead_43 : decode cX11_lookAhead 43 = .ok (.return_, 1) := by decide +kernel
set_option maxRecDepth 20000 in
theorem ggX11_poor_X3_copyFrom : GoodIn wsX11_poor wsX3_copyFrom := goodIn_r _ [9, 10, 11, 12, 13, 14, 15, 16, 17, 18, 19, 20, 21, 22, 23, 24, 25, 26, 27, 28, 29, 30, 31, 32, 33, 134, 135, 136, 137, 138, 139, 140, 141, 142, 143, 144, 145, 146, 147, 148, 149, 150, 151, 152, 153] (by decide +kernel) (by decide +kernel)
set_option maxRecDepth 20000 in
theorem gX11_poor_X3_copyFrom : GoodIn wsX11_poor (wsV RX11 120 RX3 yX3_copyFrom wsX3_copyFrom) := goodIn_app (goodIn_of _ (by decide +kernel)) ggX11_poor_X3_copyFrom
set_option maxRecDepth 20000 in
theorem ggX11_poor_X3_hasEmptyPurse : GoodIn wsX11_poor wsX3_hasEmptyPurse := goodIn_r _ [37, 27, 38, 39, 40, 8, 41, 10, 134, 135, 136, 137, 138, 139, 140, 141, 142, 143, 144, 145, 146, 147, 148, 149, 150, 151, 152, 153] (by decide +kernel) (by decide +kernel)
set_option maxRecDepth 20000 in
theorem gX11_poor_X3_hasEmptyPurse : GoodIn wsX11_poor (wsV RX11 347 RX3 yX3_hasEmptyPurse wsX3_hasEmptyPurse) := goodIn_app (goodIn_of _ (by decide +kernel)) ggX11_poor_X3_hasEmptyPurse
set_option maxRecDepth 20000 in
theorem ggX11_poor_X3_payAndGrowOld : GoodIn wsX11_poor wsX3_payAndGrowOld := goodIn_r _ [45, 46, 47, 48, 8, 49, 20, 27, 50, 51, 52, 53, 54, 55, 56, 57, 16, 33, 58, 59, 60, 61, 62, 63, 64, 65, 66, 67, 68, 69, 70, 71, 72, 73, 74, 75, 76, 77, 78, 79, 80, 81, 82, 32, 28, 26, 17, 83, 84, 85, 86, 87, 88, 89, 90, 91, 92, 93, 94, 95, 96, 97, 21, 134, 135, 136, 137, 138, 139, 140, 141, 142, 143, 144, 145, 146, 147, 148, 149, 150, 151, 152, 153, 154, 155, 156, 157, 158, 159, 160] (by decide +kernel) (by decide +kernel)
set_option maxRecDepth 20000 in
theorem gX11_poor_X3_payAndGrowOld : GoodIn wsX11_poor (wsV RX11 344 RX3 yX3_payAndGrowOld wsX3_payAndGrowOld) := goodIn_app (goodIn_of _ (by decide +kernel)) ggX11_poor_X3_payAndGrowOld
set_option maxRecDepth 20000 in
theorem ggX11_poor_X3_turnWeek : GoodIn wsX11_poor wsX3_turnWeek := goodIn_r _ [101, 17, 87, 88, 52, 89, 102, 103, 104, 8, 105, 32, 12, 28, 11, 31, 29, 10, 33, 20, 38, 39, 40, 41, 106, 107, 108, 109, 19, 110, 111, 112, 113, 13, 50, 51, 53, 134, 135, 136, 137, 138, 139, 140, 141, 142, 143, 144, 145, 146, 147, 148, 149, 150, 151, 152, 153] (by decide +kernel) (by decide +kernel)
set_option maxRecDepth 20000 in
theorem gX11_poor_X3_turnWeek : GoodIn wsX11_poor (wsV RX11 286 RX3 yX3_turnWeek wsX3_turnWeek) := goodIn_app (goodIn_of _ (by decide +kernel)) ggX11_poor_X3_turnWeek
theorem dX11_poor_0 : decode cX11_poor 0 = .ok (.aload_n 0, 1) := by decide +kernel
theorem dX11_poor_1 : decode cX11_poor 1 = .ok (.getfield 51, 3) := by decide +kernel
theorem dX11_poor_4 : decode cX11_poor 4 = .ok (.aload_n 0, 1) := by decide +kernel
theorem dX11_poor_5 : decode cX11_poor 5 = .ok (.getfield 33, 3) := by decide +kernel
theorem dX11_poor_8 : decode cX11_poor 8 = .ok (.invokevirtual 120, 3) := by decide +kernel
theorem dX11_poor_11 : decode cX11_poor 11 = .ok (.iconst 0, 1) := by decide +kernel
theorem dX11_poor_12 : decode cX11_poor 12 = .ok (.istore_n 1, 1) := by decide +kernel
theorem dX11_poor_13 : decode cX11_poor 13 = .ok (.iload_n 1, 1) := by decide +kernel
theorem dX11_poor_14 : decode cX11_poor 14 = .ok (.bipush 100, 2) := by decide +kernel
theorem dX11_poor_16 : decode cX11_poor 16 = .ok (.if_icmp .gt 59, 3) := by decide +kernel
theorem dX11_poor_19 : decode cX11_poor 19 = .ok (.aload_n 0, 1) := by decide +kernel
theorem dX11_poor_20 : decode cX11_poor 20 = .ok (.getfield 51, 3) := by decide +kernel
theorem dX11_poor_23 : decode cX11_poor 23 = .ok (.invokevirtual 347, 3) := by decide +kernel
theorem dX11_poor_26 : decode cX11_poor 26 = .ok (.ifCond .eq 5, 3) := by decide +kernel
theorem dX11_poor_29 : decode cX11_poor 29 = .ok (.iload_n 1, 1) := by decide +kernel
theorem dX11_poor_30 : decode cX11_poor 30 = .ok (.ireturn, 1) := by decide +kernel
theorem dX11_poor_31 : decode cX11_poor 31 = .ok (.iconst 0, 1) := by decide +kernel
theorem dX11_poor_32 : decode cX11_poor 32 = .ok (.istore_n 2, 1) := by decide +kernel
theorem dX11_poor_33 : decode cX11_poor 33 = .ok (.iload_n 2, 1) := by decide +kernel
theorem dX11_poor_34 : decode cX11_poor 34 = .ok (.aload_n 0, 1) := by decide +kernel
theorem dX11_poor_35 : decode cX11_poor 35 = .ok (.getfield 51, 3) := by decide +kernel
theorem dX11_poor_38 : decode cX11_poor 38 = .ok (.getfield 149, 3) := by decide +kernel
theorem dX11_poor_41 : decode cX11_poor 41 = .ok (.if_icmp .ge 21, 3) := by decide +kernel
theorem dX11_poor_44 : decode cX11_poor 44 = .ok (.aload_n 0, 1) := by decide +kernel
theorem dX11_poor_45 : decode cX11_poor 45 = .ok (.getfield 51, 3) := by decide +kernel
theorem dX11_poor_48 : decode cX11_poor 48 = .ok (.aload_n 0, 1) := by decide +kernel
theorem dX11_poor_49 : decode cX11_poor 49 = .ok (.getfield 40, 3) := by decide +kernel
theorem dX11_poor_52 : decode cX11_poor 52 = .ok (.iload_n 2, 1) := by decide +kernel
theorem dX11_poor_53 : decode cX11_poor 53 = .ok (.invokevirtual 344, 3) := by decide +kernel
theorem dX11_poor_56 : decode cX11_poor 56 = .ok (.iinc 2 1, 3) := by decide +kernel
theorem dX11_poor_59 : decode cX11_poor 59 = .ok (.goto (-26), 3) := by decide +kernel
theorem dX11_poor_62 : decode cX11_poor 62 = .ok (.aload_n 0, 1) := by decide +kernel
theorem dX11_poor_63 : decode cX11_poor 63 = .ok (.getfield 51, 3) := by decide +kernel
theorem dX11_poor_66 : decode cX11_poor 66 = .ok (.invokevirtual 286, 3) := by decide +kernel
theorem dX11_poor_69 : decode cX11_poor 69 = .ok (.iinc 1 1, 3) := by decide +kernel
theorem dX11_poor_72 : decode cX11_poor 72 = .ok (.goto (-59), 3) := by decide +kernel
theorem dX11_poor_75 : decode cX11_poor 75 = .ok (.iconst (-1), 1) := by decide +kernel
theorem dX11_poor_76 : decode cX11_poor 76 = .ok (.ireturn, 1) := by decide +kernel
set_option maxRecDepth 20000 in
theorem ggX11_rich_X3_houses : GoodIn wsX11_rich wsX3_houses := goodIn_r _ [7, 8, 36, 37, 38, 39, 40, 41, 42, 43, 44, 45, 46, 47, 48, 49, 50, 51, 52, 53, 54, 55] (by decide +kernel) (by decide +kernel)
set_option maxRecDepth 20000 in
theorem gX11_rich_X3_houses : GoodIn wsX11_rich (wsV RX11 155 RX3 yX3_houses wsX3_houses) := goodIn_app (goodIn_of _ (by decide +kernel)) ggX11_rich_X3_houses
set_option maxRecDepth 20000 in
theorem ggX11_rich_X3_worthIn : GoodIn wsX11_rich wsX3_worthIn := goodIn_r _ [12, 13, 14, 15, 36, 37, 38, 39, 40, 41, 42, 43, 44, 45, 46, 47, 48, 49, 50, 51, 52, 53, 54, 55] (by decide +kernel) (by decide +kernel)
set_option maxRecDepth 20000 in
theorem gX11_rich_X3_worthIn : GoodIn wsX11_rich (wsV RX11 351 RX3 yX3_worthIn wsX3_worthIn) := goodIn_app (goodIn_of _ (by decide +kernel)) ggX11_rich_X3_worthIn
theorem dX11_rich_0 : decode cX11_rich 0 = .ok (.iconst (-1), 1) := by decide +kernel
theorem dX11_rich_1 : decode cX11_rich 1 = .ok (.istore_n 1, 1) := by decide +kernel
theorem dX11_rich_2 : decode cX11_rich 2 = .ok (.iconst (-1), 1) := by decide +kernel
theorem dX11_rich_3 : decode cX11_rich 3 = .ok (.istore_n 2, 1) := by decide +kernel
theorem dX11_rich_4 : decode cX11_rich 4 = .ok (.iconst 0, 1) := by decide +kernel
theorem dX11_rich_5 : decode cX11_rich 5 = .ok (.istore_n 3, 1) := by decide +kernel
theorem dX11_rich_6 : decode cX11_rich 6 = .ok (.iload_n 3, 1) := by decide +kernel
theorem dX11_rich_7 : decode cX11_rich 7 = .ok (.aload_n 0, 1) := by decide +kernel
theorem dX11_rich_8 : decode cX11_rich 8 = .ok (.getfield 33, 3) := by decide +kernel
theorem dX11_rich_11 : decode cX11_rich 11 = .ok (.invokevirtual 155, 3) := by decide +kernel
theorem dX11_rich_14 : decode cX11_rich 14 = .ok (.if_icmp .ge 40, 3) := by decide +kernel
theorem dX11_rich_17 : decode cX11_rich 17 = .ok (.aload_n 0, 1) := by decide +kernel
theorem dX11_rich_18 : decode cX11_rich 18 = .ok (.getfield 33, 3) := by decide +kernel
theorem dX11_rich_21 : decode cX11_rich 21 = .ok (.getfield 196, 3) := by decide +kernel
theorem dX11_rich_24 : decode cX11_rich 24 = .ok (.iload_n 3, 1) := by decide +kernel
theorem dX11_rich_25 : decode cX11_rich 25 = .ok (.iaload, 1) := by decide +kernel
theorem dX11_rich_26 : decode cX11_rich 26 = .ok (.aload_n 0, 1) := by decide +kernel
theorem dX11_rich_27 : decode cX11_rich 27 = .ok (.getfield 33, 3) := by decide +kernel
theorem dX11_rich_30 : decode cX11_rich 30 = .ok (.iload_n 3, 1) := by decide +kernel
theorem dX11_rich_31 : decode cX11_rich 31 = .ok (.invokevirtual 351, 3) := by decide +kernel
theorem dX11_rich_34 : decode cX11_rich 34 = .ok (.iadd, 1) := by decide +kernel
theorem dX11_rich_35 : decode cX11_rich 35 = .ok (.istore 4, 2) := by decide +kernel
theorem dX11_rich_37 : decode cX11_rich 37 = .ok (.iload 4, 2) := by decide +kernel
theorem dX11_rich_39 : decode cX11_rich 39 = .ok (.iload_n 2, 1) := by decide +kernel
theorem dX11_rich_40 : decode cX11_rich 40 = .ok (.if_icmp .le 8, 3) := by decide +kernel
theorem dX11_rich_43 : decode cX11_rich 43 = .ok (.iload_n 3, 1) := by decide +kernel
theorem dX11_rich_44 : decode cX11_rich 44 = .ok (.istore_n 1, 1) := by decide +kernel
theorem dX11_rich_45 : decode cX11_rich 45 = .ok (.iload 4, 2) := by decide +kernel
theorem dX11_rich_47 : decode cX11_rich 47 = .ok (.istore_n 2, 1) := by decide +kernel
theorem dX11_rich_48 : decode cX11_rich 48 = .ok (.iinc 3 1, 3) := by decide +kernel
theorem dX11_rich_51 : decode cX11_rich 51 = .ok (.goto (-45), 3) := by decide +kernel
theorem dX11_rich_54 : decode cX11_rich 54 = .ok (.iload_n 1, 1) := by decide +kernel
theorem dX11_rich_55 : decode cX11_rich 55 = .ok (.ireturn, 1) := by decide +kernel
theorem dX11_heaviest_0 : decode cX11_heaviest 0 = .ok (.iconst (-1), 1) := by decide +kernel
theorem dX11_heaviest_1 : decode cX11_heaviest 1 = .ok (.istore_n 1, 1) := by decide +kernel
theorem dX11_heaviest_2 : decode cX11_heaviest 2 = .ok (.iconst (-1), 1) := by decide +kernel
theorem dX11_heaviest_3 : decode cX11_heaviest 3 = .ok (.istore_n 2, 1) := by decide +kernel
theorem dX11_heaviest_4 : decode cX11_heaviest 4 = .ok (.iconst 0, 1) := by decide +kernel
theorem dX11_heaviest_5 : decode cX11_heaviest 5 = .ok (.istore_n 3, 1) := by decide +kernel
theorem dX11_heaviest_6 : decode cX11_heaviest 6 = .ok (.iload_n 3, 1) := by decide +kernel
theorem dX11_heaviest_7 : decode cX11_heaviest 7 = .ok (.aload_n 0, 1) := by decide +kernel
theorem dX11_heaviest_8 : decode cX11_heaviest 8 = .ok (.getfield 33, 3) := by decide +kernel
theorem dX11_heaviest_11 : decode cX11_heaviest 11 = .ok (.getfield 158, 3) := by decide +kernel
theorem dX11_heaviest_14 : decode cX11_heaviest 14 = .ok (.if_icmp .ge 47, 3) := by decide +kernel
theorem dX11_heaviest_17 : decode cX11_heaviest 17 = .ok (.aload_n 0, 1) := by decide +kernel
theorem dX11_heaviest_18 : decode cX11_heaviest 18 = .ok (.getfield 33, 3) := by decide +kernel
theorem dX11_heaviest_21 : decode cX11_heaviest 21 = .ok (.getfield 232, 3) := by decide +kernel
theorem dX11_heaviest_24 : decode cX11_heaviest 24 = .ok (.iload_n 3, 1) := by decide +kernel
theorem dX11_heaviest_25 : decode cX11_heaviest 25 = .ok (.iaload, 1) := by decide +kernel
theorem dX11_heaviest_26 : decode cX11_heaviest 26 = .ok (.iconst (-1), 1) := by decide +kernel
theorem dX11_heaviest_27 : decode cX11_heaviest 27 = .ok (.if_icmp .eq 28, 3) := by decide +kernel
theorem dX11_heaviest_30 : decode cX11_heaviest 30 = .ok (.aload_n 0, 1) := by decide +kernel
theorem dX11_heaviest_31 : decode cX11_heaviest 31 = .ok (.getfield 33, 3) := by decide +kernel
theorem dX11_heaviest_34 : decode cX11_heaviest 34 = .ok (.getfield 226, 3) := by decide +kernel
theorem dX11_heaviest_37 : decode cX11_heaviest 37 = .ok (.iload_n 3, 1) := by decide +kernel
theorem dX11_heaviest_38 : decode cX11_heaviest 38 = .ok (.iaload, 1) := by decide +kernel
theorem dX11_heaviest_39 : decode cX11_heaviest 39 = .ok (.iload_n 2, 1) := by decide +kernel
theorem dX11_heaviest_40 : decode cX11_heaviest 40 = .ok (.if_icmp .le 15, 3) := by decide +kernel
theorem dX11_heaviest_43 : decode cX11_heaviest 43 = .ok (.iload_n 3, 1) := by decide +kernel
theorem dX11_heaviest_44 : decode cX11_heaviest 44 = .ok (.istore_n 1, 1) := by decide +kernel
theorem dX11_heaviest_45 : decode cX11_heaviest 45 = .ok (.aload_n 0, 1) := by decide +kernel
theorem dX11_heaviest_46 : decode cX11_heaviest 46 = .ok (.getfield 33, 3) := by decide +kernel
theorem dX11_heaviest_49 : decode cX11_heaviest 49 = .ok (.getfield 226, 3) := by decide +kernel
theorem dX11_heaviest_52 : decode cX11_heaviest 52 = .ok (.iload_n 3, 1) := by decide +kernel
theorem dX11_heaviest_53 : decode cX11_heaviest 53 = .ok (.iaload, 1) := by decide +kernel
theorem dX11_heaviest_54 : decode cX11_heaviest 54 = .ok (.istore_n 2, 1) := by decide +kernel
theorem dX11_heaviest_55 : decode cX11_heaviest 55 = .ok (.iinc 3 1, 3) := by decide +kernel
theorem dX11_heaviest_58 : decode cX11_heaviest 58 = .ok (.goto (-52), 3) := by decide +kernel
theorem dX11_heaviest_61 : decode cX11_heaviest 61 = .ok (.iload_n 1, 1) := by decide +kernel
theorem dX11_heaviest_62 : decode cX11_heaviest 62 = .ok (.ireturn, 1) := by decide +kernel
set_option maxRecDepth 20000 in
theorem ggX11_alike_X3_houses : GoodIn wsX11_alike wsX3_houses := goodIn_r _ [8, 9, 30, 31, 32, 33, 34, 35, 36, 37, 38, 39, 40, 41, 42, 43, 44, 45, 46, 47, 48, 49] (by decide +kernel) (by decide +kernel)
set_option maxRecDepth 20000 in
theorem gX11_alike_X3_houses : GoodIn wsX11_alike (wsV RX11 155 RX3 yX3_houses wsX3_houses) := goodIn_app (goodIn_of _ (by decide +kernel)) ggX11_alike_X3_houses
theorem dX11_alike_0 : decode cX11_alike 0 = .ok (.iconst 0, 1) := by decide +kernel
theorem dX11_alike_1 : decode cX11_alike 1 = .ok (.istore_n 1, 1) := by decide +kernel
theorem dX11_alike_2 : decode cX11_alike 2 = .ok (.iconst 0, 1) := by decide +kernel
theorem dX11_alike_3 : decode cX11_alike 3 = .ok (.istore_n 2, 1) := by decide +kernel
theorem dX11_alike_4 : decode cX11_alike 4 = .ok (.iload_n 2, 1) := by decide +kernel
theorem dX11_alike_5 : decode cX11_alike 5 = .ok (.aload_n 0, 1) := by decide +kernel
theorem dX11_alike_6 : decode cX11_alike 6 = .ok (.getfield 33, 3) := by decide +kernel
theorem dX11_alike_9 : decode cX11_alike 9 = .ok (.invokevirtual 155, 3) := by decide +kernel
theorem dX11_alike_12 : decode cX11_alike 12 = .ok (.if_icmp .ge 75, 3) := by decide +kernel
theorem dX11_alike_15 : decode cX11_alike 15 = .ok (.iload_n 2, 1) := by decide +kernel
theorem dX11_alike_16 : decode cX11_alike 16 = .ok (.iconst 1, 1) := by decide +kernel
theorem dX11_alike_17 : decode cX11_alike 17 = .ok (.iadd, 1) := by decide +kernel
theorem dX11_alike_18 : decode cX11_alike 18 = .ok (.istore_n 3, 1) := by decide +kernel
theorem dX11_alike_19 : decode cX11_alike 19 = .ok (.iload_n 3, 1) := by decide +kernel
theorem dX11_alike_20 : decode cX11_alike 20 = .ok (.aload_n 0, 1) := by decide +kernel
theorem dX11_alike_21 : decode cX11_alike 21 = .ok (.getfield 33, 3) := by decide +kernel
theorem dX11_alike_24 : decode cX11_alike 24 = .ok (.invokevirtual 155, 3) := by decide +kernel
theorem dX11_alike_27 : decode cX11_alike 27 = .ok (.if_icmp .ge 54, 3) := by decide +kernel
theorem dX11_alike_30 : decode cX11_alike 30 = .ok (.aload_n 0, 1) := by decide +kernel
theorem dX11_alike_31 : decode cX11_alike 31 = .ok (.getfield 33, 3) := by decide +kernel
theorem dX11_alike_34 : decode cX11_alike 34 = .ok (.getfield 202, 3) := by decide +kernel
theorem dX11_alike_37 : decode cX11_alike 37 = .ok (.iload_n 2, 1) := by decide +kernel
theorem dX11_alike_38 : decode cX11_alike 38 = .ok (.iaload, 1) := by decide +kernel
theorem dX11_alike_39 : decode cX11_alike 39 = .ok (.aload_n 0, 1) := by decide +kernel
theorem dX11_alike_40 : decode cX11_alike 40 = .ok (.getfield 33, 3) := by decide +kernel
theorem dX11_alike_43 : decode cX11_alike 43 = .ok (.getfield 202, 3) := by decide +kernel
theorem dX11_alike_46 : decode cX11_alike 46 = .ok (.iload_n 3, 1) := by decide +kernel
theorem dX11_alike_47 : decode cX11_alike 47 = .ok (.iaload, 1) := by decide +kernel
theorem dX11_alike_48 : decode cX11_alike 48 = .ok (.if_icmp .ne 27, 3) := by decide +kernel
theorem dX11_alike_51 : decode cX11_alike 51 = .ok (.aload_n 0, 1) := by decide +kernel
theorem dX11_alike_52 : decode cX11_alike 52 = .ok (.getfield 33, 3) := by decide +kernel
theorem dX11_alike_55 : decode cX11_alike 55 = .ok (.getfield 205, 3) := by decide +kernel
theorem dX11_alike_58 : decode cX11_alike 58 = .ok (.iload_n 2, 1) := by decide +kernel
theorem dX11_alike_59 : decode cX11_alike 59 = .ok (.iaload, 1) := by decide +kernel
theorem dX11_alike_60 : decode cX11_alike 60 = .ok (.aload_n 0, 1) := by decide +kernel
theorem dX11_alike_61 : decode cX11_alike 61 = .ok (.getfield 33, 3) := by decide +kernel
theorem dX11_alike_64 : decode cX11_alike 64 = .ok (.getfield 205, 3) := by decide +kernel
theorem dX11_alike_67 : decode cX11_alike 67 = .ok (.iload_n 3, 1) := by decide +kernel
theorem dX11_alike_68 : decode cX11_alike 68 = .ok (.iaload, 1) := by decide +kernel
theorem dX11_alike_69 : decode cX11_alike 69 = .ok (.if_icmp .ne 6, 3) := by decide +kernel
theorem dX11_alike_72 : decode cX11_alike 72 = .ok (.iinc 1 1, 3) := by decide +kernel
theorem dX11_alike_75 : decode cX11_alike 75 = .ok (.iinc 3 1, 3) := by decide +kernel
theorem dX11_alike_78 : decode cX11_alike 78 = .ok (.goto (-59), 3) := by decide +kernel
theorem dX11_alike_81 : decode cX11_alike 81 = .ok (.iinc 2 1, 3) := by decide +kernel
theorem dX11_alike_84 : decode cX11_alike 84 = .ok (.goto (-80), 3) := by decide +kernel
theorem dX11_alike_87 : decode cX11_alike 87 = .ok (.iload_n 1, 1) := by decide +kernel
theorem dX11_alike_88 : decode cX11_alike 88 = .ok (.ireturn, 1) := by decide +kernel
set_option maxRecDepth 20000 in
theorem ggX11_ahead_X11_checkHouse : GoodIn wsX11_ahead wsX11_checkHouse := goodIn_ca (goodIn_r _ [8, 9, 10, 11, 12, 13, 14, 15, 16, 17, 128, 129, 130, 131, 132, 133, 134, 135, 136, 137, 138, 139, 140, 141, 142, 143, 144, 145, 146, 147, 148, 149, 150, 151, 152, 153, 154, 155, 156, 157, 158, 159, 160, 161, 162, 163, 164, 165, 166, 167] (by decide +kernel) (by decide +kernel)) (goodIn_sub (fun _ h => List.mem_cons_of_mem _ (List.mem_append_left _ (List.mem_append_right _ h))) (by decide +kernel))
set_option maxRecDepth 20000 in
theorem gX11_ahead_X11_checkHouse : GoodIn wsX11_ahead (wsV RX11 193 RX11 yX11_checkHouse wsX11_checkHouse) := goodIn_app (goodIn_of _ (by decide +kernel)) ggX11_ahead_X11_checkHouse
set_option maxRecDepth 20000 in
theorem ggX11_ahead_X11_checkNumber : GoodIn wsX11_ahead wsX11_checkNumber := goodIn_ca (goodIn_r _ [20, 21, 22] (by decide +kernel) (by decide +kernel)) (goodIn_sub (fun _ h => List.mem_cons_of_mem _ (List.mem_append_right _ h)) (by decide +kernel))
set_option maxRecDepth 20000 in
theorem gX11_ahead_X11_checkNumber : GoodIn wsX11_ahead (va_wsS RX11 249 yX11_checkNumber wsX11_checkNumber) := goodIn_app (goodIn_of _ (by decide +kernel)) ggX11_ahead_X11_checkNumber
set_option maxRecDepth 20000 in
theorem ggX11_ahead_X11_lookAhead : GoodIn wsX11_ahead wsX11_lookAhead := goodIn_r _ [26, 1, 11, 27, 28, 29, 30, 15, 31, 17, 32, 33, 34, 35, 36, 37, 38, 39, 40, 41, 42, 43, 44, 45, 46, 47, 48, 49, 50, 51, 52, 53, 54, 55, 56, 57, 58, 59, 60, 61, 62, 63, 64, 65, 66, 67, 68, 69, 70, 71, 72, 73, 74, 75, 76, 77, 78, 79, 80, 81, 82, 83, 84, 85, 86, 87, 88, 89, 90, 91, 92, 93, 94, 95, 96, 97, 98, 99, 100, 101, 102, 103, 104, 105, 106, 107, 108, 109, 110, 111, 112, 113, 114, 115, 116, 117, 118, 119, 13, 14, 16, 120, 121, 122, 123, 124, 125, 126, 127, 128, 129, 130, 131, 132, 133, 134, 135, 136, 137, 138, 139, 140, 141, 142, 143, 144, 145, 146, 147, 148, 149, 150, 151, 152, 153, 154, 155, 156, 157, 158, 159, 160, 161, 162, 163, 164, 165, 166, 167, 168, 169, 170, 171, 172, 173, 174] (by decide +kernel) (by decide +kernel)
set_option maxRecDepth 20000 in
theorem gX11_ahead_X11_lookAhead : GoodIn wsX11_ahead (wsV RX11 340 RX11 yX11_lookAhead wsX11_lookAhead) := goodIn_app (goodIn_of _ (by decide +kernel)) ggX11_ahead_X11_lookAhead
theorem dX11_ahead_0 : decode cX11_ahead 0 = .ok (.aload_n 0, 1) := by decide +kernel
theorem dX11_ahead_1 : decode cX11_ahead 1 = .ok (.iload_n 1, 1) := by decide +kernel
theorem dX11_ahead_2 : decode cX11_ahead 2 = .ok (.invokevirtual 193, 3) := by decide +kernel
theorem dX11_ahead_5 : decode cX11_ahead 5 = .ok (.iload_n 2, 1) := by decide +kernel
theorem dX11_ahead_6 : decode cX11_ahead 6 = .ok (.iconst 0, 1) := by decide +kernel
theorem dX11_ahead_7 : decode cX11_ahead 7 = .ok (.bipush 100, 2) := by decide +kernel
theorem dX11_ahead_9 : decode cX11_ahead 9 = .ok (.invokestatic 249, 3) := by decide +kernel
theorem dX11_ahead_12 : decode cX11_ahead 12 = .ok (.aload_n 0, 1) := by decide +kernel
theorem dX11_ahead_13 : decode cX11_ahead 13 = .ok (.iload_n 1, 1) := by decide +kernel
theorem dX11_ahead_14 : decode cX11_ahead 14 = .ok (.iconst 2, 1) := by decide +kernel
theorem dX11_ahead_15 : decode cX11_ahead 15 = .ok (.idiv, 1) := by decide +kernel
theorem dX11_ahead_16 : decode cX11_ahead 16 = .ok (.iload_n 2, 1) := by decide +kernel
theorem dX11_ahead_17 : decode cX11_ahead 17 = .ok (.invokevirtual 340, 3) := by decide +kernel
theorem dX11_ahead_20 : decode cX11_ahead 20 = .ok (.iload_n 3, 1) := by decide +kernel
theorem dX11_ahead_21 : decode cX11_ahead 21 = .ok (.ifCond .eq 15, 3) := by decide +kernel
theorem dX11_ahead_24 : decode cX11_ahead 24 = .ok (.aload_n 0, 1) := by decide +kernel
theorem dX11_ahead_25 : decode cX11_ahead 25 = .ok (.getfield 51, 3) := by decide +kernel
theorem dX11_ahead_28 : decode cX11_ahead 28 = .ok (.getfield 196, 3) := by decide +kernel
theorem dX11_ahead_31 : decode cX11_ahead 31 = .ok (.iload_n 1, 1) := by decide +kernel
theorem dX11_ahead_32 : decode cX11_ahead 32 = .ok (.iaload, 1) := by decide +kernel
theorem dX11_ahead_33 : decode cX11_ahead 33 = .ok (.goto 12, 3) := by decide +kernel
theorem dX11_ahead_36 : decode cX11_ahead 36 = .ok (.aload_n 0, 1) := by decide +kernel
theorem dX11_ahead_37 : decode cX11_ahead 37 = .ok (.getfield 51, 3) := by decide +kernel
theorem dX11_ahead_40 : decode cX11_ahead 40 = .ok (.getfield 205, 3) := by decide +kernel
theorem dX11_ahead_43 : decode cX11_ahead 43 = .ok (.iload_n 1, 1) := by decide +kernel
theorem dX11_ahead_44 : decode cX11_ahead 44 = .ok (.iaload, 1) := by decide +kernel
theorem dX11_ahead_45 : decode cX11_ahead 45 = .ok (.ireturn, 1) := by decide +kernel
set_option maxRecDepth 20000 in
theorem ggX11_trial_X11_checkNumber : GoodIn wsX11_trial wsX11_checkNumber := goodIn_ca (goodIn_r _ [7, 8, 9] (by decide +kernel) (by decide +kernel)) (goodIn_sub (fun _ h => List.mem_cons_of_mem _ (List.mem_append_right _ h)) (by decide +kernel))
set_option maxRecDepth 20000 in
theorem gX11_trial_X11_checkNumber : GoodIn wsX11_trial (va_wsS RX11 249 yX11_checkNumber wsX11_checkNumber) := goodIn_app (goodIn_of _ (by decide +kernel)) ggX11_trial_X11_checkNumber
set_option maxRecDepth 20000 in
theorem ggX11_trial_X11_tryWeeks : GoodIn wsX11_trial wsX11_tryWeeks := goodIn_r _ [13, 3, 1, 2, 14, 15, 16, 17, 18, 19, 20, 21, 22, 23, 24, 25, 26, 27, 28, 29, 30, 31, 32, 33, 34, 35, 36, 37, 38, 39, 40, 41, 42, 43, 44, 45, 46, 47, 48, 49, 50, 51, 52, 53, 54, 55, 56, 57, 58, 59, 60, 61, 62, 63, 64, 65, 66, 67, 68, 69, 70, 71, 72, 73, 74, 75, 76, 77, 78, 79, 80, 81, 82, 83, 84, 85, 86, 87, 88, 89, 90, 91, 92, 93, 94, 95, 96, 97, 98, 99, 100, 101, 102, 103, 104, 105, 106, 107, 108, 109, 110, 111, 112, 113, 114, 115, 116, 117, 118, 119, 120, 121, 122, 123, 124, 125, 126, 127, 128, 129, 130, 131, 132, 133, 134, 135, 136, 137, 138, 139, 140, 141, 142, 143, 144, 145, 146, 147, 148, 149, 169, 170, 171, 172, 173, 174, 175, 176, 177, 178, 179, 180, 181, 182, 183, 184, 185, 186, 187, 188, 189, 190, 191, 192, 193, 194, 195, 196, 197, 198, 199, 200, 201, 202, 203, 204, 205, 206, 207, 208, 209, 210, 211, 212, 213, 214, 215, 216, 217] (by decide +kernel) (by decide +kernel)
set_option maxRecDepth 20000 in
theorem gX11_trial_X11_tryWeeks : GoodIn wsX11_trial (wsV RX11 357 RX11 yX11_tryWeeks wsX11_tryWeeks) := goodIn_app (goodIn_of _ (by decide +kernel)) ggX11_trial_X11_tryWeeks
set_option maxRecDepth 20000 in
theorem ggX11_trial_X3_brokenPlanks : GoodIn wsX11_trial wsX3_brokenPlanks := goodIn_r _ [153, 21, 31, 189, 190, 191, 192, 193, 194, 195, 196, 197, 198, 199, 200, 201, 202, 203, 204, 205, 206, 207, 208] (by decide +kernel) (by decide +kernel)
set_option maxRecDepth 20000 in
theorem gX11_trial_X3_brokenPlanks : GoodIn wsX11_trial (wsV RX11 360 RX3 yX3_brokenPlanks wsX3_brokenPlanks) := goodIn_app (goodIn_of _ (by decide +kernel)) ggX11_trial_X3_brokenPlanks
set_option maxRecDepth 20000 in
theorem ggX11_trial_X3_goneThings : GoodIn wsX11_trial wsX3_goneThings := goodIn_r _ [157, 158, 159, 160, 19, 161, 22, 42, 189, 190, 191, 192, 193, 194, 195, 196, 197, 198, 199, 200, 201, 202, 203, 204, 205, 206, 207, 208] (by decide +kernel) (by decide +kernel)
set_option maxRecDepth 20000 in
theorem gX11_trial_X3_goneThings : GoodIn wsX11_trial (wsV RX11 363 RX3 yX3_goneThings wsX3_goneThings) := goodIn_app (goodIn_of _ (by decide +kernel)) ggX11_trial_X3_goneThings
set_option maxRecDepth 20000 in
theorem ggX11_trial_J6_bitCount_0f7a4 : GoodIn wsX11_trial wsJ6_bitCount_0f7a4 := goodIn_r _ [165, 166, 167, 168] (by decide +kernel) (by decide +kernel)
set_option maxRecDepth 20000 in
theorem gX11_trial_J6_bitCount_0f7a4 : GoodIn wsX11_trial (va_wsS RX11 292 yJ6_bitCount_0f7a4 wsJ6_bitCount_0f7a4) := goodIn_app (goodIn_of _ (by decide +kernel)) ggX11_trial_J6_bitCount_0f7a4
theorem dX11_trial_0 : decode cX11_trial 0 = .ok (.iload_n 1, 1) := by decide +kernel
theorem dX11_trial_1 : decode cX11_trial 1 = .ok (.iconst 0, 1) := by decide +kernel
theorem dX11_trial_2 : decode cX11_trial 2 = .ok (.bipush 60, 2) := by decide +kernel
theorem dX11_trial_4 : decode cX11_trial 4 = .ok (.invokestatic 249, 3) := by decide +kernel
theorem dX11_trial_7 : decode cX11_trial 7 = .ok (.aload_n 0, 1) := by decide +kernel
theorem dX11_trial_8 : decode cX11_trial 8 = .ok (.aload_n 0, 1) := by decide +kernel
theorem dX11_trial_9 : decode cX11_trial 9 = .ok (.getfield 33, 3) := by decide +kernel
theorem dX11_trial_12 : decode cX11_trial 12 = .ok (.getfield 354, 3) := by decide +kernel
theorem dX11_trial_15 : decode cX11_trial 15 = .ok (.iload_n 1, 1) := by decide +kernel
theorem dX11_trial_16 : decode cX11_trial 16 = .ok (.invokevirtual 357, 3) := by decide +kernel
theorem dX11_trial_19 : decode cX11_trial 19 = .ok (.iload_n 2, 1) := by decide +kernel
theorem dX11_trial_20 : decode cX11_trial 20 = .ok (.ifCond .eq 13, 3) := by decide +kernel
theorem dX11_trial_23 : decode cX11_trial 23 = .ok (.aload_n 0, 1) := by decide +kernel
theorem dX11_trial_24 : decode cX11_trial 24 = .ok (.getfield 51, 3) := by decide +kernel
theorem dX11_trial_27 : decode cX11_trial 27 = .ok (.invokevirtual 360, 3) := by decide +kernel
theorem dX11_trial_30 : decode cX11_trial 30 = .ok (.goto 13, 3) := by decide +kernel
theorem dX11_trial_33 : decode cX11_trial 33 = .ok (.aload_n 0, 1) := by decide +kernel
theorem dX11_trial_34 : decode cX11_trial 34 = .ok (.getfield 51, 3) := by decide +kernel
theorem dX11_trial_37 : decode cX11_trial 37 = .ok (.invokevirtual 363, 3) := by decide +kernel
theorem dX11_trial_40 : decode cX11_trial 40 = .ok (.invokestatic 292, 3) := by decide +kernel
theorem dX11_trial_43 : decode cX11_trial 43 = .ok (.ireturn, 1) := by decide +kernel
set_option maxRecDepth 20000 in
theorem ggX11_span_X11_checkNumber : GoodIn wsX11_span wsX11_checkNumber := goodIn_ca (goodIn_r _ [12, 13, 14] (by decide +kernel) (by decide +kernel)) (goodIn_sub (fun _ h => List.mem_cons_of_mem _ (List.mem_append_right _ h)) (by decide +kernel))
set_option maxRecDepth 20000 in
theorem gX11_span_X11_checkNumber : GoodIn wsX11_span (va_wsS RX11 249 yX11_checkNumber wsX11_checkNumber) := goodIn_app (goodIn_of _ (by decide +kernel)) ggX11_span_X11_checkNumber
set_option maxRecDepth 20000 in
theorem ggX11_span_X11_tryWeeks : GoodIn wsX11_span wsX11_tryWeeks := goodIn_r _ [18, 1, 19, 20, 21, 22, 23, 24, 25, 26, 27, 28, 29, 30, 31, 32, 33, 34, 35, 36, 37, 38, 39, 40, 41, 42, 43, 44, 45, 46, 47, 48, 49, 50, 51, 52, 53, 54, 55, 56, 3, 4, 5, 57, 58, 59, 60, 61, 62, 63, 64, 65, 66, 67, 68, 69, 70, 71, 72, 73, 74, 75, 76, 77, 78, 7, 8, 79, 80, 81, 82, 83, 84, 85, 86, 87, 88, 89, 90, 91, 92, 93, 94, 95, 96, 97, 98, 99, 100, 101, 102, 103, 104, 105, 106, 107, 108, 109, 110, 111, 112, 113, 114, 115, 116, 117, 118, 119, 120, 121, 122, 123, 124, 125, 126, 127, 128, 129, 130, 131, 132, 133, 134, 135, 136, 137, 138, 139, 140, 141, 142, 143, 144, 145, 146, 147, 148, 149, 150, 151, 167, 168, 169, 170, 171, 172, 173, 174, 175, 176, 177, 178, 179, 180, 181, 182, 183, 184, 185, 186, 187, 188, 189, 190, 191, 192, 193, 194, 195, 196, 197, 198, 199, 200, 201, 202, 203, 204, 205, 206, 207, 208, 209, 210, 211, 212, 213, 214, 215] (by decide +kernel) (by decide +kernel)
set_option maxRecDepth 20000 in
theorem gX11_span_X11_tryWeeks : GoodIn wsX11_span (wsV RX11 357 RX11 yX11_tryWeeks wsX11_tryWeeks) := goodIn_app (goodIn_of _ (by decide +kernel)) ggX11_span_X11_tryWeeks
set_option maxRecDepth 20000 in
theorem ggX11_span_X3_goneThings : GoodIn wsX11_span wsX3_goneThings := goodIn_r _ [155, 156, 157, 158, 26, 159, 29, 49, 187, 188, 189, 190, 191, 192, 193, 194, 195, 196, 197, 198, 199, 200, 201, 202, 203, 204, 205, 206] (by decide +kernel) (by decide +kernel)
set_option maxRecDepth 20000 in
theorem gX11_span_X3_goneThings : GoodIn wsX11_span (wsV RX11 363 RX3 yX3_goneThings wsX3_goneThings) := goodIn_app (goodIn_of _ (by decide +kernel)) ggX11_span_X3_goneThings
set_option maxRecDepth 20000 in
theorem ggX11_span_J6_bitCount_0f7a4 : GoodIn wsX11_span wsJ6_bitCount_0f7a4 := goodIn_r _ [163, 164, 165, 166] (by decide +kernel) (by decide +kernel)
set_option maxRecDepth 20000 in
theorem gX11_span_J6_bitCount_0f7a4 : GoodIn wsX11_span (va_wsS RX11 292 yJ6_bitCount_0f7a4 wsJ6_bitCount_0f7a4) := goodIn_app (goodIn_of _ (by decide +kernel)) ggX11_span_J6_bitCount_0f7a4
theorem dX11_span_0 : decode cX11_span 0 = .ok (.iload_n 1, 1) := by decide +kernel
theorem dX11_span_1 : decode cX11_span 1 = .ok (.iconst 0, 1) := by decide +kernel
theorem dX11_span_2 : decode cX11_span 2 = .ok (.bipush 60, 2) := by decide +kernel
theorem dX11_span_4 : decode cX11_span 4 = .ok (.invokestatic 249, 3) := by decide +kernel
theorem dX11_span_7 : decode cX11_span 7 = .ok (.bipush 10, 2) := by decide +kernel
theorem dX11_span_9 : decode cX11_span 9 = .ok (.istore_n 3, 1) := by decide +kernel
theorem dX11_span_10 : decode cX11_span 10 = .ok (.iconst 0, 1) := by decide +kernel
theorem dX11_span_11 : decode cX11_span 11 = .ok (.istore 4, 2) := by decide +kernel
theorem dX11_span_13 : decode cX11_span 13 = .ok (.iconst 1, 1) := by decide +kernel
theorem dX11_span_14 : decode cX11_span 14 = .ok (.istore 5, 2) := by decide +kernel
theorem dX11_span_16 : decode cX11_span 16 = .ok (.iload 5, 2) := by decide +kernel
theorem dX11_span_18 : decode cX11_span 18 = .ok (.bipush 6, 2) := by decide +kernel
theorem dX11_span_20 : decode cX11_span 20 = .ok (.if_icmp .gt 44, 3) := by decide +kernel
theorem dX11_span_23 : decode cX11_span 23 = .ok (.aload_n 0, 1) := by decide +kernel
theorem dX11_span_24 : decode cX11_span 24 = .ok (.iload 5, 2) := by decide +kernel
theorem dX11_span_26 : decode cX11_span 26 = .ok (.iload_n 1, 1) := by decide +kernel
theorem dX11_span_27 : decode cX11_span 27 = .ok (.invokevirtual 357, 3) := by decide +kernel
theorem dX11_span_30 : decode cX11_span 30 = .ok (.aload_n 0, 1) := by decide +kernel
theorem dX11_span_31 : decode cX11_span 31 = .ok (.getfield 51, 3) := by decide +kernel
theorem dX11_span_34 : decode cX11_span 34 = .ok (.invokevirtual 363, 3) := by decide +kernel
theorem dX11_span_37 : decode cX11_span 37 = .ok (.invokestatic 292, 3) := by decide +kernel
theorem dX11_span_40 : decode cX11_span 40 = .ok (.istore 6, 2) := by decide +kernel
theorem dX11_span_42 : decode cX11_span 42 = .ok (.iload_n 3, 1) := by decide +kernel
theorem dX11_span_43 : decode cX11_span 43 = .ok (.iload 6, 2) := by decide +kernel
theorem dX11_span_45 : decode cX11_span 45 = .ok (.invokestatic 253, 3) := by decide +kernel
theorem dX11_span_48 : decode cX11_span 48 = .ok (.istore_n 3, 1) := by decide +kernel
theorem dX11_span_49 : decode cX11_span 49 = .ok (.iload 4, 2) := by decide +kernel
theorem dX11_span_51 : decode cX11_span 51 = .ok (.iload 6, 2) := by decide +kernel
theorem dX11_span_53 : decode cX11_span 53 = .ok (.invokestatic 366, 3) := by decide +kernel
theorem dX11_span_56 : decode cX11_span 56 = .ok (.istore 4, 2) := by decide +kernel
theorem dX11_span_58 : decode cX11_span 58 = .ok (.iinc 5 1, 3) := by decide +kernel
theorem dX11_span_61 : decode cX11_span 61 = .ok (.goto (-45), 3) := by decide +kernel
theorem dX11_span_64 : decode cX11_span 64 = .ok (.iload_n 2, 1) := by decide +kernel
theorem dX11_span_65 : decode cX11_span 65 = .ok (.ifCond .eq 8, 3) := by decide +kernel
theorem dX11_span_68 : decode cX11_span 68 = .ok (.iload 4, 2) := by decide +kernel
theorem dX11_span_70 : decode cX11_span 70 = .ok (.goto 4, 3) := by decide +kernel
theorem dX11_span_73 : decode cX11_span 73 = .ok (.iload_n 3, 1) := by decide +kernel
theorem dX11_span_74 : decode cX11_span 74 = .ok (.ireturn, 1) := by decide +kernel
set_option maxRecDepth 20000 in
theorem ggX11_tryWeeks_X3_copyFrom : GoodIn wsX11_tryWeeks wsX3_copyFrom := goodIn_r _ [10, 11, 12, 13, 14, 15, 16, 17, 18, 19, 20, 21, 22, 23, 24, 25, 26, 27, 28, 29, 30, 31, 32, 33, 34, 160, 161, 162, 163, 164, 165, 166, 167, 168, 169, 170, 171, 172, 173, 174, 175, 176, 177, 178, 179] (by decide +kernel) (by decide +kernel)
set_option maxRecDepth 20000 in
theorem gX11_tryWeeks_X3_copyFrom : GoodIn wsX11_tryWeeks (wsV RX11 120 RX3 yX3_copyFrom wsX3_copyFrom) := goodIn_app (goodIn_of _ (by decide +kernel)) ggX11_tryWeeks_X3_copyFrom
set_option maxRecDepth 20000 in
theorem ggX11_tryWeeks_X3_passWeek : GoodIn wsX11_tryWeeks wsX3_passWeek := goodIn_r _ [38, 15, 13, 39, 40, 41, 42, 11, 16, 18, 32, 43, 44, 45, 9, 46, 47, 19, 48, 49, 50, 51, 33, 29, 12, 30, 34, 21, 52, 53, 54, 55, 56, 57, 58, 59, 20, 60, 61, 62, 63, 14, 64, 65, 66, 67, 68, 69, 70, 28, 71, 72, 73, 74, 17, 75, 76, 77, 78, 79, 80, 81, 82, 83, 84, 85, 86, 87, 88, 89, 90, 91, 92, 93, 94, 95, 96, 97, 98, 99, 27, 100, 101, 102, 103, 104, 105, 106, 107, 108, 109, 110, 111, 31, 112, 113, 114, 115, 116, 117, 118, 119, 120, 121, 122, 123, 24, 25, 26, 124, 125, 126, 127, 128, 129, 130, 131, 132, 133, 134, 135, 22, 136, 137, 138, 139, 160, 161, 162, 163, 164, 165, 166, 167, 168, 169, 170, 171, 172, 173, 174, 175, 176, 177, 178, 179, 180, 181, 182, 183, 184, 185, 186, 187, 188] (by decide +kernel) (by decide +kernel)
set_option maxRecDepth 20000 in
theorem gX11_tryWeeks_X3_passWeek : GoodIn wsX11_tryWeeks (wsV RX11 262 RX3 yX3_passWeek wsX3_passWeek) := goodIn_app (goodIn_of _ (by decide +kernel)) ggX11_tryWeeks_X3_passWeek
theorem dX11_tryWeeks_0 : decode cX11_tryWeeks 0 = .ok (.aload_n 0, 1) := by decide +kernel
theorem dX11_tryWeeks_1 : decode cX11_tryWeeks 1 = .ok (.getfield 51, 3) := by decide +kernel
theorem dX11_tryWeeks_4 : decode cX11_tryWeeks 4 = .ok (.aload_n 0, 1) := by decide +kernel
theorem dX11_tryWeeks_5 : decode cX11_tryWeeks 5 = .ok (.getfield 33, 3) := by decide +kernel
theorem dX11_tryWeeks_8 : decode cX11_tryWeeks 8 = .ok (.invokevirtual 120, 3) := by decide +kernel
theorem dX11_tryWeeks_11 : decode cX11_tryWeeks 11 = .ok (.aload_n 0, 1) := by decide +kernel
theorem dX11_tryWeeks_12 : decode cX11_tryWeeks 12 = .ok (.getfield 51, 3) := by decide +kernel
theorem dX11_tryWeeks_15 : decode cX11_tryWeeks 15 = .ok (.iload_n 1, 1) := by decide +kernel
theorem dX11_tryWeeks_16 : decode cX11_tryWeeks 16 = .ok (.putfield 354, 3) := by decide +kernel
theorem dX11_tryWeeks_19 : decode cX11_tryWeeks 19 = .ok (.iconst 0, 1) := by decide +kernel
theorem dX11_tryWeeks_20 : decode cX11_tryWeeks 20 = .ok (.istore_n 3, 1) := by decide +kernel
theorem dX11_tryWeeks_21 : decode cX11_tryWeeks 21 = .ok (.iload_n 3, 1) := by decide +kernel
theorem dX11_tryWeeks_22 : decode cX11_tryWeeks 22 = .ok (.iload_n 2, 1) := by decide +kernel
theorem dX11_tryWeeks_23 : decode cX11_tryWeeks 23 = .ok (.if_icmp .ge 25, 3) := by decide +kernel
theorem dX11_tryWeeks_26 : decode cX11_tryWeeks 26 = .ok (.aload_n 0, 1) := by decide +kernel
theorem dX11_tryWeeks_27 : decode cX11_tryWeeks 27 = .ok (.getfield 51, 3) := by decide +kernel
theorem dX11_tryWeeks_30 : decode cX11_tryWeeks 30 = .ok (.aload_n 0, 1) := by decide +kernel
theorem dX11_tryWeeks_31 : decode cX11_tryWeeks 31 = .ok (.getfield 40, 3) := by decide +kernel
theorem dX11_tryWeeks_34 : decode cX11_tryWeeks 34 = .ok (.aload_n 0, 1) := by decide +kernel
theorem dX11_tryWeeks_35 : decode cX11_tryWeeks 35 = .ok (.getfield 57, 3) := by decide +kernel
theorem dX11_tryWeeks_38 : decode cX11_tryWeeks 38 = .ok (.invokevirtual 262, 3) := by decide +kernel
theorem dX11_tryWeeks_41 : decode cX11_tryWeeks 41 = .ok (.pop, 1) := by decide +kernel
theorem dX11_tryWeeks_42 : decode cX11_tryWeeks 42 = .ok (.iinc 3 1, 3) := by decide +kernel
theorem dX11_tryWeeks_45 : decode cX11_tryWeeks 45 = .ok (.goto (-24), 3) := by decide +kernel
theorem dX11_tryWeeks_48 : decode cX11_tryWeeks 48 = .ok (.return_, 1) := by decide +kernel
set_option maxRecDepth 20000 in
theorem ggX11_led_X11_checkThing : GoodIn wsX11_led wsX11_checkThing := goodIn_ca (goodIn_r _ [6, 7, 8, 9, 10, 26, 27, 28, 29, 30, 31, 32, 33, 34, 35, 36, 37, 38, 39, 40, 41, 42, 43, 44, 45, 46, 47, 48, 49, 50, 51, 52, 53, 54, 55, 56, 57, 58, 59, 60, 61, 62, 63, 64, 65] (by decide +kernel) (by decide +kernel)) (goodIn_sub (fun _ h => List.mem_cons_of_mem _ (List.mem_append_right _ h)) (by decide +kernel))
set_option maxRecDepth 20000 in
theorem gX11_led_X11_checkThing : GoodIn wsX11_led (wsV RX11 223 RX11 yX11_checkThing wsX11_checkThing) := goodIn_app (goodIn_of _ (by decide +kernel)) ggX11_led_X11_checkThing
set_option maxRecDepth 20000 in
theorem ggX11_led_X1_latestWeekOf : GoodIn wsX11_led wsX1_latestWeekOf := goodIn_r _ [15, 16, 17, 18, 19, 14, 20, 21, 66, 67] (by decide +kernel) (by decide +kernel)
set_option maxRecDepth 20000 in
theorem gX11_led_X1_latestWeekOf : GoodIn wsX11_led (wsV RX11 369 RX1 yX1_latestWeekOf wsX1_latestWeekOf) := goodIn_app (goodIn_of _ (by decide +kernel)) ggX11_led_X1_latestWeekOf
set_option maxRecDepth 20000 in
theorem ggX11_led_X1_rowsOf : GoodIn wsX11_led wsX1_rowsOf := goodIn_r _ [25, 16, 17, 18, 19, 14, 20, 21, 66, 67] (by decide +kernel) (by decide +kernel)
set_option maxRecDepth 20000 in
theorem gX11_led_X1_rowsOf : GoodIn wsX11_led (wsV RX11 372 RX1 yX1_rowsOf wsX1_rowsOf) := goodIn_app (goodIn_of _ (by decide +kernel)) ggX11_led_X1_rowsOf
theorem dX11_led_0 : decode cX11_led 0 = .ok (.aload_n 0, 1) := by decide +kernel
theorem dX11_led_1 : decode cX11_led 1 = .ok (.iload_n 1, 1) := by decide +kernel
theorem dX11_led_2 : decode cX11_led 2 = .ok (.invokevirtual 223, 3) := by decide +kernel
theorem dX11_led_5 : decode cX11_led 5 = .ok (.iload_n 2, 1) := by decide +kernel
theorem dX11_led_6 : decode cX11_led 6 = .ok (.ifCond .eq 14, 3) := by decide +kernel
theorem dX11_led_9 : decode cX11_led 9 = .ok (.aload_n 0, 1) := by decide +kernel
theorem dX11_led_10 : decode cX11_led 10 = .ok (.getfield 47, 3) := by decide +kernel
theorem dX11_led_13 : decode cX11_led 13 = .ok (.iload_n 1, 1) := by decide +kernel
theorem dX11_led_14 : decode cX11_led 14 = .ok (.invokevirtual 369, 3) := by decide +kernel
theorem dX11_led_17 : decode cX11_led 17 = .ok (.goto 11, 3) := by decide +kernel
theorem dX11_led_20 : decode cX11_led 20 = .ok (.aload_n 0, 1) := by decide +kernel
theorem dX11_led_21 : decode cX11_led 21 = .ok (.getfield 47, 3) := by decide +kernel
theorem dX11_led_24 : decode cX11_led 24 = .ok (.iload_n 1, 1) := by decide +kernel
theorem dX11_led_25 : decode cX11_led 25 = .ok (.invokevirtual 372, 3) := by decide +kernel
theorem dX11_led_28 : decode cX11_led 28 = .ok (.ireturn, 1) := by decide +kernel
set_option maxRecDepth 20000 in
theorem ggX11_log_X1_cell : GoodIn wsX11_log wsX1_cell := goodIn_r _ [8, 9, 10, 31, 32] (by decide +kernel) (by decide +kernel)
set_option maxRecDepth 20000 in
theorem gX11_log_X1_cell : GoodIn wsX11_log (wsV RX11 375 RX1 yX1_cell wsX1_cell) := goodIn_app (goodIn_of _ (by decide +kernel)) ggX11_log_X1_cell
theorem dX11_log_0 : decode cX11_log 0 = .ok (.iload_n 2, 1) := by decide +kernel
theorem dX11_log_1 : decode cX11_log 1 = .ok (.ifCond .lt 8, 3) := by decide +kernel
theorem dX11_log_4 : decode cX11_log 4 = .ok (.iload_n 2, 1) := by decide +kernel
theorem dX11_log_5 : decode cX11_log 5 = .ok (.iconst 5, 1) := by decide +kernel
theorem dX11_log_6 : decode cX11_log 6 = .ok (.if_icmp .lt 11, 3) := by decide +kernel
theorem dX11_log_9 : decode cX11_log 9 = .ok (.new 190, 3) := by decide +kernel
theorem dX11_log_12 : decode cX11_log 12 = .ok (.dup, 1) := by decide +kernel
theorem dX11_log_13 : decode cX11_log 13 = .ok (.invokespecial 192, 3) := by decide +kernel
theorem dX11_log_16 : decode cX11_log 16 = .ok (.athrow, 1) := by decide +kernel
theorem dX11_log_17 : decode cX11_log 17 = .ok (.aload_n 0, 1) := by decide +kernel
theorem dX11_log_18 : decode cX11_log 18 = .ok (.getfield 47, 3) := by decide +kernel
theorem dX11_log_21 : decode cX11_log 21 = .ok (.iload_n 1, 1) := by decide +kernel
theorem dX11_log_22 : decode cX11_log 22 = .ok (.iload_n 2, 1) := by decide +kernel
theorem dX11_log_23 : decode cX11_log 23 = .ok (.invokevirtual 375, 3) := by decide +kernel
theorem dX11_log_26 : decode cX11_log 26 = .ok (.ireturn, 1) := by decide +kernel
theorem dX11_seed_0 : decode cX11_seed 0 = .ok (.aload_n 0, 1) := by decide +kernel
theorem dX11_seed_1 : decode cX11_seed 1 = .ok (.getfield 33, 3) := by decide +kernel
theorem dX11_seed_4 : decode cX11_seed 4 = .ok (.getfield 354, 3) := by decide +kernel
theorem dX11_seed_7 : decode cX11_seed 7 = .ok (.istore_n 2, 1) := by decide +kernel
theorem dX11_seed_8 : decode cX11_seed 8 = .ok (.aload_n 0, 1) := by decide +kernel
theorem dX11_seed_9 : decode cX11_seed 9 = .ok (.getfield 33, 3) := by decide +kernel
theorem dX11_seed_12 : decode cX11_seed 12 = .ok (.iload_n 1, 1) := by decide +kernel
theorem dX11_seed_13 : decode cX11_seed 13 = .ok (.putfield 354, 3) := by decide +kernel
theorem dX11_seed_16 : decode cX11_seed 16 = .ok (.iload_n 2, 1) := by decide +kernel
theorem dX11_seed_17 : decode cX11_seed 17 = .ok (.ireturn, 1) := by decide +kernel
set_option maxRecDepth 20000 in
theorem ggX11_undo_X8_restore : GoodIn wsX11_undo wsX8_restore := goodIn_r _ [8, 9, 10, 11, 12, 13, 14, 15, 16, 17, 18, 19, 20, 21, 22, 23, 24, 25, 26, 27, 28, 29, 30, 31, 32, 33, 34, 35, 36, 37, 38, 39, 40, 41, 42, 43, 44, 45, 46, 47, 48, 49, 70, 71, 72, 73, 74, 75, 76, 77, 78, 79, 80, 81, 82, 83, 84, 85, 86, 87, 88, 89, 90, 91, 92, 93, 94, 95] (by decide +kernel) (by decide +kernel)
set_option maxRecDepth 20000 in
theorem gX11_undo_X8_restore : GoodIn wsX11_undo (wsV RX11 378 RX8 yX8_restore wsX8_restore) := goodIn_app (goodIn_of _ (by decide +kernel)) ggX11_undo_X8_restore
theorem dX11_undo_0 : decode cX11_undo 0 = .ok (.aload_n 0, 1) := by decide +kernel
theorem dX11_undo_1 : decode cX11_undo 1 = .ok (.getfield 88, 3) := by decide +kernel
theorem dX11_undo_4 : decode cX11_undo 4 = .ok (.aload_n 0, 1) := by decide +kernel
theorem dX11_undo_5 : decode cX11_undo 5 = .ok (.getfield 33, 3) := by decide +kernel
theorem dX11_undo_8 : decode cX11_undo 8 = .ok (.aload_n 0, 1) := by decide +kernel
theorem dX11_undo_9 : decode cX11_undo 9 = .ok (.getfield 47, 3) := by decide +kernel
theorem dX11_undo_12 : decode cX11_undo 12 = .ok (.invokevirtual 378, 3) := by decide +kernel
theorem dX11_undo_15 : decode cX11_undo 15 = .ok (.ireturn, 1) := by decide +kernel
set_option maxRecDepth 20000 in
theorem ggX11_image_X3_copyFrom : GoodIn wsX11_image wsX3_copyFrom := goodIn_r _ [14, 15, 16, 17, 18, 19, 20, 21, 22, 23, 24, 25, 26, 27, 28, 29, 30, 31, 32, 33, 34, 35, 36, 37, 38, 79, 80, 81, 82, 83, 84, 85, 86, 87, 88, 89, 90, 91, 92, 93, 94, 95, 96, 97, 98] (by decide +kernel) (by decide +kernel)
set_option maxRecDepth 20000 in
theorem gX11_image_X3_copyFrom : GoodIn wsX11_image (wsV RX11 120 RX3 yX3_copyFrom wsX3_copyFrom) := goodIn_app (goodIn_of _ (by decide +kernel)) ggX11_image_X3_copyFrom
set_option maxRecDepth 20000 in
theorem ggX11_image_X5_copyFrom : GoodIn wsX11_image wsX5_copyFrom := goodIn_r _ [43, 44, 45, 46, 47, 28, 29, 30, 48, 49, 50, 99, 100, 101, 102, 103, 104, 105] (by decide +kernel) (by decide +kernel)
set_option maxRecDepth 20000 in
theorem gX11_image_X5_copyFrom : GoodIn wsX11_image (wsV RX11 143 RX5 yX5_copyFrom wsX5_copyFrom) := goodIn_app (goodIn_of _ (by decide +kernel)) ggX11_image_X5_copyFrom
set_option maxRecDepth 20000 in
theorem ggX11_image_X1_copyFrom : GoodIn wsX11_image wsX1_copyFrom := goodIn_r _ [55, 56, 57, 58, 28, 29, 30, 106, 107] (by decide +kernel) (by decide +kernel)
set_option maxRecDepth 20000 in
theorem gX11_image_X1_copyFrom : GoodIn wsX11_image (wsV RX11 382 RX1 yX1_copyFrom wsX1_copyFrom) := goodIn_app (goodIn_of _ (by decide +kernel)) ggX11_image_X1_copyFrom
theorem dX11_image_0 : decode cX11_image 0 = .ok (.aload_n 0, 1) := by decide +kernel
theorem dX11_image_1 : decode cX11_image 1 = .ok (.iconst 1, 1) := by decide +kernel
theorem dX11_image_2 : decode cX11_image 2 = .ok (.putfield 92, 3) := by decide +kernel
theorem dX11_image_5 : decode cX11_image 5 = .ok (.aload_n 0, 1) := by decide +kernel
theorem dX11_image_6 : decode cX11_image 6 = .ok (.aload_n 0, 1) := by decide +kernel
theorem dX11_image_7 : decode cX11_image 7 = .ok (.getfield 27, 3) := by decide +kernel
theorem dX11_image_10 : decode cX11_image 10 = .ok (.putfield 96, 3) := by decide +kernel
theorem dX11_image_13 : decode cX11_image 13 = .ok (.aload_n 0, 1) := by decide +kernel
theorem dX11_image_14 : decode cX11_image 14 = .ok (.getfield 99, 3) := by decide +kernel
theorem dX11_image_17 : decode cX11_image 17 = .ok (.aload_n 0, 1) := by decide +kernel
theorem dX11_image_18 : decode cX11_image 18 = .ok (.getfield 33, 3) := by decide +kernel
theorem dX11_image_21 : decode cX11_image 21 = .ok (.invokevirtual 120, 3) := by decide +kernel
theorem dX11_image_24 : decode cX11_image 24 = .ok (.aload_n 0, 1) := by decide +kernel
theorem dX11_image_25 : decode cX11_image 25 = .ok (.getfield 102, 3) := by decide +kernel
theorem dX11_image_28 : decode cX11_image 28 = .ok (.aload_n 0, 1) := by decide +kernel
theorem dX11_image_29 : decode cX11_image 29 = .ok (.getfield 40, 3) := by decide +kernel
theorem dX11_image_32 : decode cX11_image 32 = .ok (.invokevirtual 143, 3) := by decide +kernel
theorem dX11_image_35 : decode cX11_image 35 = .ok (.aload_n 0, 1) := by decide +kernel
theorem dX11_image_36 : decode cX11_image 36 = .ok (.getfield 105, 3) := by decide +kernel
theorem dX11_image_39 : decode cX11_image 39 = .ok (.aload_n 0, 1) := by decide +kernel
theorem dX11_image_40 : decode cX11_image 40 = .ok (.getfield 47, 3) := by decide +kernel
theorem dX11_image_43 : decode cX11_image 43 = .ok (.invokevirtual 382, 3) := by decide +kernel
theorem dX11_image_46 : decode cX11_image 46 = .ok (.return_, 1) := by decide +kernel
set_option maxRecDepth 20000 in
theorem ggX11_back_X3_copyFrom : GoodIn wsX11_back wsX3_copyFrom := goodIn_r _ [15, 16, 17, 18, 19, 20, 21, 22, 23, 24, 25, 26, 27, 28, 29, 30, 31, 32, 33, 34, 35, 36, 37, 38, 39, 86, 87, 88, 89, 90, 91, 92, 93, 94, 95, 96, 97, 98, 99, 100, 101, 102, 103, 104, 105] (by decide +kernel) (by decide +kernel)
set_option maxRecDepth 20000 in
theorem gX11_back_X3_copyFrom : GoodIn wsX11_back (wsV RX11 120 RX3 yX3_copyFrom wsX3_copyFrom) := goodIn_app (goodIn_of _ (by decide +kernel)) ggX11_back_X3_copyFrom
set_option maxRecDepth 20000 in
theorem ggX11_back_X5_copyFrom : GoodIn wsX11_back wsX5_copyFrom := goodIn_r _ [44, 45, 46, 47, 48, 29, 30, 31, 49, 50, 51, 106, 107, 108, 109, 110, 111, 112] (by decide +kernel) (by decide +kernel)
set_option maxRecDepth 20000 in
theorem gX11_back_X5_copyFrom : GoodIn wsX11_back (wsV RX11 143 RX5 yX5_copyFrom wsX5_copyFrom) := goodIn_app (goodIn_of _ (by decide +kernel)) ggX11_back_X5_copyFrom
set_option maxRecDepth 20000 in
theorem ggX11_back_X1_copyFrom : GoodIn wsX11_back wsX1_copyFrom := goodIn_r _ [56, 57, 58, 59, 29, 30, 31, 113, 114] (by decide +kernel) (by decide +kernel)
set_option maxRecDepth 20000 in
theorem gX11_back_X1_copyFrom : GoodIn wsX11_back (wsV RX11 382 RX1 yX1_copyFrom wsX1_copyFrom) := goodIn_app (goodIn_of _ (by decide +kernel)) ggX11_back_X1_copyFrom
set_option maxRecDepth 20000 in
theorem ggX11_back_X8_forget : GoodIn wsX11_back wsX8_forget := goodIn_r _ [64, 65, 115, 116, 117, 118] (by decide +kernel) (by decide +kernel)
set_option maxRecDepth 20000 in
theorem gX11_back_X8_forget : GoodIn wsX11_back (wsV RX11 136 RX8 yX8_forget wsX8_forget) := goodIn_app (goodIn_of _ (by decide +kernel)) ggX11_back_X8_forget
theorem dX11_back_0 : decode cX11_back 0 = .ok (.aload_n 0, 1) := by decide +kernel
theorem dX11_back_1 : decode cX11_back 1 = .ok (.getfield 92, 3) := by decide +kernel
theorem dX11_back_4 : decode cX11_back 4 = .ok (.ifCond .ne 5, 3) := by decide +kernel
theorem dX11_back_7 : decode cX11_back 7 = .ok (.iconst 0, 1) := by decide +kernel
theorem dX11_back_8 : decode cX11_back 8 = .ok (.ireturn, 1) := by decide +kernel
theorem dX11_back_9 : decode cX11_back 9 = .ok (.aload_n 0, 1) := by decide +kernel
theorem dX11_back_10 : decode cX11_back 10 = .ok (.aload_n 0, 1) := by decide +kernel
theorem dX11_back_11 : decode cX11_back 11 = .ok (.getfield 96, 3) := by decide +kernel
theorem dX11_back_14 : decode cX11_back 14 = .ok (.putfield 27, 3) := by decide +kernel
theorem dX11_back_17 : decode cX11_back 17 = .ok (.aload_n 0, 1) := by decide +kernel
theorem dX11_back_18 : decode cX11_back 18 = .ok (.getfield 33, 3) := by decide +kernel
theorem dX11_back_21 : decode cX11_back 21 = .ok (.aload_n 0, 1) := by decide +kernel
theorem dX11_back_22 : decode cX11_back 22 = .ok (.getfield 99, 3) := by decide +kernel
theorem dX11_back_25 : decode cX11_back 25 = .ok (.invokevirtual 120, 3) := by decide +kernel
theorem dX11_back_28 : decode cX11_back 28 = .ok (.aload_n 0, 1) := by decide +kernel
theorem dX11_back_29 : decode cX11_back 29 = .ok (.getfield 40, 3) := by decide +kernel
theorem dX11_back_32 : decode cX11_back 32 = .ok (.aload_n 0, 1) := by decide +kernel
theorem dX11_back_33 : decode cX11_back 33 = .ok (.getfield 102, 3) := by decide +kernel
theorem dX11_back_36 : decode cX11_back 36 = .ok (.invokevirtual 143, 3) := by decide +kernel
theorem dX11_back_39 : decode cX11_back 39 = .ok (.aload_n 0, 1) := by decide +kernel
theorem dX11_back_40 : decode cX11_back 40 = .ok (.getfield 47, 3) := by decide +kernel
theorem dX11_back_43 : decode cX11_back 43 = .ok (.aload_n 0, 1) := by decide +kernel
theorem dX11_back_44 : decode cX11_back 44 = .ok (.getfield 105, 3) := by decide +kernel
theorem dX11_back_47 : decode cX11_back 47 = .ok (.invokevirtual 382, 3) := by decide +kernel
theorem dX11_back_50 : decode cX11_back 50 = .ok (.aload_n 0, 1) := by decide +kernel
theorem dX11_back_51 : decode cX11_back 51 = .ok (.getfield 88, 3) := by decide +kernel
theorem dX11_back_54 : decode cX11_back 54 = .ok (.invokevirtual 136, 3) := by decide +kernel
theorem dX11_back_57 : decode cX11_back 57 = .ok (.iconst 1, 1) := by decide +kernel
theorem dX11_back_58 : decode cX11_back 58 = .ok (.ireturn, 1) := by decide +kernel
set_option maxRecDepth 20000 in
theorem ggX11_count_X3_brokenPlanks : GoodIn wsX11_count wsX3_brokenPlanks := goodIn_r _ [21, 22, 23, 63, 64, 65, 66, 67, 68, 69, 70, 71, 72, 73, 74, 75, 76, 77, 78, 79, 80, 81, 82] (by decide +kernel) (by decide +kernel)
set_option maxRecDepth 20000 in
theorem gX11_count_X3_brokenPlanks : GoodIn wsX11_count (wsV RX11 360 RX3 yX3_brokenPlanks wsX3_brokenPlanks) := goodIn_app (goodIn_of _ (by decide +kernel)) ggX11_count_X3_brokenPlanks
set_option maxRecDepth 20000 in
theorem ggX11_count_X3_goneThings : GoodIn wsX11_count wsX3_goneThings := goodIn_r _ [27, 28, 29, 30, 20, 31, 32, 33, 63, 64, 65, 66, 67, 68, 69, 70, 71, 72, 73, 74, 75, 76, 77, 78, 79, 80, 81, 82] (by decide +kernel) (by decide +kernel)
set_option maxRecDepth 20000 in
theorem gX11_count_X3_goneThings : GoodIn wsX11_count (wsV RX11 363 RX3 yX3_goneThings wsX3_goneThings) := goodIn_app (goodIn_of _ (by decide +kernel)) ggX11_count_X3_goneThings
set_option maxRecDepth 20000 in
theorem ggX11_count_X3_purseSum : GoodIn wsX11_count wsX3_purseSum := goodIn_r _ [37, 38, 39, 40, 41, 20, 42, 22, 63, 64, 65, 66, 67, 68, 69, 70, 71, 72, 73, 74, 75, 76, 77, 78, 79, 80, 81, 82] (by decide +kernel) (by decide +kernel)
set_option maxRecDepth 20000 in
theorem gX11_count_X3_purseSum : GoodIn wsX11_count (wsV RX11 397 RX3 yX3_purseSum wsX3_purseSum) := goodIn_app (goodIn_of _ (by decide +kernel)) ggX11_count_X3_purseSum
theorem dX11_count_0 : decode cX11_count 0 = .ok (.iload_n 1, 1) := by decide +kernel
theorem dX11_count_1 : decode cX11_count 1 = .ok (.tableswitch 192 0 14 #[75, 83, 91, 96, 104, 112, 120, 128, 136, 144, 152, 160, 168, 176, 184], 75) := by decide +kernel
theorem dX11_count_76 : decode cX11_count 76 = .ok (.aload_n 0, 1) := by decide +kernel
theorem dX11_count_77 : decode cX11_count 77 = .ok (.getfield 33, 3) := by decide +kernel
theorem dX11_count_80 : decode cX11_count 80 = .ok (.getfield 149, 3) := by decide +kernel
theorem dX11_count_83 : decode cX11_count 83 = .ok (.ireturn, 1) := by decide +kernel
theorem dX11_count_84 : decode cX11_count 84 = .ok (.aload_n 0, 1) := by decide +kernel
theorem dX11_count_85 : decode cX11_count 85 = .ok (.getfield 33, 3) := by decide +kernel
theorem dX11_count_88 : decode cX11_count 88 = .ok (.getfield 158, 3) := by decide +kernel
theorem dX11_count_91 : decode cX11_count 91 = .ok (.ireturn, 1) := by decide +kernel
theorem dX11_count_92 : decode cX11_count 92 = .ok (.aload_n 0, 1) := by decide +kernel
theorem dX11_count_93 : decode cX11_count 93 = .ok (.getfield 27, 3) := by decide +kernel
theorem dX11_count_96 : decode cX11_count 96 = .ok (.ireturn, 1) := by decide +kernel
theorem dX11_count_97 : decode cX11_count 97 = .ok (.aload_n 0, 1) := by decide +kernel
theorem dX11_count_98 : decode cX11_count 98 = .ok (.getfield 40, 3) := by decide +kernel
theorem dX11_count_101 : decode cX11_count 101 = .ok (.getfield 146, 3) := by decide +kernel
theorem dX11_count_104 : decode cX11_count 104 = .ok (.ireturn, 1) := by decide +kernel
theorem dX11_count_105 : decode cX11_count 105 = .ok (.aload_n 0, 1) := by decide +kernel
theorem dX11_count_106 : decode cX11_count 106 = .ok (.getfield 33, 3) := by decide +kernel
theorem dX11_count_109 : decode cX11_count 109 = .ok (.getfield 242, 3) := by decide +kernel
theorem dX11_count_112 : decode cX11_count 112 = .ok (.ireturn, 1) := by decide +kernel
theorem dX11_count_113 : decode cX11_count 113 = .ok (.aload_n 0, 1) := by decide +kernel
theorem dX11_count_114 : decode cX11_count 114 = .ok (.getfield 33, 3) := by decide +kernel
theorem dX11_count_117 : decode cX11_count 117 = .ok (.getfield 259, 3) := by decide +kernel
theorem dX11_count_120 : decode cX11_count 120 = .ok (.ireturn, 1) := by decide +kernel
theorem dX11_count_121 : decode cX11_count 121 = .ok (.aload_n 0, 1) := by decide +kernel
theorem dX11_count_122 : decode cX11_count 122 = .ok (.getfield 33, 3) := by decide +kernel
theorem dX11_count_125 : decode cX11_count 125 = .ok (.getfield 385, 3) := by decide +kernel
theorem dX11_count_128 : decode cX11_count 128 = .ok (.ireturn, 1) := by decide +kernel
theorem dX11_count_129 : decode cX11_count 129 = .ok (.aload_n 0, 1) := by decide +kernel
theorem dX11_count_130 : decode cX11_count 130 = .ok (.getfield 33, 3) := by decide +kernel
theorem dX11_count_133 : decode cX11_count 133 = .ok (.getfield 388, 3) := by decide +kernel
theorem dX11_count_136 : decode cX11_count 136 = .ok (.ireturn, 1) := by decide +kernel
theorem dX11_count_137 : decode cX11_count 137 = .ok (.aload_n 0, 1) := by decide +kernel
theorem dX11_count_138 : decode cX11_count 138 = .ok (.getfield 33, 3) := by decide +kernel
theorem dX11_count_141 : decode cX11_count 141 = .ok (.getfield 391, 3) := by decide +kernel
theorem dX11_count_144 : decode cX11_count 144 = .ok (.ireturn, 1) := by decide +kernel
theorem dX11_count_145 : decode cX11_count 145 = .ok (.aload_n 0, 1) := by decide +kernel
theorem dX11_count_146 : decode cX11_count 146 = .ok (.getfield 33, 3) := by decide +kernel
theorem dX11_count_149 : decode cX11_count 149 = .ok (.getfield 394, 3) := by decide +kernel
theorem dX11_count_152 : decode cX11_count 152 = .ok (.ireturn, 1) := by decide +kernel
theorem dX11_count_153 : decode cX11_count 153 = .ok (.aload_n 0, 1) := by decide +kernel
theorem dX11_count_154 : decode cX11_count 154 = .ok (.getfield 33, 3) := by decide +kernel
theorem dX11_count_157 : decode cX11_count 157 = .ok (.invokevirtual 360, 3) := by decide +kernel
theorem dX11_count_160 : decode cX11_count 160 = .ok (.ireturn, 1) := by decide +kernel
theorem dX11_count_161 : decode cX11_count 161 = .ok (.aload_n 0, 1) := by decide +kernel
theorem dX11_count_162 : decode cX11_count 162 = .ok (.getfield 33, 3) := by decide +kernel
theorem dX11_count_165 : decode cX11_count 165 = .ok (.invokevirtual 363, 3) := by decide +kernel
theorem dX11_count_168 : decode cX11_count 168 = .ok (.ireturn, 1) := by decide +kernel
theorem dX11_count_169 : decode cX11_count 169 = .ok (.aload_n 0, 1) := by decide +kernel
theorem dX11_count_170 : decode cX11_count 170 = .ok (.getfield 33, 3) := by decide +kernel
theorem dX11_count_173 : decode cX11_count 173 = .ok (.invokevirtual 397, 3) := by decide +kernel
theorem dX11_count_176 : decode cX11_count 176 = .ok (.ireturn, 1) := by decide +kernel
theorem dX11_count_177 : decode cX11_count 177 = .ok (.aload_n 0, 1) := by decide +kernel
theorem dX11_count_178 : decode cX11_count 178 = .ok (.getfield 47, 3) := by decide +kernel
theorem dX11_count_181 : decode cX11_count 181 = .ok (.getfield 400, 3) := by decide +kernel
theorem dX11_count_184 : decode cX11_count 184 = .ok (.ireturn, 1) := by decide +kernel
theorem dX11_count_185 : decode cX11_count 185 = .ok (.aload_n 0, 1) := by decide +kernel
theorem dX11_count_186 : decode cX11_count 186 = .ok (.getfield 88, 3) := by decide +kernel
theorem dX11_count_189 : decode cX11_count 189 = .ok (.getfield 403, 3) := by decide +kernel
theorem dX11_count_192 : decode cX11_count 192 = .ok (.ireturn, 1) := by decide +kernel
theorem dX11_count_193 : decode cX11_count 193 = .ok (.iconst (-1), 1) := by decide +kernel
theorem dX11_count_194 : decode cX11_count 194 = .ok (.ireturn, 1) := by decide +kernel
theorem dX12_thrown_0 : decode cX12_thrown 0 = .ok (.aload_n 0, 1) := by decide +kernel
theorem dX12_thrown_1 : decode cX12_thrown 1 = .ok (.getfield 3, 3) := by decide +kernel
theorem dX12_thrown_4 : decode cX12_thrown 4 = .ok (.ireturn, 1) := by decide +kernel
theorem dX12_throwsIf_0 : decode cX12_throwsIf 0 = .ok (.iload_n 1, 1) := by decide +kernel
theorem dX12_throwsIf_1 : decode cX12_throwsIf 1 = .ok (.ifCond .eq 8, 3) := by decide +kernel
theorem dX12_throwsIf_4 : decode cX12_throwsIf 4 = .ok (.aload_n 0, 1) := by decide +kernel
theorem dX12_throwsIf_5 : decode cX12_throwsIf 5 = .ok (.iload_n 2, 1) := by decide +kernel
theorem dX12_throwsIf_6 : decode cX12_throwsIf 6 = .ok (.putfield 3, 3) := by decide +kernel
theorem dX12_throwsIf_9 : decode cX12_throwsIf 9 = .ok (.iload_n 1, 1) := by decide +kernel
theorem dX12_throwsIf_10 : decode cX12_throwsIf 10 = .ok (.ireturn, 1) := by decide +kernel
theorem dX12_in_0 : decode cX12_in 0 = .ok (.iload_n 0, 1) := by decide +kernel
theorem dX12_in_1 : decode cX12_in 1 = .ok (.iload_n 1, 1) := by decide +kernel
theorem dX12_in_2 : decode cX12_in 2 = .ok (.if_icmp .lt 12, 3) := by decide +kernel
theorem dX12_in_5 : decode cX12_in 5 = .ok (.iload_n 0, 1) := by decide +kernel
theorem dX12_in_6 : decode cX12_in 6 = .ok (.iload_n 2, 1) := by decide +kernel
theorem dX12_in_7 : decode cX12_in 7 = .ok (.if_icmp .gt 7, 3) := by decide +kernel
theorem dX12_in_10 : decode cX12_in 10 = .ok (.iconst 1, 1) := by decide +kernel
theorem dX12_in_11 : decode cX12_in 11 = .ok (.goto 4, 3) := by decide +kernel
theorem dX12_in_14 : decode cX12_in 14 = .ok (.iconst 0, 1) := by decide +kernel
theorem dX12_in_15 : decode cX12_in 15 = .ok (.ireturn, 1) := by decide +kernel
theorem dX12_holds_0 : decode cX12_holds 0 = .ok (.iload_n 0, 1) := by decide +kernel
theorem dX12_holds_1 : decode cX12_holds 1 = .ok (.iload_n 1, 1) := by decide +kernel
theorem dX12_holds_2 : decode cX12_holds 2 = .ok (.ishr, 1) := by decide +kernel
theorem dX12_holds_3 : decode cX12_holds 3 = .ok (.iconst 1, 1) := by decide +kernel
theorem dX12_holds_4 : decode cX12_holds 4 = .ok (.iand, 1) := by decide +kernel
theorem dX12_holds_5 : decode cX12_holds 5 = .ok (.iconst 1, 1) := by decide +kernel
theorem dX12_holds_6 : decode cX12_holds 6 = .ok (.if_icmp .ne 7, 3) := by decide +kernel
theorem dX12_holds_9 : decode cX12_holds 9 = .ok (.iconst 1, 1) := by decide +kernel
theorem dX12_holds_10 : decode cX12_holds 10 = .ok (.goto 4, 3) := by decide +kernel
theorem dX12_holds_13 : decode cX12_holds 13 = .ok (.iconst 0, 1) := by decide +kernel
theorem dX12_holds_14 : decode cX12_holds 14 = .ok (.ireturn, 1) := by decide +kernel
theorem dX12_init_0 : decode cX12_init 0 = .ok (.aload_n 0, 1) := by decide +kernel
theorem dX12_init_1 : decode cX12_init 1 = .ok (.invokespecial 7, 3) := by decide +kernel
theorem dX12_init_4 : decode cX12_init 4 = .ok (.aload_n 0, 1) := by decide +kernel
theorem dX12_init_5 : decode cX12_init 5 = .ok (.sipush 2080, 3) := by decide +kernel
theorem dX12_init_8 : decode cX12_init 8 = .ok (.newarray .int, 2) := by decide +kernel
theorem dX12_init_10 : decode cX12_init 10 = .ok (.putfield 13, 3) := by decide +kernel
theorem dX12_init_13 : decode cX12_init 13 = .ok (.aload_n 0, 1) := by decide +kernel
theorem dX12_init_14 : decode cX12_init 14 = .ok (.sipush 1231, 3) := by decide +kernel
theorem dX12_init_17 : decode cX12_init 17 = .ok (.newarray .int, 2) := by decide +kernel
theorem dX12_init_19 : decode cX12_init 19 = .ok (.putfield 17, 3) := by decide +kernel
theorem dX12_init_22 : decode cX12_init 22 = .ok (.aload_n 0, 1) := by decide +kernel
theorem dX12_init_23 : decode cX12_init 23 = .ok (.sipush 1231, 3) := by decide +kernel
theorem dX12_init_26 : decode cX12_init 26 = .ok (.newarray .int, 2) := by decide +kernel
theorem dX12_init_28 : decode cX12_init 28 = .ok (.putfield 20, 3) := by decide +kernel
theorem dX12_init_31 : decode cX12_init 31 = .ok (.aload_n 0, 1) := by decide +kernel
theorem dX12_init_32 : decode cX12_init 32 = .ok (.sipush 382, 3) := by decide +kernel
theorem dX12_init_35 : decode cX12_init 35 = .ok (.newarray .int, 2) := by decide +kernel
theorem dX12_init_37 : decode cX12_init 37 = .ok (.putfield 23, 3) := by decide +kernel
theorem dX12_init_40 : decode cX12_init 40 = .ok (.aload_n 0, 1) := by decide +kernel
theorem dX12_init_41 : decode cX12_init 41 = .ok (.sipush 4584, 3) := by decide +kernel
theorem dX12_init_44 : decode cX12_init 44 = .ok (.newarray .int, 2) := by decide +kernel
theorem dX12_init_46 : decode cX12_init 46 = .ok (.putfield 26, 3) := by decide +kernel
theorem dX12_init_49 : decode cX12_init 49 = .ok (.aload_n 0, 1) := by decide +kernel
theorem dX12_init_50 : decode cX12_init 50 = .ok (.sipush 400, 3) := by decide +kernel
theorem dX12_init_53 : decode cX12_init 53 = .ok (.newarray .byte, 2) := by decide +kernel
theorem dX12_init_55 : decode cX12_init 55 = .ok (.putfield 29, 3) := by decide +kernel
theorem dX12_init_58 : decode cX12_init 58 = .ok (.aload_n 0, 1) := by decide +kernel
theorem dX12_init_59 : decode cX12_init 59 = .ok (.iconst (-1), 1) := by decide +kernel
theorem dX12_init_60 : decode cX12_init 60 = .ok (.putfield 33, 3) := by decide +kernel
theorem dX12_init_63 : decode cX12_init 63 = .ok (.aload_n 0, 1) := by decide +kernel
theorem dX12_init_64 : decode cX12_init 64 = .ok (.iconst 5, 1) := by decide +kernel
theorem dX12_init_65 : decode cX12_init 65 = .ok (.newarray .int, 2) := by decide +kernel
theorem dX12_init_67 : decode cX12_init 67 = .ok (.putfield 36, 3) := by decide +kernel
theorem dX12_init_70 : decode cX12_init 70 = .ok (.aload_n 0, 1) := by decide +kernel
theorem dX12_init_71 : decode cX12_init 71 = .ok (.sipush 400, 3) := by decide +kernel
theorem dX12_init_74 : decode cX12_init 74 = .ok (.newarray .int, 2) := by decide +kernel
theorem dX12_init_76 : decode cX12_init 76 = .ok (.putfield 39, 3) := by decide +kernel
theorem dX12_init_79 : decode cX12_init 79 = .ok (.aload_n 0, 1) := by decide +kernel
theorem dX12_init_80 : decode cX12_init 80 = .ok (.sipush 1024, 3) := by decide +kernel
theorem dX12_init_83 : decode cX12_init 83 = .ok (.newarray .int, 2) := by decide +kernel
theorem dX12_init_85 : decode cX12_init 85 = .ok (.putfield 42, 3) := by decide +kernel
theorem dX12_init_88 : decode cX12_init 88 = .ok (.aload_n 0, 1) := by decide +kernel
theorem dX12_init_89 : decode cX12_init 89 = .ok (.bipush 11, 2) := by decide +kernel
theorem dX12_init_91 : decode cX12_init 91 = .ok (.newarray .int, 2) := by decide +kernel
theorem dX12_init_93 : decode cX12_init 93 = .ok (.putfield 45, 3) := by decide +kernel
theorem dX12_init_96 : decode cX12_init 96 = .ok (.aload_n 0, 1) := by decide +kernel
theorem dX12_init_97 : decode cX12_init 97 = .ok (.getfield 13, 3) := by decide +kernel
theorem dX12_init_100 : decode cX12_init 100 = .ok (.bipush 6, 2) := by decide +kernel
theorem dX12_init_102 : decode cX12_init 102 = .ok (.bipush 10, 2) := by decide +kernel
theorem dX12_init_104 : decode cX12_init 104 = .ok (.iastore, 1) := by decide +kernel
theorem dX12_init_105 : decode cX12_init 105 = .ok (.aload_n 0, 1) := by decide +kernel
theorem dX12_init_106 : decode cX12_init 106 = .ok (.getfield 13, 3) := by decide +kernel
theorem dX12_init_109 : decode cX12_init 109 = .ok (.bipush 9, 2) := by decide +kernel
theorem dX12_init_111 : decode cX12_init 111 = .ok (.iconst 3, 1) := by decide +kernel
theorem dX12_init_112 : decode cX12_init 112 = .ok (.iastore, 1) := by decide +kernel
theorem dX12_init_113 : decode cX12_init 113 = .ok (.aload_n 0, 1) := by decide +kernel
theorem dX12_init_114 : decode cX12_init 114 = .ok (.getfield 13, 3) := by decide +kernel
theorem dX12_init_117 : decode cX12_init 117 = .ok (.bipush 11, 2) := by decide +kernel
theorem dX12_init_119 : decode cX12_init 119 = .ok (.iconst 1, 1) := by decide +kernel
theorem dX12_init_120 : decode cX12_init 120 = .ok (.iastore, 1) := by decide +kernel
theorem dX12_init_121 : decode cX12_init 121 = .ok (.return_, 1) := by decide +kernel
theorem dX12_image_0 : decode cX12_image 0 = .ok (.aload_n 0, 1) := by decide +kernel
theorem dX12_image_1 : decode cX12_image 1 = .ok (.iconst 0, 1) := by decide +kernel
theorem dX12_image_2 : decode cX12_image 2 = .ok (.putfield 3, 3) := by decide +kernel
theorem dX12_image_5 : decode cX12_image 5 = .ok (.iconst 0, 1) := by decide +kernel
theorem dX12_image_6 : decode cX12_image 6 = .ok (.istore_n 1, 1) := by decide +kernel
theorem dX12_image_7 : decode cX12_image 7 = .ok (.iload_n 1, 1) := by decide +kernel
theorem dX12_image_8 : decode cX12_image 8 = .ok (.sipush 1231, 3) := by decide +kernel
theorem dX12_image_11 : decode cX12_image 11 = .ok (.if_icmp .ge 21, 3) := by decide +kernel
theorem dX12_image_14 : decode cX12_image 14 = .ok (.aload_n 0, 1) := by decide +kernel
theorem dX12_image_15 : decode cX12_image 15 = .ok (.getfield 17, 3) := by decide +kernel
theorem dX12_image_18 : decode cX12_image 18 = .ok (.iload_n 1, 1) := by decide +kernel
theorem dX12_image_19 : decode cX12_image 19 = .ok (.aload_n 0, 1) := by decide +kernel
theorem dX12_image_20 : decode cX12_image 20 = .ok (.getfield 13, 3) := by decide +kernel
theorem dX12_image_23 : decode cX12_image 23 = .ok (.iload_n 1, 1) := by decide +kernel
theorem dX12_image_24 : decode cX12_image 24 = .ok (.iaload, 1) := by decide +kernel
theorem dX12_image_25 : decode cX12_image 25 = .ok (.iastore, 1) := by decide +kernel
theorem dX12_image_26 : decode cX12_image 26 = .ok (.iinc 1 1, 3) := by decide +kernel
theorem dX12_image_29 : decode cX12_image 29 = .ok (.goto (-22), 3) := by decide +kernel
theorem dX12_image_32 : decode cX12_image 32 = .ok (.aload_n 0, 1) := by decide +kernel
theorem dX12_image_33 : decode cX12_image 33 = .ok (.iconst 1, 1) := by decide +kernel
theorem dX12_image_34 : decode cX12_image 34 = .ok (.putfield 48, 3) := by decide +kernel
theorem dX12_image_37 : decode cX12_image 37 = .ok (.return_, 1) := by decide +kernel
theorem dX12_back_0 : decode cX12_back 0 = .ok (.aload_n 0, 1) := by decide +kernel
theorem dX12_back_1 : decode cX12_back 1 = .ok (.iconst 0, 1) := by decide +kernel
theorem dX12_back_2 : decode cX12_back 2 = .ok (.putfield 3, 3) := by decide +kernel
theorem dX12_back_5 : decode cX12_back 5 = .ok (.aload_n 0, 1) := by decide +kernel
theorem dX12_back_6 : decode cX12_back 6 = .ok (.getfield 48, 3) := by decide +kernel
theorem dX12_back_9 : decode cX12_back 9 = .ok (.ifCond .ne 5, 3) := by decide +kernel
theorem dX12_back_12 : decode cX12_back 12 = .ok (.iconst 0, 1) := by decide +kernel
theorem dX12_back_13 : decode cX12_back 13 = .ok (.ireturn, 1) := by decide +kernel
theorem dX12_back_14 : decode cX12_back 14 = .ok (.iconst 0, 1) := by decide +kernel
theorem dX12_back_15 : decode cX12_back 15 = .ok (.istore_n 1, 1) := by decide +kernel
theorem dX12_back_16 : decode cX12_back 16 = .ok (.iload_n 1, 1) := by decide +kernel
theorem dX12_back_17 : decode cX12_back 17 = .ok (.sipush 1231, 3) := by decide +kernel
theorem dX12_back_20 : decode cX12_back 20 = .ok (.if_icmp .ge 21, 3) := by decide +kernel
theorem dX12_back_23 : decode cX12_back 23 = .ok (.aload_n 0, 1) := by decide +kernel
theorem dX12_back_24 : decode cX12_back 24 = .ok (.getfield 13, 3) := by decide +kernel
theorem dX12_back_27 : decode cX12_back 27 = .ok (.iload_n 1, 1) := by decide +kernel
theorem dX12_back_28 : decode cX12_back 28 = .ok (.aload_n 0, 1) := by decide +kernel
theorem dX12_back_29 : decode cX12_back 29 = .ok (.getfield 17, 3) := by decide +kernel
theorem dX12_back_32 : decode cX12_back 32 = .ok (.iload_n 1, 1) := by decide +kernel
theorem dX12_back_33 : decode cX12_back 33 = .ok (.iaload, 1) := by decide +kernel
theorem dX12_back_34 : decode cX12_back 34 = .ok (.iastore, 1) := by decide +kernel
theorem dX12_back_35 : decode cX12_back 35 = .ok (.iinc 1 1, 3) := by decide +kernel
theorem dX12_back_38 : decode cX12_back 38 = .ok (.goto (-22), 3) := by decide +kernel
theorem dX12_back_41 : decode cX12_back 41 = .ok (.aload_n 0, 1) := by decide +kernel
theorem dX12_back_42 : decode cX12_back 42 = .ok (.iconst 0, 1) := by decide +kernel
theorem dX12_back_43 : decode cX12_back 43 = .ok (.putfield 52, 3) := by decide +kernel
theorem dX12_back_46 : decode cX12_back 46 = .ok (.iconst 1, 1) := by decide +kernel
theorem dX12_back_47 : decode cX12_back 47 = .ok (.ireturn, 1) := by decide +kernel
theorem dX12_remembers_0 : decode cX12_remembers 0 = .ok (.aload_n 0, 1) := by decide +kernel
theorem dX12_remembers_1 : decode cX12_remembers 1 = .ok (.getfield 52, 3) := by decide +kernel
theorem dX12_remembers_4 : decode cX12_remembers 4 = .ok (.bipush 12, 2) := by decide +kernel
theorem dX12_remembers_6 : decode cX12_remembers 6 = .ok (.if_icmp .ne 37, 3) := by decide +kernel
theorem dX12_remembers_9 : decode cX12_remembers 9 = .ok (.iconst 0, 1) := by decide +kernel
theorem dX12_remembers_10 : decode cX12_remembers 10 = .ok (.istore_n 1, 1) := by decide +kernel
theorem dX12_remembers_11 : decode cX12_remembers 11 = .ok (.iload_n 1, 1) := by decide +kernel
theorem dX12_remembers_12 : decode cX12_remembers 12 = .ok (.sipush 4202, 3) := by decide +kernel
theorem dX12_remembers_15 : decode cX12_remembers 15 = .ok (.if_icmp .ge 25, 3) := by decide +kernel
theorem dX12_remembers_18 : decode cX12_remembers 18 = .ok (.aload_n 0, 1) := by decide +kernel
theorem dX12_remembers_19 : decode cX12_remembers 19 = .ok (.getfield 26, 3) := by decide +kernel
theorem dX12_remembers_22 : decode cX12_remembers 22 = .ok (.iload_n 1, 1) := by decide +kernel
theorem dX12_remembers_23 : decode cX12_remembers 23 = .ok (.aload_n 0, 1) := by decide +kernel
theorem dX12_remembers_24 : decode cX12_remembers 24 = .ok (.getfield 26, 3) := by decide +kernel
theorem dX12_remembers_27 : decode cX12_remembers 27 = .ok (.iload_n 1, 1) := by decide +kernel
theorem dX12_remembers_28 : decode cX12_remembers 28 = .ok (.sipush 382, 3) := by decide +kernel
theorem dX12_remembers_31 : decode cX12_remembers 31 = .ok (.iadd, 1) := by decide +kernel
theorem dX12_remembers_32 : decode cX12_remembers 32 = .ok (.iaload, 1) := by decide +kernel
theorem dX12_remembers_33 : decode cX12_remembers 33 = .ok (.iastore, 1) := by decide +kernel
theorem dX12_remembers_34 : decode cX12_remembers 34 = .ok (.iinc 1 1, 3) := by decide +kernel
theorem dX12_remembers_37 : decode cX12_remembers 37 = .ok (.goto (-26), 3) := by decide +kernel
theorem dX12_remembers_40 : decode cX12_remembers 40 = .ok (.goto 13, 3) := by decide +kernel
theorem dX12_remembers_43 : decode cX12_remembers 43 = .ok (.aload_n 0, 1) := by decide +kernel
theorem dX12_remembers_44 : decode cX12_remembers 44 = .ok (.dup, 1) := by decide +kernel
theorem dX12_remembers_45 : decode cX12_remembers 45 = .ok (.getfield 52, 3) := by decide +kernel
theorem dX12_remembers_48 : decode cX12_remembers 48 = .ok (.iconst 1, 1) := by decide +kernel
theorem dX12_remembers_49 : decode cX12_remembers 49 = .ok (.iadd, 1) := by decide +kernel
theorem dX12_remembers_50 : decode cX12_remembers 50 = .ok (.putfield 52, 3) := by decide +kernel
theorem dX12_remembers_53 : decode cX12_remembers 53 = .ok (.iconst 0, 1) := by decide +kernel
theorem dX12_remembers_54 : decode cX12_remembers 54 = .ok (.istore_n 1, 1) := by decide +kernel
theorem dX12_remembers_55 : decode cX12_remembers 55 = .ok (.iload_n 1, 1) := by decide +kernel
theorem dX12_remembers_56 : decode cX12_remembers 56 = .ok (.sipush 382, 3) := by decide +kernel
theorem dX12_remembers_59 : decode cX12_remembers 59 = .ok (.if_icmp .ge 32, 3) := by decide +kernel
theorem dX12_remembers_62 : decode cX12_remembers 62 = .ok (.aload_n 0, 1) := by decide +kernel
theorem dX12_remembers_63 : decode cX12_remembers 63 = .ok (.getfield 26, 3) := by decide +kernel
theorem dX12_remembers_66 : decode cX12_remembers 66 = .ok (.sipush 382, 3) := by decide +kernel
theorem dX12_remembers_69 : decode cX12_remembers 69 = .ok (.aload_n 0, 1) := by decide +kernel
theorem dX12_remembers_70 : decode cX12_remembers 70 = .ok (.getfield 52, 3) := by decide +kernel
theorem dX12_remembers_73 : decode cX12_remembers 73 = .ok (.iconst 1, 1) := by decide +kernel
theorem dX12_remembers_74 : decode cX12_remembers 74 = .ok (.isub, 1) := by decide +kernel
theorem dX12_remembers_75 : decode cX12_remembers 75 = .ok (.imul, 1) := by decide +kernel
theorem dX12_remembers_76 : decode cX12_remembers 76 = .ok (.iload_n 1, 1) := by decide +kernel
theorem dX12_remembers_77 : decode cX12_remembers 77 = .ok (.iadd, 1) := by decide +kernel
theorem dX12_remembers_78 : decode cX12_remembers 78 = .ok (.aload_n 0, 1) := by decide +kernel
theorem dX12_remembers_79 : decode cX12_remembers 79 = .ok (.getfield 13, 3) := by decide +kernel
theorem dX12_remembers_82 : decode cX12_remembers 82 = .ok (.iload_n 1, 1) := by decide +kernel
theorem dX12_remembers_83 : decode cX12_remembers 83 = .ok (.iaload, 1) := by decide +kernel
theorem dX12_remembers_84 : decode cX12_remembers 84 = .ok (.iastore, 1) := by decide +kernel
theorem dX12_remembers_85 : decode cX12_remembers 85 = .ok (.iinc 1 1, 3) := by decide +kernel
theorem dX12_remembers_88 : decode cX12_remembers 88 = .ok (.goto (-33), 3) := by decide +kernel
theorem dX12_remembers_91 : decode cX12_remembers 91 = .ok (.return_, 1) := by decide +kernel
theorem dX12_undo_0 : decode cX12_undo 0 = .ok (.aload_n 0, 1) := by decide +kernel
theorem dX12_undo_1 : decode cX12_undo 1 = .ok (.iconst 0, 1) := by decide +kernel
theorem dX12_undo_2 : decode cX12_undo 2 = .ok (.putfield 3, 3) := by decide +kernel
theorem dX12_undo_5 : decode cX12_undo 5 = .ok (.aload_n 0, 1) := by decide +kernel
theorem dX12_undo_6 : decode cX12_undo 6 = .ok (.getfield 52, 3) := by decide +kernel
theorem dX12_undo_9 : decode cX12_undo 9 = .ok (.ifCond .ne 5, 3) := by decide +kernel
theorem dX12_undo_12 : decode cX12_undo 12 = .ok (.iconst 0, 1) := by decide +kernel
theorem dX12_undo_13 : decode cX12_undo 13 = .ok (.ireturn, 1) := by decide +kernel
theorem dX12_undo_14 : decode cX12_undo 14 = .ok (.aload_n 0, 1) := by decide +kernel
theorem dX12_undo_15 : decode cX12_undo 15 = .ok (.dup, 1) := by decide +kernel
theorem dX12_undo_16 : decode cX12_undo 16 = .ok (.getfield 52, 3) := by decide +kernel
theorem dX12_undo_19 : decode cX12_undo 19 = .ok (.iconst 1, 1) := by decide +kernel
theorem dX12_undo_20 : decode cX12_undo 20 = .ok (.isub, 1) := by decide +kernel
theorem dX12_undo_21 : decode cX12_undo 21 = .ok (.putfield 52, 3) := by decide +kernel
theorem dX12_undo_24 : decode cX12_undo 24 = .ok (.iconst 0, 1) := by decide +kernel
theorem dX12_undo_25 : decode cX12_undo 25 = .ok (.istore_n 1, 1) := by decide +kernel
theorem dX12_undo_26 : decode cX12_undo 26 = .ok (.iload_n 1, 1) := by decide +kernel
theorem dX12_undo_27 : decode cX12_undo 27 = .ok (.sipush 382, 3) := by decide +kernel
theorem dX12_undo_30 : decode cX12_undo 30 = .ok (.if_icmp .ge 30, 3) := by decide +kernel
theorem dX12_undo_33 : decode cX12_undo 33 = .ok (.aload_n 0, 1) := by decide +kernel
theorem dX12_undo_34 : decode cX12_undo 34 = .ok (.getfield 13, 3) := by decide +kernel
theorem dX12_undo_37 : decode cX12_undo 37 = .ok (.iload_n 1, 1) := by decide +kernel
theorem dX12_undo_38 : decode cX12_undo 38 = .ok (.aload_n 0, 1) := by decide +kernel
theorem dX12_undo_39 : decode cX12_undo 39 = .ok (.getfield 26, 3) := by decide +kernel
theorem dX12_undo_42 : decode cX12_undo 42 = .ok (.sipush 382, 3) := by decide +kernel
theorem dX12_undo_45 : decode cX12_undo 45 = .ok (.aload_n 0, 1) := by decide +kernel
theorem dX12_undo_46 : decode cX12_undo 46 = .ok (.getfield 52, 3) := by decide +kernel
theorem dX12_undo_49 : decode cX12_undo 49 = .ok (.imul, 1) := by decide +kernel
theorem dX12_undo_50 : decode cX12_undo 50 = .ok (.iload_n 1, 1) := by decide +kernel
theorem dX12_undo_51 : decode cX12_undo 51 = .ok (.iadd, 1) := by decide +kernel
theorem dX12_undo_52 : decode cX12_undo 52 = .ok (.iaload, 1) := by decide +kernel
theorem dX12_undo_53 : decode cX12_undo 53 = .ok (.iastore, 1) := by decide +kernel
theorem dX12_undo_54 : decode cX12_undo 54 = .ok (.iinc 1 1, 3) := by decide +kernel
theorem dX12_undo_57 : decode cX12_undo 57 = .ok (.goto (-31), 3) := by decide +kernel
theorem dX12_undo_60 : decode cX12_undo 60 = .ok (.iconst 1, 1) := by decide +kernel
theorem dX12_undo_61 : decode cX12_undo 61 = .ok (.ireturn, 1) := by decide +kernel
theorem dX12_planks_0 : decode cX12_planks 0 = .ok (.aload_n 0, 1) := by decide +kernel
theorem dX12_planks_1 : decode cX12_planks 1 = .ok (.getfield 13, 3) := by decide +kernel
theorem dX12_planks_4 : decode cX12_planks 4 = .ok (.iconst 0, 1) := by decide +kernel
theorem dX12_planks_5 : decode cX12_planks 5 = .ok (.iaload, 1) := by decide +kernel
theorem dX12_planks_6 : decode cX12_planks 6 = .ok (.ireturn, 1) := by decide +kernel
set_option maxRecDepth 20000 in
theorem ggX12_houses_X12_planks : GoodIn wsX12_houses wsX12_planks := goodIn_r _ [5, 6, 7, 8, 9, 10, 11, 12, 13, 14, 15, 16, 17, 18, 19, 20, 21, 22, 23, 24, 25, 26] (by decide +kernel) (by decide +kernel)
set_option maxRecDepth 20000 in
theorem gX12_houses_X12_planks : GoodIn wsX12_houses (wsV RX12 55 RX12 yX12_planks wsX12_planks) := goodIn_app (goodIn_of _ (by decide +kernel)) ggX12_houses_X12_planks
theorem dX12_houses_0 : decode cX12_houses 0 = .ok (.iconst 2, 1) := by decide +kernel
theorem dX12_houses_1 : decode cX12_houses 1 = .ok (.aload_n 0, 1) := by decide +kernel
theorem dX12_houses_2 : decode cX12_houses 2 = .ok (.invokevirtual 55, 3) := by decide +kernel
theorem dX12_houses_5 : decode cX12_houses 5 = .ok (.imul, 1) := by decide +kernel
theorem dX12_houses_6 : decode cX12_houses 6 = .ok (.ireturn, 1) := by decide +kernel
theorem dX12_things_0 : decode cX12_things 0 = .ok (.aload_n 0, 1) := by decide +kernel
theorem dX12_things_1 : decode cX12_things 1 = .ok (.getfield 13, 3) := by decide +kernel
theorem dX12_things_4 : decode cX12_things 4 = .ok (.iconst 1, 1) := by decide +kernel
theorem dX12_things_5 : decode cX12_things 5 = .ok (.iaload, 1) := by decide +kernel
theorem dX12_things_6 : decode cX12_things 6 = .ok (.ireturn, 1) := by decide +kernel
theorem dX12_plankAt_0 : decode cX12_plankAt 0 = .ok (.bipush 12, 2) := by decide +kernel
theorem dX12_plankAt_2 : decode cX12_plankAt 2 = .ok (.iconst 4, 1) := by decide +kernel
theorem dX12_plankAt_3 : decode cX12_plankAt 3 = .ok (.iload_n 0, 1) := by decide +kernel
theorem dX12_plankAt_4 : decode cX12_plankAt 4 = .ok (.imul, 1) := by decide +kernel
theorem dX12_plankAt_5 : decode cX12_plankAt 5 = .ok (.iadd, 1) := by decide +kernel
theorem dX12_plankAt_6 : decode cX12_plankAt 6 = .ok (.iload_n 1, 1) := by decide +kernel
theorem dX12_plankAt_7 : decode cX12_plankAt 7 = .ok (.iadd, 1) := by decide +kernel
theorem dX12_plankAt_8 : decode cX12_plankAt 8 = .ok (.ireturn, 1) := by decide +kernel
set_option maxRecDepth 20000 in
theorem ggX12_ofPlank_X12_plankAt : GoodIn wsX12_ofPlank wsX12_plankAt := goodIn_r _ [5] (by decide +kernel) (by decide +kernel)
set_option maxRecDepth 20000 in
theorem gX12_ofPlank_X12_plankAt : GoodIn wsX12_ofPlank (va_wsS RX12 59 yX12_plankAt wsX12_plankAt) := goodIn_app (goodIn_of _ (by decide +kernel)) ggX12_ofPlank_X12_plankAt
theorem dX12_ofPlank_0 : decode cX12_ofPlank 0 = .ok (.aload_n 0, 1) := by decide +kernel
theorem dX12_ofPlank_1 : decode cX12_ofPlank 1 = .ok (.getfield 13, 3) := by decide +kernel
theorem dX12_ofPlank_4 : decode cX12_ofPlank 4 = .ok (.iload_n 1, 1) := by decide +kernel
theorem dX12_ofPlank_5 : decode cX12_ofPlank 5 = .ok (.iload_n 2, 1) := by decide +kernel
theorem dX12_ofPlank_6 : decode cX12_ofPlank 6 = .ok (.invokestatic 59, 3) := by decide +kernel
theorem dX12_ofPlank_9 : decode cX12_ofPlank 9 = .ok (.iaload, 1) := by decide +kernel
theorem dX12_ofPlank_10 : decode cX12_ofPlank 10 = .ok (.ireturn, 1) := by decide +kernel
set_option maxRecDepth 20000 in
theorem ggX12_isBroken_X12_ofPlank : GoodIn wsX12_isBroken wsX12_ofPlank := goodIn_r _ [5, 6, 7, 8, 4, 9, 10, 11, 12, 13, 14, 15, 16, 17, 18, 19, 20, 21, 22, 23, 24, 25, 26, 27, 28, 29] (by decide +kernel) (by decide +kernel)
set_option maxRecDepth 20000 in
theorem gX12_isBroken_X12_ofPlank : GoodIn wsX12_isBroken (wsV RX12 63 RX12 yX12_ofPlank wsX12_ofPlank) := goodIn_app (goodIn_of _ (by decide +kernel)) ggX12_isBroken_X12_ofPlank
theorem dX12_isBroken_0 : decode cX12_isBroken 0 = .ok (.aload_n 0, 1) := by decide +kernel
theorem dX12_isBroken_1 : decode cX12_isBroken 1 = .ok (.iload_n 1, 1) := by decide +kernel
theorem dX12_isBroken_2 : decode cX12_isBroken 2 = .ok (.iconst 3, 1) := by decide +kernel
theorem dX12_isBroken_3 : decode cX12_isBroken 3 = .ok (.invokevirtual 63, 3) := by decide +kernel
theorem dX12_isBroken_6 : decode cX12_isBroken 6 = .ok (.iconst 1, 1) := by decide +kernel
theorem dX12_isBroken_7 : decode cX12_isBroken 7 = .ok (.if_icmp .ne 7, 3) := by decide +kernel
theorem dX12_isBroken_10 : decode cX12_isBroken 10 = .ok (.iconst 1, 1) := by decide +kernel
theorem dX12_isBroken_11 : decode cX12_isBroken 11 = .ok (.goto 4, 3) := by decide +kernel
theorem dX12_isBroken_14 : decode cX12_isBroken 14 = .ok (.iconst 0, 1) := by decide +kernel
theorem dX12_isBroken_15 : decode cX12_isBroken 15 = .ok (.ireturn, 1) := by decide +kernel
set_option maxRecDepth 20000 in
theorem ggX12_isPropped_X12_ofPlank : GoodIn wsX12_isPropped wsX12_ofPlank := goodIn_r _ [5, 6, 7, 8, 4, 9, 10, 11, 12, 13, 14, 15, 16, 17, 18, 19, 20, 21, 22, 23, 24, 25, 26, 27, 28, 29] (by decide +kernel) (by decide +kernel)
set_option maxRecDepth 20000 in
theorem gX12_isPropped_X12_ofPlank : GoodIn wsX12_isPropped (wsV RX12 63 RX12 yX12_ofPlank wsX12_ofPlank) := goodIn_app (goodIn_of _ (by decide +kernel)) ggX12_isPropped_X12_ofPlank
theorem dX12_isPropped_0 : decode cX12_isPropped 0 = .ok (.aload_n 0, 1) := by decide +kernel
theorem dX12_isPropped_1 : decode cX12_isPropped 1 = .ok (.iload_n 1, 1) := by decide +kernel
theorem dX12_isPropped_2 : decode cX12_isPropped 2 = .ok (.iconst 2, 1) := by decide +kernel
theorem dX12_isPropped_3 : decode cX12_isPropped 3 = .ok (.invokevirtual 63, 3) := by decide +kernel
theorem dX12_isPropped_6 : decode cX12_isPropped 6 = .ok (.iconst 1, 1) := by decide +kernel
theorem dX12_isPropped_7 : decode cX12_isPropped 7 = .ok (.if_icmp .ne 7, 3) := by decide +kernel
theorem dX12_isPropped_10 : decode cX12_isPropped 10 = .ok (.iconst 1, 1) := by decide +kernel
theorem dX12_isPropped_11 : decode cX12_isPropped 11 = .ok (.goto 4, 3) := by decide +kernel
theorem dX12_isPropped_14 : decode cX12_isPropped 14 = .ok (.iconst 0, 1) := by decide +kernel
theorem dX12_isPropped_15 : decode cX12_isPropped 15 = .ok (.ireturn, 1) := by decide +kernel
theorem dX12_houseAt_0 : decode cX12_houseAt 0 = .ok (.bipush 32, 2) := by decide +kernel
theorem dX12_houseAt_2 : decode cX12_houseAt 2 = .ok (.iconst 2, 1) := by decide +kernel
theorem dX12_houseAt_3 : decode cX12_houseAt 3 = .ok (.iload_n 0, 1) := by decide +kernel
theorem dX12_houseAt_4 : decode cX12_houseAt 4 = .ok (.imul, 1) := by decide +kernel
theorem dX12_houseAt_5 : decode cX12_houseAt 5 = .ok (.iadd, 1) := by decide +kernel
theorem dX12_houseAt_6 : decode cX12_houseAt 6 = .ok (.iload_n 1, 1) := by decide +kernel
theorem dX12_houseAt_7 : decode cX12_houseAt 7 = .ok (.iadd, 1) := by decide +kernel
theorem dX12_houseAt_8 : decode cX12_houseAt 8 = .ok (.ireturn, 1) := by decide +kernel
set_option maxRecDepth 20000 in
theorem ggX12_of_X12_houseAt : GoodIn wsX12_of wsX12_houseAt := goodIn_r _ [5] (by decide +kernel) (by decide +kernel)
set_option maxRecDepth 20000 in
theorem gX12_of_X12_houseAt : GoodIn wsX12_of (va_wsS RX12 66 yX12_houseAt wsX12_houseAt) := goodIn_app (goodIn_of _ (by decide +kernel)) ggX12_of_X12_houseAt
theorem dX12_of_0 : decode cX12_of 0 = .ok (.aload_n 0, 1) := by decide +kernel
theorem dX12_of_1 : decode cX12_of 1 = .ok (.getfield 13, 3) := by decide +kernel
theorem dX12_of_4 : decode cX12_of 4 = .ok (.iload_n 1, 1) := by decide +kernel
theorem dX12_of_5 : decode cX12_of 5 = .ok (.iload_n 2, 1) := by decide +kernel
theorem dX12_of_6 : decode cX12_of 6 = .ok (.invokestatic 66, 3) := by decide +kernel
theorem dX12_of_9 : decode cX12_of 9 = .ok (.iaload, 1) := by decide +kernel
theorem dX12_of_10 : decode cX12_of 10 = .ok (.ireturn, 1) := by decide +kernel
theorem dX12_thingAt_0 : decode cX12_thingAt 0 = .ok (.bipush 52, 2) := by decide +kernel
theorem dX12_thingAt_2 : decode cX12_thingAt 2 = .ok (.iconst 3, 1) := by decide +kernel
theorem dX12_thingAt_3 : decode cX12_thingAt 3 = .ok (.iload_n 0, 1) := by decide +kernel
theorem dX12_thingAt_4 : decode cX12_thingAt 4 = .ok (.imul, 1) := by decide +kernel
theorem dX12_thingAt_5 : decode cX12_thingAt 5 = .ok (.iadd, 1) := by decide +kernel
theorem dX12_thingAt_6 : decode cX12_thingAt 6 = .ok (.iload_n 1, 1) := by decide +kernel
theorem dX12_thingAt_7 : decode cX12_thingAt 7 = .ok (.iadd, 1) := by decide +kernel
theorem dX12_thingAt_8 : decode cX12_thingAt 8 = .ok (.ireturn, 1) := by decide +kernel
set_option maxRecDepth 20000 in
theorem ggX12_ofThing_X12_thingAt : GoodIn wsX12_ofThing wsX12_thingAt := goodIn_r _ [5] (by decide +kernel) (by decide +kernel)
set_option maxRecDepth 20000 in
theorem gX12_ofThing_X12_thingAt : GoodIn wsX12_ofThing (va_wsS RX12 69 yX12_thingAt wsX12_thingAt) := goodIn_app (goodIn_of _ (by decide +kernel)) ggX12_ofThing_X12_thingAt
theorem dX12_ofThing_0 : decode cX12_ofThing 0 = .ok (.aload_n 0, 1) := by decide +kernel
theorem dX12_ofThing_1 : decode cX12_ofThing 1 = .ok (.getfield 13, 3) := by decide +kernel
theorem dX12_ofThing_4 : decode cX12_ofThing 4 = .ok (.iload_n 1, 1) := by decide +kernel
theorem dX12_ofThing_5 : decode cX12_ofThing 5 = .ok (.iload_n 2, 1) := by decide +kernel
theorem dX12_ofThing_6 : decode cX12_ofThing 6 = .ok (.invokestatic 69, 3) := by decide +kernel
theorem dX12_ofThing_9 : decode cX12_ofThing 9 = .ok (.iaload, 1) := by decide +kernel
theorem dX12_ofThing_10 : decode cX12_ofThing 10 = .ok (.ireturn, 1) := by decide +kernel
set_option maxRecDepth 20000 in
theorem ggX12_isGone_X12_ofThing : GoodIn wsX12_isGone wsX12_ofThing := goodIn_r _ [5, 6, 7, 8, 4, 9, 10, 11, 12, 13, 14, 15, 16, 17, 18, 19, 20, 21, 22, 23, 24, 25, 26, 27, 28, 29] (by decide +kernel) (by decide +kernel)
set_option maxRecDepth 20000 in
theorem gX12_isGone_X12_ofThing : GoodIn wsX12_isGone (wsV RX12 72 RX12 yX12_ofThing wsX12_ofThing) := goodIn_app (goodIn_of _ (by decide +kernel)) ggX12_isGone_X12_ofThing
theorem dX12_isGone_0 : decode cX12_isGone 0 = .ok (.aload_n 0, 1) := by decide +kernel
theorem dX12_isGone_1 : decode cX12_isGone 1 = .ok (.iload_n 1, 1) := by decide +kernel
theorem dX12_isGone_2 : decode cX12_isGone 2 = .ok (.iconst 2, 1) := by decide +kernel
theorem dX12_isGone_3 : decode cX12_isGone 3 = .ok (.invokevirtual 72, 3) := by decide +kernel
theorem dX12_isGone_6 : decode cX12_isGone 6 = .ok (.iconst (-1), 1) := by decide +kernel
theorem dX12_isGone_7 : decode cX12_isGone 7 = .ok (.if_icmp .ne 7, 3) := by decide +kernel
theorem dX12_isGone_10 : decode cX12_isGone 10 = .ok (.iconst 1, 1) := by decide +kernel
theorem dX12_isGone_11 : decode cX12_isGone 11 = .ok (.goto 4, 3) := by decide +kernel
theorem dX12_isGone_14 : decode cX12_isGone 14 = .ok (.iconst 0, 1) := by decide +kernel
theorem dX12_isGone_15 : decode cX12_isGone 15 = .ok (.ireturn, 1) := by decide +kernel
set_option maxRecDepth 20000 in
theorem ggX12_noPlank_X12_planks : GoodIn wsX12_noPlank wsX12_planks := goodIn_r _ [5, 6, 10, 11, 12, 13, 14, 15, 16, 17, 18, 19, 20, 21, 22, 23, 24, 25, 26, 27, 28, 29] (by decide +kernel) (by decide +kernel)
set_option maxRecDepth 20000 in
theorem gX12_noPlank_X12_planks : GoodIn wsX12_noPlank (wsV RX12 55 RX12 yX12_planks wsX12_planks) := goodIn_app (goodIn_of _ (by decide +kernel)) ggX12_noPlank_X12_planks
set_option maxRecDepth 20000 in
theorem ggX12_noPlank_X12_in : GoodIn wsX12_noPlank wsX12_in := goodIn_r _ [9] (by decide +kernel) (by decide +kernel)
set_option maxRecDepth 20000 in
theorem gX12_noPlank_X12_in : GoodIn wsX12_noPlank (va_wsS RX12 75 yX12_in wsX12_in) := goodIn_app (goodIn_of _ (by decide +kernel)) ggX12_noPlank_X12_in
theorem dX12_noPlank_0 : decode cX12_noPlank 0 = .ok (.iload_n 1, 1) := by decide +kernel
theorem dX12_noPlank_1 : decode cX12_noPlank 1 = .ok (.iconst 0, 1) := by decide +kernel
theorem dX12_noPlank_2 : decode cX12_noPlank 2 = .ok (.aload_n 0, 1) := by decide +kernel
theorem dX12_noPlank_3 : decode cX12_noPlank 3 = .ok (.invokevirtual 55, 3) := by decide +kernel
theorem dX12_noPlank_6 : decode cX12_noPlank 6 = .ok (.iconst 1, 1) := by decide +kernel
theorem dX12_noPlank_7 : decode cX12_noPlank 7 = .ok (.isub, 1) := by decide +kernel
theorem dX12_noPlank_8 : decode cX12_noPlank 8 = .ok (.invokestatic 75, 3) := by decide +kernel
theorem dX12_noPlank_11 : decode cX12_noPlank 11 = .ok (.ifCond .ne 7, 3) := by decide +kernel
theorem dX12_noPlank_14 : decode cX12_noPlank 14 = .ok (.iconst 1, 1) := by decide +kernel
theorem dX12_noPlank_15 : decode cX12_noPlank 15 = .ok (.goto 4, 3) := by decide +kernel
theorem dX12_noPlank_18 : decode cX12_noPlank 18 = .ok (.iconst 0, 1) := by decide +kernel
theorem dX12_noPlank_19 : decode cX12_noPlank 19 = .ok (.ireturn, 1) := by decide +kernel
set_option maxRecDepth 20000 in
theorem ggX12_noHouse_X12_houses : GoodIn wsX12_noHouse wsX12_houses := goodIn_r _ [5, 6, 7, 8, 4, 9, 10, 14, 15, 16, 17, 18, 19, 20, 21, 22, 23, 24, 25, 26, 27, 28, 29, 30, 31, 32, 33] (by decide +kernel) (by decide +kernel)
set_option maxRecDepth 20000 in
theorem gX12_noHouse_X12_houses : GoodIn wsX12_noHouse (wsV RX12 79 RX12 yX12_houses wsX12_houses) := goodIn_app (goodIn_of _ (by decide +kernel)) ggX12_noHouse_X12_houses
set_option maxRecDepth 20000 in
theorem ggX12_noHouse_X12_in : GoodIn wsX12_noHouse wsX12_in := goodIn_r _ [13] (by decide +kernel) (by decide +kernel)
set_option maxRecDepth 20000 in
theorem gX12_noHouse_X12_in : GoodIn wsX12_noHouse (va_wsS RX12 75 yX12_in wsX12_in) := goodIn_app (goodIn_of _ (by decide +kernel)) ggX12_noHouse_X12_in
theorem dX12_noHouse_0 : decode cX12_noHouse 0 = .ok (.iload_n 1, 1) := by decide +kernel
theorem dX12_noHouse_1 : decode cX12_noHouse 1 = .ok (.iconst 0, 1) := by decide +kernel
theorem dX12_noHouse_2 : decode cX12_noHouse 2 = .ok (.aload_n 0, 1) := by decide +kernel
theorem dX12_noHouse_3 : decode cX12_noHouse 3 = .ok (.invokevirtual 79, 3) := by decide +kernel
theorem dX12_noHouse_6 : decode cX12_noHouse 6 = .ok (.iconst 1, 1) := by decide +kernel
theorem dX12_noHouse_7 : decode cX12_noHouse 7 = .ok (.isub, 1) := by decide +kernel
theorem dX12_noHouse_8 : decode cX12_noHouse 8 = .ok (.invokestatic 75, 3) := by decide +kernel
theorem dX12_noHouse_11 : decode cX12_noHouse 11 = .ok (.ifCond .ne 7, 3) := by decide +kernel
theorem dX12_noHouse_14 : decode cX12_noHouse 14 = .ok (.iconst 1, 1) := by decide +kernel
theorem dX12_noHouse_15 : decode cX12_noHouse 15 = .ok (.goto 4, 3) := by decide +kernel
theorem dX12_noHouse_18 : decode cX12_noHouse 18 = .ok (.iconst 0, 1) := by decide +kernel
theorem dX12_noHouse_19 : decode cX12_noHouse 19 = .ok (.ireturn, 1) := by decide +kernel
set_option maxRecDepth 20000 in
theorem ggX12_noThing_X12_things : GoodIn wsX12_noThing wsX12_things := goodIn_r _ [5, 6, 10, 11, 12, 13, 14, 15, 16, 17, 18, 19, 20, 21, 22, 23, 24, 25, 26, 27, 28, 29] (by decide +kernel) (by decide +kernel)
set_option maxRecDepth 20000 in
theorem gX12_noThing_X12_things : GoodIn wsX12_noThing (wsV RX12 82 RX12 yX12_things wsX12_things) := goodIn_app (goodIn_of _ (by decide +kernel)) ggX12_noThing_X12_things
set_option maxRecDepth 20000 in
theorem ggX12_noThing_X12_in : GoodIn wsX12_noThing wsX12_in := goodIn_r _ [9] (by decide +kernel) (by decide +kernel)
set_option maxRecDepth 20000 in
theorem gX12_noThing_X12_in : GoodIn wsX12_noThing (va_wsS RX12 75 yX12_in wsX12_in) := goodIn_app (goodIn_of _ (by decide +kernel)) ggX12_noThing_X12_in
theorem dX12_noThing_0 : decode cX12_noThing 0 = .ok (.iload_n 1, 1) := by decide +kernel
theorem dX12_noThing_1 : decode cX12_noThing 1 = .ok (.iconst 0, 1) := by decide +kernel
theorem dX12_noThing_2 : decode cX12_noThing 2 = .ok (.aload_n 0, 1) := by decide +kernel
theorem dX12_noThing_3 : decode cX12_noThing 3 = .ok (.invokevirtual 82, 3) := by decide +kernel
theorem dX12_noThing_6 : decode cX12_noThing 6 = .ok (.iconst 1, 1) := by decide +kernel
theorem dX12_noThing_7 : decode cX12_noThing 7 = .ok (.isub, 1) := by decide +kernel
theorem dX12_noThing_8 : decode cX12_noThing 8 = .ok (.invokestatic 75, 3) := by decide +kernel
theorem dX12_noThing_11 : decode cX12_noThing 11 = .ok (.ifCond .ne 7, 3) := by decide +kernel
theorem dX12_noThing_14 : decode cX12_noThing 14 = .ok (.iconst 1, 1) := by decide +kernel
theorem dX12_noThing_15 : decode cX12_noThing 15 = .ok (.goto 4, 3) := by decide +kernel
theorem dX12_noThing_18 : decode cX12_noThing 18 = .ok (.iconst 0, 1) := by decide +kernel
theorem dX12_noThing_19 : decode cX12_noThing 19 = .ok (.ireturn, 1) := by decide +kernel
theorem dX12_drawn_0 : decode cX12_drawn 0 = .ok (.aload_n 0, 1) := by decide +kernel
theorem dX12_drawn_1 : decode cX12_drawn 1 = .ok (.getfield 13, 3) := by decide +kernel
theorem dX12_drawn_4 : decode cX12_drawn 4 = .ok (.bipush 11, 2) := by decide +kernel
theorem dX12_drawn_6 : decode cX12_drawn 6 = .ok (.ldc 85, 2) := by decide +kernel
theorem dX12_drawn_8 : decode cX12_drawn 8 = .ok (.aload_n 0, 1) := by decide +kernel
theorem dX12_drawn_9 : decode cX12_drawn 9 = .ok (.getfield 13, 3) := by decide +kernel
theorem dX12_drawn_12 : decode cX12_drawn 12 = .ok (.bipush 11, 2) := by decide +kernel
theorem dX12_drawn_14 : decode cX12_drawn 14 = .ok (.iaload, 1) := by decide +kernel
theorem dX12_drawn_15 : decode cX12_drawn 15 = .ok (.imul, 1) := by decide +kernel
theorem dX12_drawn_16 : decode cX12_drawn 16 = .ok (.sipush 12345, 3) := by decide +kernel
theorem dX12_drawn_19 : decode cX12_drawn 19 = .ok (.iadd, 1) := by decide +kernel
theorem dX12_drawn_20 : decode cX12_drawn 20 = .ok (.iastore, 1) := by decide +kernel
theorem dX12_drawn_21 : decode cX12_drawn 21 = .ok (.aload_n 0, 1) := by decide +kernel
theorem dX12_drawn_22 : decode cX12_drawn 22 = .ok (.getfield 13, 3) := by decide +kernel
theorem dX12_drawn_25 : decode cX12_drawn 25 = .ok (.bipush 11, 2) := by decide +kernel
theorem dX12_drawn_27 : decode cX12_drawn 27 = .ok (.iaload, 1) := by decide +kernel
theorem dX12_drawn_28 : decode cX12_drawn 28 = .ok (.bipush 16, 2) := by decide +kernel
theorem dX12_drawn_30 : decode cX12_drawn 30 = .ok (.ishr, 1) := by decide +kernel
theorem dX12_drawn_31 : decode cX12_drawn 31 = .ok (.sipush 32767, 3) := by decide +kernel
theorem dX12_drawn_34 : decode cX12_drawn 34 = .ok (.iand, 1) := by decide +kernel
theorem dX12_drawn_35 : decode cX12_drawn 35 = .ok (.iload_n 1, 1) := by decide +kernel
theorem dX12_drawn_36 : decode cX12_drawn 36 = .ok (.irem, 1) := by decide +kernel
theorem dX12_drawn_37 : decode cX12_drawn 37 = .ok (.ireturn, 1) := by decide +kernel
theorem dX12_feed_0 : decode cX12_feed 0 = .ok (.aload_n 0, 1) := by decide +kernel
theorem dX12_feed_1 : decode cX12_feed 1 = .ok (.iconst 0, 1) := by decide +kernel
theorem dX12_feed_2 : decode cX12_feed 2 = .ok (.putfield 3, 3) := by decide +kernel
theorem dX12_feed_5 : decode cX12_feed 5 = .ok (.aload_n 0, 1) := by decide +kernel
theorem dX12_feed_6 : decode cX12_feed 6 = .ok (.getfield 86, 3) := by decide +kernel
theorem dX12_feed_9 : decode cX12_feed 9 = .ok (.bipush 20, 2) := by decide +kernel
theorem dX12_feed_11 : decode cX12_feed 11 = .ok (.iadd, 1) := by decide +kernel
theorem dX12_feed_12 : decode cX12_feed 12 = .ok (.sipush 400, 3) := by decide +kernel
theorem dX12_feed_15 : decode cX12_feed 15 = .ok (.if_icmp .le 5, 3) := by decide +kernel
theorem dX12_feed_18 : decode cX12_feed 18 = .ok (.iconst (-1), 1) := by decide +kernel
theorem dX12_feed_19 : decode cX12_feed 19 = .ok (.ireturn, 1) := by decide +kernel
theorem dX12_feed_20 : decode cX12_feed 20 = .ok (.aload_n 0, 1) := by decide +kernel
theorem dX12_feed_21 : decode cX12_feed 21 = .ok (.getfield 36, 3) := by decide +kernel
theorem dX12_feed_24 : decode cX12_feed 24 = .ok (.iconst 0, 1) := by decide +kernel
theorem dX12_feed_25 : decode cX12_feed 25 = .ok (.iload_n 1, 1) := by decide +kernel
theorem dX12_feed_26 : decode cX12_feed 26 = .ok (.iastore, 1) := by decide +kernel
theorem dX12_feed_27 : decode cX12_feed 27 = .ok (.aload_n 0, 1) := by decide +kernel
theorem dX12_feed_28 : decode cX12_feed 28 = .ok (.getfield 36, 3) := by decide +kernel
theorem dX12_feed_31 : decode cX12_feed 31 = .ok (.iconst 1, 1) := by decide +kernel
theorem dX12_feed_32 : decode cX12_feed 32 = .ok (.iload_n 2, 1) := by decide +kernel
theorem dX12_feed_33 : decode cX12_feed 33 = .ok (.iastore, 1) := by decide +kernel
theorem dX12_feed_34 : decode cX12_feed 34 = .ok (.aload_n 0, 1) := by decide +kernel
theorem dX12_feed_35 : decode cX12_feed 35 = .ok (.getfield 36, 3) := by decide +kernel
theorem dX12_feed_38 : decode cX12_feed 38 = .ok (.iconst 2, 1) := by decide +kernel
theorem dX12_feed_39 : decode cX12_feed 39 = .ok (.iload_n 3, 1) := by decide +kernel
theorem dX12_feed_40 : decode cX12_feed 40 = .ok (.iastore, 1) := by decide +kernel
theorem dX12_feed_41 : decode cX12_feed 41 = .ok (.aload_n 0, 1) := by decide +kernel
theorem dX12_feed_42 : decode cX12_feed 42 = .ok (.getfield 36, 3) := by decide +kernel
theorem dX12_feed_45 : decode cX12_feed 45 = .ok (.iconst 3, 1) := by decide +kernel
theorem dX12_feed_46 : decode cX12_feed 46 = .ok (.iload 4, 2) := by decide +kernel
theorem dX12_feed_48 : decode cX12_feed 48 = .ok (.iastore, 1) := by decide +kernel
theorem dX12_feed_49 : decode cX12_feed 49 = .ok (.aload_n 0, 1) := by decide +kernel
theorem dX12_feed_50 : decode cX12_feed 50 = .ok (.getfield 36, 3) := by decide +kernel
theorem dX12_feed_53 : decode cX12_feed 53 = .ok (.iconst 4, 1) := by decide +kernel
theorem dX12_feed_54 : decode cX12_feed 54 = .ok (.iload 5, 2) := by decide +kernel
theorem dX12_feed_56 : decode cX12_feed 56 = .ok (.iastore, 1) := by decide +kernel
theorem dX12_feed_57 : decode cX12_feed 57 = .ok (.iconst 0, 1) := by decide +kernel
theorem dX12_feed_58 : decode cX12_feed 58 = .ok (.istore 6, 2) := by decide +kernel
theorem dX12_feed_60 : decode cX12_feed 60 = .ok (.iload 6, 2) := by decide +kernel
theorem dX12_feed_62 : decode cX12_feed 62 = .ok (.bipush 20, 2) := by decide +kernel
theorem dX12_feed_64 : decode cX12_feed 64 = .ok (.if_icmp .ge 42, 3) := by decide +kernel
theorem dX12_feed_67 : decode cX12_feed 67 = .ok (.aload_n 0, 1) := by decide +kernel
theorem dX12_feed_68 : decode cX12_feed 68 = .ok (.getfield 29, 3) := by decide +kernel
theorem dX12_feed_71 : decode cX12_feed 71 = .ok (.aload_n 0, 1) := by decide +kernel
theorem dX12_feed_72 : decode cX12_feed 72 = .ok (.getfield 86, 3) := by decide +kernel
theorem dX12_feed_75 : decode cX12_feed 75 = .ok (.iload 6, 2) := by decide +kernel
theorem dX12_feed_77 : decode cX12_feed 77 = .ok (.iadd, 1) := by decide +kernel
theorem dX12_feed_78 : decode cX12_feed 78 = .ok (.aload_n 0, 1) := by decide +kernel
theorem dX12_feed_79 : decode cX12_feed 79 = .ok (.getfield 36, 3) := by decide +kernel
