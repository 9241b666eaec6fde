theorem dX4_readOfHouse_31 : decode cX4_readOfHouse 31 = .ok (.ireturn, 1) := by decide +kernel
theorem dX4_readOfHouse_32 : decode cX4_readOfHouse 32 = .ok (.aload_n 0, 1) := by decide +kernel
theorem dX4_readOfHouse_33 : decode cX4_readOfHouse 33 = .ok (.iconst 0, 1) := by decide +kernel
theorem dX4_readOfHouse_34 : decode cX4_readOfHouse 34 = .ok (.iload_n 1, 1) := by decide +kernel
theorem dX4_readOfHouse_35 : decode cX4_readOfHouse 35 = .ok (.sipush 301, 3) := by decide +kernel
theorem dX4_readOfHouse_38 : decode cX4_readOfHouse 38 = .ok (.if_icmp .ne 9, 3) := by decide +kernel
theorem dX4_readOfHouse_41 : decode cX4_readOfHouse 41 = .ok (.sipush 999, 3) := by decide +kernel
theorem dX4_readOfHouse_44 : decode cX4_readOfHouse 44 = .ok (.goto 5, 3) := by decide +kernel
theorem dX4_readOfHouse_47 : decode cX4_readOfHouse 47 = .ok (.bipush 9, 2) := by decide +kernel
theorem dX4_readOfHouse_49 : decode cX4_readOfHouse 49 = .ok (.invokevirtual 48, 3) := by decide +kernel
theorem dX4_readOfHouse_52 : decode cX4_readOfHouse 52 = .ok (.istore_n 3, 1) := by decide +kernel
theorem dX4_readOfHouse_53 : decode cX4_readOfHouse 53 = .ok (.iload_n 3, 1) := by decide +kernel
theorem dX4_readOfHouse_54 : decode cX4_readOfHouse 54 = .ok (.iconst (-1), 1) := by decide +kernel
theorem dX4_readOfHouse_55 : decode cX4_readOfHouse 55 = .ok (.if_icmp .ne 5, 3) := by decide +kernel
theorem dX4_readOfHouse_58 : decode cX4_readOfHouse 58 = .ok (.iconst 0, 1) := by decide +kernel
theorem dX4_readOfHouse_59 : decode cX4_readOfHouse 59 = .ok (.ireturn, 1) := by decide +kernel
theorem dX4_readOfHouse_60 : decode cX4_readOfHouse 60 = .ok (.iload_n 1, 1) := by decide +kernel
theorem dX4_readOfHouse_61 : decode cX4_readOfHouse 61 = .ok (.sipush 301, 3) := by decide +kernel
theorem dX4_readOfHouse_64 : decode cX4_readOfHouse 64 = .ok (.if_icmp .ne 16, 3) := by decide +kernel
theorem dX4_readOfHouse_67 : decode cX4_readOfHouse 67 = .ok (.aload_n 0, 1) := by decide +kernel
theorem dX4_readOfHouse_68 : decode cX4_readOfHouse 68 = .ok (.getfield 9, 3) := by decide +kernel
theorem dX4_readOfHouse_71 : decode cX4_readOfHouse 71 = .ok (.getfield 70, 3) := by decide +kernel
theorem dX4_readOfHouse_74 : decode cX4_readOfHouse 74 = .ok (.iload_n 2, 1) := by decide +kernel
theorem dX4_readOfHouse_75 : decode cX4_readOfHouse 75 = .ok (.iload_n 3, 1) := by decide +kernel
theorem dX4_readOfHouse_76 : decode cX4_readOfHouse 76 = .ok (.iastore, 1) := by decide +kernel
theorem dX4_readOfHouse_77 : decode cX4_readOfHouse 77 = .ok (.goto 13, 3) := by decide +kernel
theorem dX4_readOfHouse_80 : decode cX4_readOfHouse 80 = .ok (.aload_n 0, 1) := by decide +kernel
theorem dX4_readOfHouse_81 : decode cX4_readOfHouse 81 = .ok (.getfield 9, 3) := by decide +kernel
theorem dX4_readOfHouse_84 : decode cX4_readOfHouse 84 = .ok (.getfield 74, 3) := by decide +kernel
theorem dX4_readOfHouse_87 : decode cX4_readOfHouse 87 = .ok (.iload_n 2, 1) := by decide +kernel
theorem dX4_readOfHouse_88 : decode cX4_readOfHouse 88 = .ok (.iload_n 3, 1) := by decide +kernel
theorem dX4_readOfHouse_89 : decode cX4_readOfHouse 89 = .ok (.iastore, 1) := by decide +kernel
theorem dX4_readOfHouse_90 : decode cX4_readOfHouse 90 = .ok (.iconst 1, 1) := by decide +kernel
theorem dX4_readOfHouse_91 : decode cX4_readOfHouse 91 = .ok (.ireturn, 1) := by decide +kernel
set_option maxRecDepth 20000 in
theorem ggX4_readSetting_X4_mostOf : GoodIn wsX4_readSetting wsX4_mostOf := goodIn_r _ [12] (by decide +kernel) (by decide +kernel)
set_option maxRecDepth 20000 in
theorem gX4_readSetting_X4_mostOf : GoodIn wsX4_readSetting (va_wsS RX4 77 yX4_mostOf wsX4_mostOf) := goodIn_app (goodIn_of _ (by decide +kernel)) ggX4_readSetting_X4_mostOf
set_option maxRecDepth 20000 in
theorem ggX4_readSetting_X9_number : GoodIn wsX4_readSetting wsX9_number := goodIn_r _ [18, 19, 20, 21, 22, 23, 24, 25, 26, 27, 28, 29, 30, 31, 32, 33, 34, 35, 36, 37, 38, 39, 40, 61, 62, 63, 64] (by decide +kernel) (by decide +kernel)
set_option maxRecDepth 20000 in
theorem gX4_readSetting_X9_number_u48X4 : GoodIn wsX4_readSetting (va_wsU RX4 48 RX4 "SeeSawHill$TextReader" ⟨"SeeSawHill$HillReader", "number", "(II)I"⟩ yX9_number wsX9_number) := goodIn_app (goodIn_of _ (by decide +kernel)) ggX4_readSetting_X9_number
theorem dX4_readSetting_0 : decode cX4_readSetting 0 = .ok (.aload_n 0, 1) := by decide +kernel
theorem dX4_readSetting_1 : decode cX4_readSetting 1 = .ok (.dup, 1) := by decide +kernel
theorem dX4_readSetting_2 : decode cX4_readSetting 2 = .ok (.getfield 19, 3) := by decide +kernel
theorem dX4_readSetting_5 : decode cX4_readSetting 5 = .ok (.iconst 1, 1) := by decide +kernel
theorem dX4_readSetting_6 : decode cX4_readSetting 6 = .ok (.iadd, 1) := by decide +kernel
theorem dX4_readSetting_7 : decode cX4_readSetting 7 = .ok (.putfield 19, 3) := by decide +kernel
theorem dX4_readSetting_10 : decode cX4_readSetting 10 = .ok (.aload_n 0, 1) := by decide +kernel
theorem dX4_readSetting_11 : decode cX4_readSetting 11 = .ok (.iload_n 1, 1) := by decide +kernel
theorem dX4_readSetting_12 : decode cX4_readSetting 12 = .ok (.sipush 305, 3) := by decide +kernel
theorem dX4_readSetting_15 : decode cX4_readSetting 15 = .ok (.if_icmp .ne 7, 3) := by decide +kernel
theorem dX4_readSetting_18 : decode cX4_readSetting 18 = .ok (.iconst 1, 1) := by decide +kernel
theorem dX4_readSetting_19 : decode cX4_readSetting 19 = .ok (.goto 4, 3) := by decide +kernel
theorem dX4_readSetting_22 : decode cX4_readSetting 22 = .ok (.iconst 0, 1) := by decide +kernel
theorem dX4_readSetting_23 : decode cX4_readSetting 23 = .ok (.iload_n 1, 1) := by decide +kernel
theorem dX4_readSetting_24 : decode cX4_readSetting 24 = .ok (.invokestatic 77, 3) := by decide +kernel
theorem dX4_readSetting_27 : decode cX4_readSetting 27 = .ok (.invokevirtual 48, 3) := by decide +kernel
theorem dX4_readSetting_30 : decode cX4_readSetting 30 = .ok (.istore_n 2, 1) := by decide +kernel
theorem dX4_readSetting_31 : decode cX4_readSetting 31 = .ok (.iload_n 2, 1) := by decide +kernel
theorem dX4_readSetting_32 : decode cX4_readSetting 32 = .ok (.iconst (-1), 1) := by decide +kernel
theorem dX4_readSetting_33 : decode cX4_readSetting 33 = .ok (.if_icmp .ne 5, 3) := by decide +kernel
theorem dX4_readSetting_36 : decode cX4_readSetting 36 = .ok (.iconst 0, 1) := by decide +kernel
theorem dX4_readSetting_37 : decode cX4_readSetting 37 = .ok (.ireturn, 1) := by decide +kernel
theorem dX4_readSetting_38 : decode cX4_readSetting 38 = .ok (.iload_n 1, 1) := by decide +kernel
theorem dX4_readSetting_39 : decode cX4_readSetting 39 = .ok (.tableswitch 73 304 307 #[29, 40, 51, 62], 29) := by decide +kernel
theorem dX4_readSetting_68 : decode cX4_readSetting 68 = .ok (.aload_n 0, 1) := by decide +kernel
theorem dX4_readSetting_69 : decode cX4_readSetting 69 = .ok (.getfield 9, 3) := by decide +kernel
theorem dX4_readSetting_72 : decode cX4_readSetting 72 = .ok (.iload_n 2, 1) := by decide +kernel
theorem dX4_readSetting_73 : decode cX4_readSetting 73 = .ok (.putfield 80, 3) := by decide +kernel
theorem dX4_readSetting_76 : decode cX4_readSetting 76 = .ok (.goto 44, 3) := by decide +kernel
theorem dX4_readSetting_79 : decode cX4_readSetting 79 = .ok (.aload_n 0, 1) := by decide +kernel
theorem dX4_readSetting_80 : decode cX4_readSetting 80 = .ok (.getfield 9, 3) := by decide +kernel
theorem dX4_readSetting_83 : decode cX4_readSetting 83 = .ok (.iload_n 2, 1) := by decide +kernel
theorem dX4_readSetting_84 : decode cX4_readSetting 84 = .ok (.putfield 83, 3) := by decide +kernel
theorem dX4_readSetting_87 : decode cX4_readSetting 87 = .ok (.goto 33, 3) := by decide +kernel
theorem dX4_readSetting_90 : decode cX4_readSetting 90 = .ok (.aload_n 0, 1) := by decide +kernel
theorem dX4_readSetting_91 : decode cX4_readSetting 91 = .ok (.getfield 9, 3) := by decide +kernel
theorem dX4_readSetting_94 : decode cX4_readSetting 94 = .ok (.iload_n 2, 1) := by decide +kernel
theorem dX4_readSetting_95 : decode cX4_readSetting 95 = .ok (.putfield 86, 3) := by decide +kernel
theorem dX4_readSetting_98 : decode cX4_readSetting 98 = .ok (.goto 22, 3) := by decide +kernel
theorem dX4_readSetting_101 : decode cX4_readSetting 101 = .ok (.aload_n 0, 1) := by decide +kernel
theorem dX4_readSetting_102 : decode cX4_readSetting 102 = .ok (.getfield 9, 3) := by decide +kernel
theorem dX4_readSetting_105 : decode cX4_readSetting 105 = .ok (.iload_n 2, 1) := by decide +kernel
theorem dX4_readSetting_106 : decode cX4_readSetting 106 = .ok (.putfield 89, 3) := by decide +kernel
theorem dX4_readSetting_109 : decode cX4_readSetting 109 = .ok (.goto 11, 3) := by decide +kernel
theorem dX4_readSetting_112 : decode cX4_readSetting 112 = .ok (.aload_n 0, 1) := by decide +kernel
theorem dX4_readSetting_113 : decode cX4_readSetting 113 = .ok (.getfield 9, 3) := by decide +kernel
theorem dX4_readSetting_116 : decode cX4_readSetting 116 = .ok (.iload_n 2, 1) := by decide +kernel
theorem dX4_readSetting_117 : decode cX4_readSetting 117 = .ok (.putfield 92, 3) := by decide +kernel
theorem dX4_readSetting_120 : decode cX4_readSetting 120 = .ok (.iconst 1, 1) := by decide +kernel
theorem dX4_readSetting_121 : decode cX4_readSetting 121 = .ok (.ireturn, 1) := by decide +kernel
theorem dX4_mostOf_0 : decode cX4_mostOf 0 = .ok (.iload_n 0, 1) := by decide +kernel
theorem dX4_mostOf_1 : decode cX4_mostOf 1 = .ok (.tableswitch 44 304 308 #[35, 38, 44, 44, 41], 35) := by decide +kernel
theorem dX4_mostOf_36 : decode cX4_mostOf 36 = .ok (.bipush 99, 2) := by decide +kernel
theorem dX4_mostOf_38 : decode cX4_mostOf 38 = .ok (.ireturn, 1) := by decide +kernel
theorem dX4_mostOf_39 : decode cX4_mostOf 39 = .ok (.bipush 40, 2) := by decide +kernel
theorem dX4_mostOf_41 : decode cX4_mostOf 41 = .ok (.ireturn, 1) := by decide +kernel
theorem dX4_mostOf_42 : decode cX4_mostOf 42 = .ok (.bipush 99, 2) := by decide +kernel
theorem dX4_mostOf_44 : decode cX4_mostOf 44 = .ok (.ireturn, 1) := by decide +kernel
theorem dX4_mostOf_45 : decode cX4_mostOf 45 = .ok (.bipush 100, 2) := by decide +kernel
theorem dX4_mostOf_47 : decode cX4_mostOf 47 = .ok (.ireturn, 1) := by decide +kernel
theorem dX5_init_0 : decode cX5_init 0 = .ok (.aload_n 0, 1) := by decide +kernel
theorem dX5_init_1 : decode cX5_init 1 = .ok (.invokespecial 3, 3) := by decide +kernel
theorem dX5_init_4 : decode cX5_init 4 = .ok (.aload_n 0, 1) := by decide +kernel
theorem dX5_init_5 : decode cX5_init 5 = .ok (.iconst (-1), 1) := by decide +kernel
theorem dX5_init_6 : decode cX5_init 6 = .ok (.putfield 9, 3) := by decide +kernel
theorem dX5_init_9 : decode cX5_init 9 = .ok (.aload_n 0, 1) := by decide +kernel
theorem dX5_init_10 : decode cX5_init 10 = .ok (.bipush 12, 2) := by decide +kernel
theorem dX5_init_12 : decode cX5_init 12 = .ok (.newarray .int, 2) := by decide +kernel
theorem dX5_init_14 : decode cX5_init 14 = .ok (.putfield 15, 3) := by decide +kernel
theorem dX5_init_17 : decode cX5_init 17 = .ok (.aload_n 0, 1) := by decide +kernel
theorem dX5_init_18 : decode cX5_init 18 = .ok (.bipush 12, 2) := by decide +kernel
theorem dX5_init_20 : decode cX5_init 20 = .ok (.newarray .int, 2) := by decide +kernel
theorem dX5_init_22 : decode cX5_init 22 = .ok (.putfield 19, 3) := by decide +kernel
theorem dX5_init_25 : decode cX5_init 25 = .ok (.aload_n 0, 1) := by decide +kernel
theorem dX5_init_26 : decode cX5_init 26 = .ok (.bipush 12, 2) := by decide +kernel
theorem dX5_init_28 : decode cX5_init 28 = .ok (.newarray .int, 2) := by decide +kernel
theorem dX5_init_30 : decode cX5_init 30 = .ok (.putfield 22, 3) := by decide +kernel
theorem dX5_init_33 : decode cX5_init 33 = .ok (.aload_n 0, 1) := by decide +kernel
theorem dX5_init_34 : decode cX5_init 34 = .ok (.sipush 400, 3) := by decide +kernel
theorem dX5_init_37 : decode cX5_init 37 = .ok (.newarray .int, 2) := by decide +kernel
theorem dX5_init_39 : decode cX5_init 39 = .ok (.putfield 25, 3) := by decide +kernel
theorem dX5_init_42 : decode cX5_init 42 = .ok (.aload_n 0, 1) := by decide +kernel
theorem dX5_init_43 : decode cX5_init 43 = .ok (.iconst 0, 1) := by decide +kernel
theorem dX5_init_44 : decode cX5_init 44 = .ok (.putfield 28, 3) := by decide +kernel
theorem dX5_init_47 : decode cX5_init 47 = .ok (.aload_n 0, 1) := by decide +kernel
theorem dX5_init_48 : decode cX5_init 48 = .ok (.bipush 64, 2) := by decide +kernel
theorem dX5_init_50 : decode cX5_init 50 = .ok (.newarray .int, 2) := by decide +kernel
theorem dX5_init_52 : decode cX5_init 52 = .ok (.putfield 31, 3) := by decide +kernel
theorem dX5_init_55 : decode cX5_init 55 = .ok (.return_, 1) := by decide +kernel
theorem dX5_clear_0 : decode cX5_clear 0 = .ok (.aload_n 0, 1) := by decide +kernel
theorem dX5_clear_1 : decode cX5_clear 1 = .ok (.iconst 0, 1) := by decide +kernel
theorem dX5_clear_2 : decode cX5_clear 2 = .ok (.putfield 9, 3) := by decide +kernel
theorem dX5_clear_5 : decode cX5_clear 5 = .ok (.aload_n 0, 1) := by decide +kernel
theorem dX5_clear_6 : decode cX5_clear 6 = .ok (.iconst 0, 1) := by decide +kernel
theorem dX5_clear_7 : decode cX5_clear 7 = .ok (.putfield 28, 3) := by decide +kernel
theorem dX5_clear_10 : decode cX5_clear 10 = .ok (.return_, 1) := by decide +kernel
theorem dX5_put_0 : decode cX5_put 0 = .ok (.aload_n 0, 1) := by decide +kernel
theorem dX5_put_1 : decode cX5_put 1 = .ok (.getfield 28, 3) := by decide +kernel
theorem dX5_put_4 : decode cX5_put 4 = .ok (.aload_n 0, 1) := by decide +kernel
theorem dX5_put_5 : decode cX5_put 5 = .ok (.getfield 25, 3) := by decide +kernel
theorem dX5_put_8 : decode cX5_put 8 = .ok (.arraylength, 1) := by decide +kernel
theorem dX5_put_9 : decode cX5_put 9 = .ok (.if_icmp .ge 23, 3) := by decide +kernel
theorem dX5_put_12 : decode cX5_put 12 = .ok (.aload_n 0, 1) := by decide +kernel
theorem dX5_put_13 : decode cX5_put 13 = .ok (.getfield 25, 3) := by decide +kernel
theorem dX5_put_16 : decode cX5_put 16 = .ok (.aload_n 0, 1) := by decide +kernel
theorem dX5_put_17 : decode cX5_put 17 = .ok (.getfield 28, 3) := by decide +kernel
theorem dX5_put_20 : decode cX5_put 20 = .ok (.iload_n 1, 1) := by decide +kernel
theorem dX5_put_21 : decode cX5_put 21 = .ok (.iastore, 1) := by decide +kernel
theorem dX5_put_22 : decode cX5_put 22 = .ok (.aload_n 0, 1) := by decide +kernel
theorem dX5_put_23 : decode cX5_put 23 = .ok (.dup, 1) := by decide +kernel
theorem dX5_put_24 : decode cX5_put 24 = .ok (.getfield 28, 3) := by decide +kernel
theorem dX5_put_27 : decode cX5_put 27 = .ok (.iconst 1, 1) := by decide +kernel
theorem dX5_put_28 : decode cX5_put 28 = .ok (.iadd, 1) := by decide +kernel
theorem dX5_put_29 : decode cX5_put 29 = .ok (.putfield 28, 3) := by decide +kernel
theorem dX5_put_32 : decode cX5_put 32 = .ok (.return_, 1) := by decide +kernel
theorem dX5_addLine_0 : decode cX5_addLine 0 = .ok (.aload_n 0, 1) := by decide +kernel
theorem dX5_addLine_1 : decode cX5_addLine 1 = .ok (.getfield 9, 3) := by decide +kernel
theorem dX5_addLine_4 : decode cX5_addLine 4 = .ok (.ifCond .lt 55, 3) := by decide +kernel
theorem dX5_addLine_7 : decode cX5_addLine 7 = .ok (.aload_n 0, 1) := by decide +kernel
theorem dX5_addLine_8 : decode cX5_addLine 8 = .ok (.getfield 9, 3) := by decide +kernel
theorem dX5_addLine_11 : decode cX5_addLine 11 = .ok (.bipush 12, 2) := by decide +kernel
theorem dX5_addLine_13 : decode cX5_addLine 13 = .ok (.if_icmp .ge 46, 3) := by decide +kernel
theorem dX5_addLine_16 : decode cX5_addLine 16 = .ok (.aload_n 0, 1) := by decide +kernel
theorem dX5_addLine_17 : decode cX5_addLine 17 = .ok (.getfield 15, 3) := by decide +kernel
theorem dX5_addLine_20 : decode cX5_addLine 20 = .ok (.aload_n 0, 1) := by decide +kernel
theorem dX5_addLine_21 : decode cX5_addLine 21 = .ok (.getfield 9, 3) := by decide +kernel
theorem dX5_addLine_24 : decode cX5_addLine 24 = .ok (.iload_n 1, 1) := by decide +kernel
theorem dX5_addLine_25 : decode cX5_addLine 25 = .ok (.iastore, 1) := by decide +kernel
theorem dX5_addLine_26 : decode cX5_addLine 26 = .ok (.aload_n 0, 1) := by decide +kernel
theorem dX5_addLine_27 : decode cX5_addLine 27 = .ok (.getfield 19, 3) := by decide +kernel
theorem dX5_addLine_30 : decode cX5_addLine 30 = .ok (.aload_n 0, 1) := by decide +kernel
theorem dX5_addLine_31 : decode cX5_addLine 31 = .ok (.getfield 9, 3) := by decide +kernel
theorem dX5_addLine_34 : decode cX5_addLine 34 = .ok (.iload_n 2, 1) := by decide +kernel
theorem dX5_addLine_35 : decode cX5_addLine 35 = .ok (.iastore, 1) := by decide +kernel
theorem dX5_addLine_36 : decode cX5_addLine 36 = .ok (.aload_n 0, 1) := by decide +kernel
theorem dX5_addLine_37 : decode cX5_addLine 37 = .ok (.getfield 22, 3) := by decide +kernel
theorem dX5_addLine_40 : decode cX5_addLine 40 = .ok (.aload_n 0, 1) := by decide +kernel
theorem dX5_addLine_41 : decode cX5_addLine 41 = .ok (.getfield 9, 3) := by decide +kernel
theorem dX5_addLine_44 : decode cX5_addLine 44 = .ok (.aload_n 0, 1) := by decide +kernel
theorem dX5_addLine_45 : decode cX5_addLine 45 = .ok (.getfield 28, 3) := by decide +kernel
theorem dX5_addLine_48 : decode cX5_addLine 48 = .ok (.iastore, 1) := by decide +kernel
theorem dX5_addLine_49 : decode cX5_addLine 49 = .ok (.aload_n 0, 1) := by decide +kernel
theorem dX5_addLine_50 : decode cX5_addLine 50 = .ok (.dup, 1) := by decide +kernel
theorem dX5_addLine_51 : decode cX5_addLine 51 = .ok (.getfield 9, 3) := by decide +kernel
theorem dX5_addLine_54 : decode cX5_addLine 54 = .ok (.iconst 1, 1) := by decide +kernel
theorem dX5_addLine_55 : decode cX5_addLine 55 = .ok (.iadd, 1) := by decide +kernel
theorem dX5_addLine_56 : decode cX5_addLine 56 = .ok (.putfield 9, 3) := by decide +kernel
theorem dX5_addLine_59 : decode cX5_addLine 59 = .ok (.return_, 1) := by decide +kernel
theorem dX5_copyFrom_0 : decode cX5_copyFrom 0 = .ok (.aload_n 0, 1) := by decide +kernel
theorem dX5_copyFrom_1 : decode cX5_copyFrom 1 = .ok (.aload_n 1, 1) := by decide +kernel
theorem dX5_copyFrom_2 : decode cX5_copyFrom 2 = .ok (.getfield 9, 3) := by decide +kernel
theorem dX5_copyFrom_5 : decode cX5_copyFrom 5 = .ok (.putfield 9, 3) := by decide +kernel
theorem dX5_copyFrom_8 : decode cX5_copyFrom 8 = .ok (.aload_n 0, 1) := by decide +kernel
theorem dX5_copyFrom_9 : decode cX5_copyFrom 9 = .ok (.aload_n 1, 1) := by decide +kernel
theorem dX5_copyFrom_10 : decode cX5_copyFrom 10 = .ok (.getfield 28, 3) := by decide +kernel
theorem dX5_copyFrom_13 : decode cX5_copyFrom 13 = .ok (.putfield 28, 3) := by decide +kernel
theorem dX5_copyFrom_16 : decode cX5_copyFrom 16 = .ok (.aload_n 1, 1) := by decide +kernel
theorem dX5_copyFrom_17 : decode cX5_copyFrom 17 = .ok (.getfield 15, 3) := by decide +kernel
theorem dX5_copyFrom_20 : decode cX5_copyFrom 20 = .ok (.iconst 0, 1) := by decide +kernel
theorem dX5_copyFrom_21 : decode cX5_copyFrom 21 = .ok (.aload_n 0, 1) := by decide +kernel
theorem dX5_copyFrom_22 : decode cX5_copyFrom 22 = .ok (.getfield 15, 3) := by decide +kernel
theorem dX5_copyFrom_25 : decode cX5_copyFrom 25 = .ok (.iconst 0, 1) := by decide +kernel
theorem dX5_copyFrom_26 : decode cX5_copyFrom 26 = .ok (.bipush 12, 2) := by decide +kernel
theorem dX5_copyFrom_28 : decode cX5_copyFrom 28 = .ok (.invokestatic 34, 3) := by decide +kernel
theorem dX5_copyFrom_31 : decode cX5_copyFrom 31 = .ok (.aload_n 1, 1) := by decide +kernel
theorem dX5_copyFrom_32 : decode cX5_copyFrom 32 = .ok (.getfield 19, 3) := by decide +kernel
theorem dX5_copyFrom_35 : decode cX5_copyFrom 35 = .ok (.iconst 0, 1) := by decide +kernel
theorem dX5_copyFrom_36 : decode cX5_copyFrom 36 = .ok (.aload_n 0, 1) := by decide +kernel
theorem dX5_copyFrom_37 : decode cX5_copyFrom 37 = .ok (.getfield 19, 3) := by decide +kernel
theorem dX5_copyFrom_40 : decode cX5_copyFrom 40 = .ok (.iconst 0, 1) := by decide +kernel
theorem dX5_copyFrom_41 : decode cX5_copyFrom 41 = .ok (.bipush 12, 2) := by decide +kernel
theorem dX5_copyFrom_43 : decode cX5_copyFrom 43 = .ok (.invokestatic 34, 3) := by decide +kernel
theorem dX5_copyFrom_46 : decode cX5_copyFrom 46 = .ok (.aload_n 1, 1) := by decide +kernel
theorem dX5_copyFrom_47 : decode cX5_copyFrom 47 = .ok (.getfield 22, 3) := by decide +kernel
theorem dX5_copyFrom_50 : decode cX5_copyFrom 50 = .ok (.iconst 0, 1) := by decide +kernel
theorem dX5_copyFrom_51 : decode cX5_copyFrom 51 = .ok (.aload_n 0, 1) := by decide +kernel
theorem dX5_copyFrom_52 : decode cX5_copyFrom 52 = .ok (.getfield 22, 3) := by decide +kernel
theorem dX5_copyFrom_55 : decode cX5_copyFrom 55 = .ok (.iconst 0, 1) := by decide +kernel
theorem dX5_copyFrom_56 : decode cX5_copyFrom 56 = .ok (.bipush 12, 2) := by decide +kernel
theorem dX5_copyFrom_58 : decode cX5_copyFrom 58 = .ok (.invokestatic 34, 3) := by decide +kernel
theorem dX5_copyFrom_61 : decode cX5_copyFrom 61 = .ok (.aload_n 1, 1) := by decide +kernel
theorem dX5_copyFrom_62 : decode cX5_copyFrom 62 = .ok (.getfield 25, 3) := by decide +kernel
theorem dX5_copyFrom_65 : decode cX5_copyFrom 65 = .ok (.iconst 0, 1) := by decide +kernel
theorem dX5_copyFrom_66 : decode cX5_copyFrom 66 = .ok (.aload_n 0, 1) := by decide +kernel
theorem dX5_copyFrom_67 : decode cX5_copyFrom 67 = .ok (.getfield 25, 3) := by decide +kernel
theorem dX5_copyFrom_70 : decode cX5_copyFrom 70 = .ok (.iconst 0, 1) := by decide +kernel
theorem dX5_copyFrom_71 : decode cX5_copyFrom 71 = .ok (.sipush 400, 3) := by decide +kernel
theorem dX5_copyFrom_74 : decode cX5_copyFrom 74 = .ok (.invokestatic 34, 3) := by decide +kernel
theorem dX5_copyFrom_77 : decode cX5_copyFrom 77 = .ok (.return_, 1) := by decide +kernel
set_option maxRecDepth 20000 in
theorem ggX5_sumOf_X5_holds : GoodIn wsX5_sumOf wsX5_holds := goodIn_r _ [9, 10, 11, 12, 13, 8, 14, 15, 16, 17, 18, 19, 20, 21, 22, 23, 24, 25, 26, 27, 28, 29, 30, 31, 32, 33, 34, 35, 36, 37, 38, 39, 40, 41, 42, 43, 44, 45, 46, 47, 48, 49, 50, 51, 52, 53, 54] (by decide +kernel) (by decide +kernel)
set_option maxRecDepth 20000 in
theorem gX5_sumOf_X5_holds : GoodIn wsX5_sumOf (wsV RX5 40 RX5 yX5_holds wsX5_holds) := goodIn_app (goodIn_of _ (by decide +kernel)) ggX5_sumOf_X5_holds
theorem dX5_sumOf_0 : decode cX5_sumOf 0 = .ok (.iconst 0, 1) := by decide +kernel
theorem dX5_sumOf_1 : decode cX5_sumOf 1 = .ok (.istore 4, 2) := by decide +kernel
theorem dX5_sumOf_3 : decode cX5_sumOf 3 = .ok (.iconst 0, 1) := by decide +kernel
theorem dX5_sumOf_4 : decode cX5_sumOf 4 = .ok (.istore 5, 2) := by decide +kernel
theorem dX5_sumOf_6 : decode cX5_sumOf 6 = .ok (.iconst 0, 1) := by decide +kernel
theorem dX5_sumOf_7 : decode cX5_sumOf 7 = .ok (.istore 6, 2) := by decide +kernel
theorem dX5_sumOf_9 : decode cX5_sumOf 9 = .ok (.iload 6, 2) := by decide +kernel
theorem dX5_sumOf_11 : decode cX5_sumOf 11 = .ok (.aload_n 0, 1) := by decide +kernel
theorem dX5_sumOf_12 : decode cX5_sumOf 12 = .ok (.getfield 9, 3) := by decide +kernel
theorem dX5_sumOf_15 : decode cX5_sumOf 15 = .ok (.if_icmp .ge 58, 3) := by decide +kernel
theorem dX5_sumOf_18 : decode cX5_sumOf 18 = .ok (.aload_n 0, 1) := by decide +kernel
theorem dX5_sumOf_19 : decode cX5_sumOf 19 = .ok (.getfield 22, 3) := by decide +kernel
theorem dX5_sumOf_22 : decode cX5_sumOf 22 = .ok (.iload 6, 2) := by decide +kernel
theorem dX5_sumOf_24 : decode cX5_sumOf 24 = .ok (.iaload, 1) := by decide +kernel
theorem dX5_sumOf_25 : decode cX5_sumOf 25 = .ok (.istore 7, 2) := by decide +kernel
theorem dX5_sumOf_27 : decode cX5_sumOf 27 = .ok (.aload_n 0, 1) := by decide +kernel
theorem dX5_sumOf_28 : decode cX5_sumOf 28 = .ok (.getfield 15, 3) := by decide +kernel
theorem dX5_sumOf_31 : decode cX5_sumOf 31 = .ok (.iload 6, 2) := by decide +kernel
theorem dX5_sumOf_33 : decode cX5_sumOf 33 = .ok (.iaload, 1) := by decide +kernel
theorem dX5_sumOf_34 : decode cX5_sumOf 34 = .ok (.iload_n 1, 1) := by decide +kernel
theorem dX5_sumOf_35 : decode cX5_sumOf 35 = .ok (.if_icmp .ne 28, 3) := by decide +kernel
theorem dX5_sumOf_38 : decode cX5_sumOf 38 = .ok (.aload_n 0, 1) := by decide +kernel
theorem dX5_sumOf_39 : decode cX5_sumOf 39 = .ok (.iload 5, 2) := by decide +kernel
theorem dX5_sumOf_41 : decode cX5_sumOf 41 = .ok (.iload 7, 2) := by decide +kernel
theorem dX5_sumOf_43 : decode cX5_sumOf 43 = .ok (.aload_n 2, 1) := by decide +kernel
theorem dX5_sumOf_44 : decode cX5_sumOf 44 = .ok (.iload_n 3, 1) := by decide +kernel
theorem dX5_sumOf_45 : decode cX5_sumOf 45 = .ok (.invokevirtual 40, 3) := by decide +kernel
theorem dX5_sumOf_48 : decode cX5_sumOf 48 = .ok (.ifCond .eq 15, 3) := by decide +kernel
theorem dX5_sumOf_51 : decode cX5_sumOf 51 = .ok (.iload 4, 2) := by decide +kernel
theorem dX5_sumOf_53 : decode cX5_sumOf 53 = .ok (.aload_n 0, 1) := by decide +kernel
theorem dX5_sumOf_54 : decode cX5_sumOf 54 = .ok (.getfield 19, 3) := by decide +kernel
theorem dX5_sumOf_57 : decode cX5_sumOf 57 = .ok (.iload 6, 2) := by decide +kernel
theorem dX5_sumOf_59 : decode cX5_sumOf 59 = .ok (.iaload, 1) := by decide +kernel
theorem dX5_sumOf_60 : decode cX5_sumOf 60 = .ok (.iadd, 1) := by decide +kernel
theorem dX5_sumOf_61 : decode cX5_sumOf 61 = .ok (.istore 4, 2) := by decide +kernel
theorem dX5_sumOf_63 : decode cX5_sumOf 63 = .ok (.iload 7, 2) := by decide +kernel
theorem dX5_sumOf_65 : decode cX5_sumOf 65 = .ok (.istore 5, 2) := by decide +kernel
theorem dX5_sumOf_67 : decode cX5_sumOf 67 = .ok (.iinc 6 1, 3) := by decide +kernel
theorem dX5_sumOf_70 : decode cX5_sumOf 70 = .ok (.goto (-61), 3) := by decide +kernel
theorem dX5_sumOf_73 : decode cX5_sumOf 73 = .ok (.iload 4, 2) := by decide +kernel
theorem dX5_sumOf_75 : decode cX5_sumOf 75 = .ok (.ireturn, 1) := by decide +kernel
set_option maxRecDepth 20000 in
theorem ggX5_holds_X5_joins : GoodIn wsX5_holds wsX5_joins := goodIn_r _ [6] (by decide +kernel) (by decide +kernel)
set_option maxRecDepth 20000 in
theorem gX5_holds_X5_joins : GoodIn wsX5_holds (va_wsS RX5 44 yX5_joins wsX5_joins) := goodIn_app (goodIn_of _ (by decide +kernel)) ggX5_holds_X5_joins
set_option maxRecDepth 20000 in
theorem ggX5_holds_X5_joined : GoodIn wsX5_holds wsX5_joined := goodIn_r _ [9] (by decide +kernel) (by decide +kernel)
set_option maxRecDepth 20000 in
theorem gX5_holds_X5_joined : GoodIn wsX5_holds (va_wsS RX5 48 yX5_joined wsX5_joined) := goodIn_app (goodIn_of _ (by decide +kernel)) ggX5_holds_X5_joined
set_option maxRecDepth 20000 in
theorem ggX5_holds_X3_fact : GoodIn wsX5_holds wsX3_fact := goodIn_r _ [14, 15, 16, 17, 18, 19, 27, 28, 29, 30, 31, 32, 33, 34, 35, 36, 37, 38, 39, 40, 41, 42, 43, 44, 45, 46] (by decide +kernel) (by decide +kernel)
set_option maxRecDepth 20000 in
theorem gX5_holds_X3_fact : GoodIn wsX5_holds (wsV RX5 52 RX3 yX3_fact wsX3_fact) := goodIn_app (goodIn_of _ (by decide +kernel)) ggX5_holds_X3_fact
theorem dX5_holds_0 : decode cX5_holds 0 = .ok (.iconst 0, 1) := by decide +kernel
theorem dX5_holds_1 : decode cX5_holds 1 = .ok (.istore 5, 2) := by decide +kernel
theorem dX5_holds_3 : decode cX5_holds 3 = .ok (.iload_n 1, 1) := by decide +kernel
theorem dX5_holds_4 : decode cX5_holds 4 = .ok (.istore 6, 2) := by decide +kernel
theorem dX5_holds_6 : decode cX5_holds 6 = .ok (.iload 6, 2) := by decide +kernel
theorem dX5_holds_8 : decode cX5_holds 8 = .ok (.iload_n 2, 1) := by decide +kernel
theorem dX5_holds_9 : decode cX5_holds 9 = .ok (.if_icmp .ge 140, 3) := by decide +kernel
theorem dX5_holds_12 : decode cX5_holds 12 = .ok (.aload_n 0, 1) := by decide +kernel
theorem dX5_holds_13 : decode cX5_holds 13 = .ok (.getfield 25, 3) := by decide +kernel
theorem dX5_holds_16 : decode cX5_holds 16 = .ok (.iload 6, 2) := by decide +kernel
theorem dX5_holds_18 : decode cX5_holds 18 = .ok (.iaload, 1) := by decide +kernel
theorem dX5_holds_19 : decode cX5_holds 19 = .ok (.istore 7, 2) := by decide +kernel
theorem dX5_holds_21 : decode cX5_holds 21 = .ok (.iload 7, 2) := by decide +kernel
theorem dX5_holds_23 : decode cX5_holds 23 = .ok (.sipush (-317), 3) := by decide +kernel
theorem dX5_holds_26 : decode cX5_holds 26 = .ok (.if_icmp .ne 31, 3) := by decide +kernel
theorem dX5_holds_29 : decode cX5_holds 29 = .ok (.iload 5, 2) := by decide +kernel
theorem dX5_holds_31 : decode cX5_holds 31 = .ok (.ifCond .le 26, 3) := by decide +kernel
theorem dX5_holds_34 : decode cX5_holds 34 = .ok (.aload_n 0, 1) := by decide +kernel
theorem dX5_holds_35 : decode cX5_holds 35 = .ok (.getfield 31, 3) := by decide +kernel
theorem dX5_holds_38 : decode cX5_holds 38 = .ok (.iload 5, 2) := by decide +kernel
theorem dX5_holds_40 : decode cX5_holds 40 = .ok (.iconst 1, 1) := by decide +kernel
theorem dX5_holds_41 : decode cX5_holds 41 = .ok (.isub, 1) := by decide +kernel
theorem dX5_holds_42 : decode cX5_holds 42 = .ok (.iconst 1, 1) := by decide +kernel
theorem dX5_holds_43 : decode cX5_holds 43 = .ok (.aload_n 0, 1) := by decide +kernel
theorem dX5_holds_44 : decode cX5_holds 44 = .ok (.getfield 31, 3) := by decide +kernel
theorem dX5_holds_47 : decode cX5_holds 47 = .ok (.iload 5, 2) := by decide +kernel
theorem dX5_holds_49 : decode cX5_holds 49 = .ok (.iconst 1, 1) := by decide +kernel
theorem dX5_holds_50 : decode cX5_holds 50 = .ok (.isub, 1) := by decide +kernel
theorem dX5_holds_51 : decode cX5_holds 51 = .ok (.iaload, 1) := by decide +kernel
theorem dX5_holds_52 : decode cX5_holds 52 = .ok (.isub, 1) := by decide +kernel
theorem dX5_holds_53 : decode cX5_holds 53 = .ok (.iastore, 1) := by decide +kernel
theorem dX5_holds_54 : decode cX5_holds 54 = .ok (.goto 89, 3) := by decide +kernel
theorem dX5_holds_57 : decode cX5_holds 57 = .ok (.iload 7, 2) := by decide +kernel
theorem dX5_holds_59 : decode cX5_holds 59 = .ok (.invokestatic 44, 3) := by decide +kernel
theorem dX5_holds_62 : decode cX5_holds 62 = .ok (.ifCond .eq 45, 3) := by decide +kernel
theorem dX5_holds_65 : decode cX5_holds 65 = .ok (.iload 5, 2) := by decide +kernel
theorem dX5_holds_67 : decode cX5_holds 67 = .ok (.iconst 1, 1) := by decide +kernel
theorem dX5_holds_68 : decode cX5_holds 68 = .ok (.if_icmp .le 39, 3) := by decide +kernel
theorem dX5_holds_71 : decode cX5_holds 71 = .ok (.iinc 5 (-1), 3) := by decide +kernel
theorem dX5_holds_74 : decode cX5_holds 74 = .ok (.aload_n 0, 1) := by decide +kernel
theorem dX5_holds_75 : decode cX5_holds 75 = .ok (.getfield 31, 3) := by decide +kernel
theorem dX5_holds_78 : decode cX5_holds 78 = .ok (.iload 5, 2) := by decide +kernel
theorem dX5_holds_80 : decode cX5_holds 80 = .ok (.iconst 1, 1) := by decide +kernel
theorem dX5_holds_81 : decode cX5_holds 81 = .ok (.isub, 1) := by decide +kernel
theorem dX5_holds_82 : decode cX5_holds 82 = .ok (.iload 7, 2) := by decide +kernel
theorem dX5_holds_84 : decode cX5_holds 84 = .ok (.aload_n 0, 1) := by decide +kernel
theorem dX5_holds_85 : decode cX5_holds 85 = .ok (.getfield 31, 3) := by decide +kernel
theorem dX5_holds_88 : decode cX5_holds 88 = .ok (.iload 5, 2) := by decide +kernel
theorem dX5_holds_90 : decode cX5_holds 90 = .ok (.iconst 1, 1) := by decide +kernel
theorem dX5_holds_91 : decode cX5_holds 91 = .ok (.isub, 1) := by decide +kernel
theorem dX5_holds_92 : decode cX5_holds 92 = .ok (.iaload, 1) := by decide +kernel
theorem dX5_holds_93 : decode cX5_holds 93 = .ok (.aload_n 0, 1) := by decide +kernel
theorem dX5_holds_94 : decode cX5_holds 94 = .ok (.getfield 31, 3) := by decide +kernel
theorem dX5_holds_97 : decode cX5_holds 97 = .ok (.iload 5, 2) := by decide +kernel
theorem dX5_holds_99 : decode cX5_holds 99 = .ok (.iaload, 1) := by decide +kernel
theorem dX5_holds_100 : decode cX5_holds 100 = .ok (.invokestatic 48, 3) := by decide +kernel
theorem dX5_holds_103 : decode cX5_holds 103 = .ok (.iastore, 1) := by decide +kernel
theorem dX5_holds_104 : decode cX5_holds 104 = .ok (.goto 39, 3) := by decide +kernel
theorem dX5_holds_107 : decode cX5_holds 107 = .ok (.iload 5, 2) := by decide +kernel
theorem dX5_holds_109 : decode cX5_holds 109 = .ok (.bipush 64, 2) := by decide +kernel
theorem dX5_holds_111 : decode cX5_holds 111 = .ok (.if_icmp .ge 32, 3) := by decide +kernel
theorem dX5_holds_114 : decode cX5_holds 114 = .ok (.aload_n 0, 1) := by decide +kernel
theorem dX5_holds_115 : decode cX5_holds 115 = .ok (.getfield 31, 3) := by decide +kernel
theorem dX5_holds_118 : decode cX5_holds 118 = .ok (.iload 5, 2) := by decide +kernel
theorem dX5_holds_120 : decode cX5_holds 120 = .ok (.iload 7, 2) := by decide +kernel
theorem dX5_holds_122 : decode cX5_holds 122 = .ok (.ifCond .lt 8, 3) := by decide +kernel
theorem dX5_holds_125 : decode cX5_holds 125 = .ok (.iload 7, 2) := by decide +kernel
theorem dX5_holds_127 : decode cX5_holds 127 = .ok (.goto 12, 3) := by decide +kernel
theorem dX5_holds_130 : decode cX5_holds 130 = .ok (.aload_n 3, 1) := by decide +kernel
theorem dX5_holds_131 : decode cX5_holds 131 = .ok (.iload 7, 2) := by decide +kernel
theorem dX5_holds_133 : decode cX5_holds 133 = .ok (.ineg, 1) := by decide +kernel
theorem dX5_holds_134 : decode cX5_holds 134 = .ok (.iload 4, 2) := by decide +kernel
theorem dX5_holds_136 : decode cX5_holds 136 = .ok (.invokevirtual 52, 3) := by decide +kernel
theorem dX5_holds_139 : decode cX5_holds 139 = .ok (.iastore, 1) := by decide +kernel
theorem dX5_holds_140 : decode cX5_holds 140 = .ok (.iinc 5 1, 3) := by decide +kernel
theorem dX5_holds_143 : decode cX5_holds 143 = .ok (.iinc 6 1, 3) := by decide +kernel
theorem dX5_holds_146 : decode cX5_holds 146 = .ok (.goto (-140), 3) := by decide +kernel
theorem dX5_holds_149 : decode cX5_holds 149 = .ok (.iload 5, 2) := by decide +kernel
theorem dX5_holds_151 : decode cX5_holds 151 = .ok (.ifCond .eq 12, 3) := by decide +kernel
theorem dX5_holds_154 : decode cX5_holds 154 = .ok (.aload_n 0, 1) := by decide +kernel
theorem dX5_holds_155 : decode cX5_holds 155 = .ok (.getfield 31, 3) := by decide +kernel
theorem dX5_holds_158 : decode cX5_holds 158 = .ok (.iconst 0, 1) := by decide +kernel
theorem dX5_holds_159 : decode cX5_holds 159 = .ok (.iaload, 1) := by decide +kernel
theorem dX5_holds_160 : decode cX5_holds 160 = .ok (.ifCond .eq 7, 3) := by decide +kernel
theorem dX5_holds_163 : decode cX5_holds 163 = .ok (.iconst 1, 1) := by decide +kernel
theorem dX5_holds_164 : decode cX5_holds 164 = .ok (.goto 4, 3) := by decide +kernel
theorem dX5_holds_167 : decode cX5_holds 167 = .ok (.iconst 0, 1) := by decide +kernel
theorem dX5_holds_168 : decode cX5_holds 168 = .ok (.ireturn, 1) := by decide +kernel
theorem dX5_joins_0 : decode cX5_joins 0 = .ok (.iload_n 0, 1) := by decide +kernel
theorem dX5_joins_1 : decode cX5_joins 1 = .ok (.bipush (-43), 2) := by decide +kernel
theorem dX5_joins_3 : decode cX5_joins 3 = .ok (.if_icmp .eq 29, 3) := by decide +kernel
theorem dX5_joins_6 : decode cX5_joins 6 = .ok (.iload_n 0, 1) := by decide +kernel
theorem dX5_joins_7 : decode cX5_joins 7 = .ok (.bipush (-60), 2) := by decide +kernel
theorem dX5_joins_9 : decode cX5_joins 9 = .ok (.if_icmp .eq 23, 3) := by decide +kernel
theorem dX5_joins_12 : decode cX5_joins 12 = .ok (.iload_n 0, 1) := by decide +kernel
theorem dX5_joins_13 : decode cX5_joins 13 = .ok (.bipush (-62), 2) := by decide +kernel
theorem dX5_joins_15 : decode cX5_joins 15 = .ok (.if_icmp .eq 17, 3) := by decide +kernel
theorem dX5_joins_18 : decode cX5_joins 18 = .ok (.iload_n 0, 1) := by decide +kernel
theorem dX5_joins_19 : decode cX5_joins 19 = .ok (.sipush (-316), 3) := by decide +kernel
theorem dX5_joins_22 : decode cX5_joins 22 = .ok (.if_icmp .eq 10, 3) := by decide +kernel
theorem dX5_joins_25 : decode cX5_joins 25 = .ok (.iload_n 0, 1) := by decide +kernel
theorem dX5_joins_26 : decode cX5_joins 26 = .ok (.sipush (-315), 3) := by decide +kernel
theorem dX5_joins_29 : decode cX5_joins 29 = .ok (.if_icmp .ne 7, 3) := by decide +kernel
theorem dX5_joins_32 : decode cX5_joins 32 = .ok (.iconst 1, 1) := by decide +kernel
theorem dX5_joins_33 : decode cX5_joins 33 = .ok (.goto 4, 3) := by decide +kernel
theorem dX5_joins_36 : decode cX5_joins 36 = .ok (.iconst 0, 1) := by decide +kernel
theorem dX5_joins_37 : decode cX5_joins 37 = .ok (.ireturn, 1) := by decide +kernel
theorem dX5_joined_0 : decode cX5_joined 0 = .ok (.iload_n 0, 1) := by decide +kernel
theorem dX5_joined_1 : decode cX5_joined 1 = .ok (.ineg, 1) := by decide +kernel
theorem dX5_joined_2 : decode cX5_joined 2 = .ok (.lookupswitch 72 #[(43, 42), (60, 46), (62, 57), (316, 68)], 42) := by decide +kernel
theorem dX5_joined_44 : decode cX5_joined 44 = .ok (.iload_n 1, 1) := by decide +kernel
theorem dX5_joined_45 : decode cX5_joined 45 = .ok (.iload_n 2, 1) := by decide +kernel
theorem dX5_joined_46 : decode cX5_joined 46 = .ok (.iadd, 1) := by decide +kernel
theorem dX5_joined_47 : decode cX5_joined 47 = .ok (.ireturn, 1) := by decide +kernel
theorem dX5_joined_48 : decode cX5_joined 48 = .ok (.iload_n 1, 1) := by decide +kernel
theorem dX5_joined_49 : decode cX5_joined 49 = .ok (.iload_n 2, 1) := by decide +kernel
theorem dX5_joined_50 : decode cX5_joined 50 = .ok (.if_icmp .ge 7, 3) := by decide +kernel
theorem dX5_joined_53 : decode cX5_joined 53 = .ok (.iconst 1, 1) := by decide +kernel
theorem dX5_joined_54 : decode cX5_joined 54 = .ok (.goto 4, 3) := by decide +kernel
theorem dX5_joined_57 : decode cX5_joined 57 = .ok (.iconst 0, 1) := by decide +kernel
theorem dX5_joined_58 : decode cX5_joined 58 = .ok (.ireturn, 1) := by decide +kernel
theorem dX5_joined_59 : decode cX5_joined 59 = .ok (.iload_n 1, 1) := by decide +kernel
theorem dX5_joined_60 : decode cX5_joined 60 = .ok (.iload_n 2, 1) := by decide +kernel
theorem dX5_joined_61 : decode cX5_joined 61 = .ok (.if_icmp .le 7, 3) := by decide +kernel
theorem dX5_joined_64 : decode cX5_joined 64 = .ok (.iconst 1, 1) := by decide +kernel
theorem dX5_joined_65 : decode cX5_joined 65 = .ok (.goto 4, 3) := by decide +kernel
theorem dX5_joined_68 : decode cX5_joined 68 = .ok (.iconst 0, 1) := by decide +kernel
theorem dX5_joined_69 : decode cX5_joined 69 = .ok (.ireturn, 1) := by decide +kernel
theorem dX5_joined_70 : decode cX5_joined 70 = .ok (.iload_n 1, 1) := by decide +kernel
theorem dX5_joined_71 : decode cX5_joined 71 = .ok (.iload_n 2, 1) := by decide +kernel
theorem dX5_joined_72 : decode cX5_joined 72 = .ok (.iand, 1) := by decide +kernel
theorem dX5_joined_73 : decode cX5_joined 73 = .ok (.ireturn, 1) := by decide +kernel
theorem dX5_joined_74 : decode cX5_joined 74 = .ok (.iload_n 1, 1) := by decide +kernel
theorem dX5_joined_75 : decode cX5_joined 75 = .ok (.iload_n 2, 1) := by decide +kernel
theorem dX5_joined_76 : decode cX5_joined 76 = .ok (.ior, 1) := by decide +kernel
theorem dX5_joined_77 : decode cX5_joined 77 = .ok (.ireturn, 1) := by decide +kernel
set_option maxRecDepth 20000 in
theorem ggX6_init_X9_init : GoodIn wsX6_init wsX9_init := goodIn_r _ [5, 6, 7, 8, 9, 10, 11, 16, 17, 18, 19, 12, 13, 14, 15] (by decide +kernel) (by decide +kernel)
set_option maxRecDepth 20000 in
theorem gX6_init_X9_init : GoodIn wsX6_init (wsX9_init) := ggX6_init_X9_init
theorem dX6_init_0 : decode cX6_init 0 = .ok (.aload_n 0, 1) := by decide +kernel
theorem dX6_init_1 : decode cX6_init 1 = .ok (.aload_n 1, 1) := by decide +kernel
theorem dX6_init_2 : decode cX6_init 2 = .ok (.bipush 12, 2) := by decide +kernel
theorem dX6_init_4 : decode cX6_init 4 = .ok (.invokespecial 3, 3) := by decide +kernel
theorem dX6_init_7 : decode cX6_init 7 = .ok (.aload_n 0, 1) := by decide +kernel
theorem dX6_init_8 : decode cX6_init 8 = .ok (.aload_n 2, 1) := by decide +kernel
theorem dX6_init_9 : decode cX6_init 9 = .ok (.putfield 9, 3) := by decide +kernel
theorem dX6_init_12 : decode cX6_init 12 = .ok (.return_, 1) := by decide +kernel
set_option maxRecDepth 20000 in
theorem ggX6_readLine_X10_code : GoodIn wsX6_readLine wsX10_code := goodIn_r _ [10, 11, 12, 77, 78, 79, 80] (by decide +kernel) (by decide +kernel)
set_option maxRecDepth 20000 in
theorem gX6_readLine_X10_code : GoodIn wsX6_readLine (wsV RX6 23 RX10 yX10_code wsX10_code) := goodIn_app (goodIn_of _ (by decide +kernel)) ggX6_readLine_X10_code
set_option maxRecDepth 20000 in
theorem ggX6_readLine_X9_number : GoodIn wsX6_readLine wsX9_number := goodIn_r _ [18, 19, 20, 21, 22, 23, 9, 24, 11, 25, 26, 7, 8, 10, 12, 69, 70, 71, 72, 73, 74, 75, 76, 77, 78, 79, 80] (by decide +kernel) (by decide +kernel)
set_option maxRecDepth 20000 in
theorem gX6_readLine_X9_number_u29X6 : GoodIn wsX6_readLine (va_wsU RX6 29 RX6 "SeeSawHill$TextReader" ⟨"SeeSawHill$LawReader", "number", "(II)I"⟩ yX9_number wsX9_number) := goodIn_app (goodIn_of _ (by decide +kernel)) ggX6_readLine_X9_number
set_option maxRecDepth 20000 in
theorem ggX6_readLine_X9_skip : GoodIn wsX6_readLine wsX9_skip := goodIn_r _ [31, 20, 19, 69, 70, 71, 72, 73, 74, 75, 76, 77, 78, 79, 80] (by decide +kernel) (by decide +kernel)
set_option maxRecDepth 20000 in
theorem gX6_readLine_X9_skip_u33X6 : GoodIn wsX6_readLine (va_wsU RX6 33 RX6 "SeeSawHill$TextReader" ⟨"SeeSawHill$LawReader", "skip", "(I)Z"⟩ yX9_skip wsX9_skip) := goodIn_app (goodIn_of _ (by decide +kernel)) ggX6_readLine_X9_skip
set_option maxRecDepth 20000 in
theorem ggX6_readLine_X6_readAny : GoodIn wsX6_readLine wsX6_readAny := goodIn_r _ [36, 5, 37, 38, 39, 35, 27, 28, 29, 30, 17, 31, 20, 19, 40, 41, 42, 43, 44, 45, 46, 47, 48, 49, 50, 51, 1, 2, 3, 4, 6, 7, 8, 9, 10, 11, 12, 52, 53, 54, 55, 56, 57, 58, 59, 22, 23, 24, 25, 60, 32, 33, 34, 73, 74, 75, 76, 69, 70, 71, 72, 77, 78, 79, 80, 81, 82, 83, 84, 85, 86, 87] (by decide +kernel) (by decide +kernel)
set_option maxRecDepth 20000 in
theorem gX6_readLine_X6_readAny : GoodIn wsX6_readLine (wsV RX6 37 RX6 yX6_readAny wsX6_readAny) := goodIn_app (goodIn_of _ (by decide +kernel)) ggX6_readLine_X6_readAny
set_option maxRecDepth 20000 in
theorem ggX6_readLine_X5_addLine : GoodIn wsX6_readLine wsX5_addLine := goodIn_r _ [64, 65, 66, 67, 68, 45, 81, 82, 83, 84, 85, 86, 87] (by decide +kernel) (by decide +kernel)
set_option maxRecDepth 20000 in
theorem gX6_readLine_X5_addLine : GoodIn wsX6_readLine (wsV RX6 40 RX5 yX5_addLine wsX5_addLine) := goodIn_app (goodIn_of _ (by decide +kernel)) ggX6_readLine_X5_addLine
theorem dX6_readLine_0 : decode cX6_readLine 0 = .ok (.aload_n 0, 1) := by decide +kernel
theorem dX6_readLine_1 : decode cX6_readLine 1 = .ok (.getfield 15, 3) := by decide +kernel
theorem dX6_readLine_4 : decode cX6_readLine 4 = .ok (.aload_n 0, 1) := by decide +kernel
theorem dX6_readLine_5 : decode cX6_readLine 5 = .ok (.getfield 19, 3) := by decide +kernel
theorem dX6_readLine_8 : decode cX6_readLine 8 = .ok (.invokevirtual 23, 3) := by decide +kernel
theorem dX6_readLine_11 : decode cX6_readLine 11 = .ok (.istore_n 1, 1) := by decide +kernel
theorem dX6_readLine_12 : decode cX6_readLine 12 = .ok (.iload_n 1, 1) := by decide +kernel
theorem dX6_readLine_13 : decode cX6_readLine 13 = .ok (.sipush 312, 3) := by decide +kernel
theorem dX6_readLine_16 : decode cX6_readLine 16 = .ok (.if_icmp .eq 19, 3) := by decide +kernel
theorem dX6_readLine_19 : decode cX6_readLine 19 = .ok (.iload_n 1, 1) := by decide +kernel
theorem dX6_readLine_20 : decode cX6_readLine 20 = .ok (.sipush 313, 3) := by decide +kernel
theorem dX6_readLine_23 : decode cX6_readLine 23 = .ok (.if_icmp .eq 12, 3) := by decide +kernel
theorem dX6_readLine_26 : decode cX6_readLine 26 = .ok (.iload_n 1, 1) := by decide +kernel
theorem dX6_readLine_27 : decode cX6_readLine 27 = .ok (.sipush 311, 3) := by decide +kernel
theorem dX6_readLine_30 : decode cX6_readLine 30 = .ok (.if_icmp .eq 5, 3) := by decide +kernel
theorem dX6_readLine_33 : decode cX6_readLine 33 = .ok (.iconst 0, 1) := by decide +kernel
theorem dX6_readLine_34 : decode cX6_readLine 34 = .ok (.ireturn, 1) := by decide +kernel
theorem dX6_readLine_35 : decode cX6_readLine 35 = .ok (.aload_n 0, 1) := by decide +kernel
theorem dX6_readLine_36 : decode cX6_readLine 36 = .ok (.dup, 1) := by decide +kernel
theorem dX6_readLine_37 : decode cX6_readLine 37 = .ok (.getfield 19, 3) := by decide +kernel
theorem dX6_readLine_40 : decode cX6_readLine 40 = .ok (.iconst 1, 1) := by decide +kernel
theorem dX6_readLine_41 : decode cX6_readLine 41 = .ok (.iadd, 1) := by decide +kernel
theorem dX6_readLine_42 : decode cX6_readLine 42 = .ok (.putfield 19, 3) := by decide +kernel
theorem dX6_readLine_45 : decode cX6_readLine 45 = .ok (.aload_n 0, 1) := by decide +kernel
theorem dX6_readLine_46 : decode cX6_readLine 46 = .ok (.iconst 0, 1) := by decide +kernel
theorem dX6_readLine_47 : decode cX6_readLine 47 = .ok (.bipush 60, 2) := by decide +kernel
theorem dX6_readLine_49 : decode cX6_readLine 49 = .ok (.invokevirtual 29, 3) := by decide +kernel
theorem dX6_readLine_52 : decode cX6_readLine 52 = .ok (.istore_n 2, 1) := by decide +kernel
theorem dX6_readLine_53 : decode cX6_readLine 53 = .ok (.iload_n 2, 1) := by decide +kernel
theorem dX6_readLine_54 : decode cX6_readLine 54 = .ok (.iconst (-1), 1) := by decide +kernel
theorem dX6_readLine_55 : decode cX6_readLine 55 = .ok (.if_icmp .ne 5, 3) := by decide +kernel
theorem dX6_readLine_58 : decode cX6_readLine 58 = .ok (.iconst 0, 1) := by decide +kernel
theorem dX6_readLine_59 : decode cX6_readLine 59 = .ok (.ireturn, 1) := by decide +kernel
theorem dX6_readLine_60 : decode cX6_readLine 60 = .ok (.aload_n 0, 1) := by decide +kernel
theorem dX6_readLine_61 : decode cX6_readLine 61 = .ok (.sipush 314, 3) := by decide +kernel
theorem dX6_readLine_64 : decode cX6_readLine 64 = .ok (.invokevirtual 33, 3) := by decide +kernel
theorem dX6_readLine_67 : decode cX6_readLine 67 = .ok (.ifCond .eq 13, 3) := by decide +kernel
theorem dX6_readLine_70 : decode cX6_readLine 70 = .ok (.aload_n 0, 1) := by decide +kernel
theorem dX6_readLine_71 : decode cX6_readLine 71 = .ok (.iconst 0, 1) := by decide +kernel
theorem dX6_readLine_72 : decode cX6_readLine 72 = .ok (.invokevirtual 37, 3) := by decide +kernel
theorem dX6_readLine_75 : decode cX6_readLine 75 = .ok (.ifCond .ne 5, 3) := by decide +kernel
theorem dX6_readLine_78 : decode cX6_readLine 78 = .ok (.iconst 0, 1) := by decide +kernel
theorem dX6_readLine_79 : decode cX6_readLine 79 = .ok (.ireturn, 1) := by decide +kernel
theorem dX6_readLine_80 : decode cX6_readLine 80 = .ok (.aload_n 0, 1) := by decide +kernel
theorem dX6_readLine_81 : decode cX6_readLine 81 = .ok (.getfield 9, 3) := by decide +kernel
theorem dX6_readLine_84 : decode cX6_readLine 84 = .ok (.iload_n 1, 1) := by decide +kernel
theorem dX6_readLine_85 : decode cX6_readLine 85 = .ok (.iload_n 2, 1) := by decide +kernel
theorem dX6_readLine_86 : decode cX6_readLine 86 = .ok (.invokevirtual 40, 3) := by decide +kernel
theorem dX6_readLine_89 : decode cX6_readLine 89 = .ok (.iconst 1, 1) := by decide +kernel
theorem dX6_readLine_90 : decode cX6_readLine 90 = .ok (.ireturn, 1) := by decide +kernel
set_option maxRecDepth 20000 in
theorem ggX6_readAny_X6_readAll : GoodIn wsX6_readAny wsX6_readAll := goodIn_r _ [21, 1, 22, 23, 24, 5, 6, 7, 8, 9, 10, 11, 12, 13, 14, 15, 16, 17, 18, 19, 20, 0, 2, 3, 4, 25, 26, 27, 28, 29, 30, 31, 32, 33, 34, 35, 36, 37, 38, 39, 40, 41, 42, 43, 44, 45, 46, 47, 48, 49, 50, 51, 52, 53, 54, 55, 56, 57, 58, 59, 60, 61, 62, 63, 64, 65, 66, 67, 68, 69, 70, 71] (by decide +kernel) (by decide +kernel)
set_option maxRecDepth 20000 in
theorem gX6_readAny_X6_readAll : GoodIn wsX6_readAny (wsV RX6 46 RX6 yX6_readAll wsX6_readAll) := goodIn_app (goodIn_of _ (by decide +kernel)) ggX6_readAny_X6_readAll
set_option maxRecDepth 20000 in
theorem ggX6_readAny_X9_skip : GoodIn wsX6_readAny wsX9_skip := goodIn_r _ [11, 12, 13, 57, 58, 59, 60, 53, 54, 55, 56, 61, 62, 63, 64] (by decide +kernel) (by decide +kernel)
set_option maxRecDepth 20000 in
theorem gX6_readAny_X9_skip_u33X6 : GoodIn wsX6_readAny (va_wsU RX6 33 RX6 "SeeSawHill$TextReader" ⟨"SeeSawHill$LawReader", "skip", "(I)Z"⟩ yX9_skip wsX9_skip) := goodIn_app (goodIn_of _ (by decide +kernel)) ggX6_readAny_X9_skip
set_option maxRecDepth 20000 in
theorem ggX6_readAny_X5_put : GoodIn wsX6_readAny wsX5_put := goodIn_r _ [18, 19, 20, 65, 66, 67, 68, 69, 70, 71] (by decide +kernel) (by decide +kernel)
set_option maxRecDepth 20000 in
theorem gX6_readAny_X5_put : GoodIn wsX6_readAny (wsV RX6 49 RX5 yX5_put wsX5_put) := goodIn_app (goodIn_of _ (by decide +kernel)) ggX6_readAny_X5_put
theorem dX6_readAny_0 : decode cX6_readAny 0 = .ok (.aload_n 0, 1) := by decide +kernel
theorem dX6_readAny_1 : decode cX6_readAny 1 = .ok (.iload_n 1, 1) := by decide +kernel
theorem dX6_readAny_2 : decode cX6_readAny 2 = .ok (.invokevirtual 46, 3) := by decide +kernel
theorem dX6_readAny_5 : decode cX6_readAny 5 = .ok (.ifCond .ne 5, 3) := by decide +kernel
theorem dX6_readAny_8 : decode cX6_readAny 8 = .ok (.iconst 0, 1) := by decide +kernel
theorem dX6_readAny_9 : decode cX6_readAny 9 = .ok (.ireturn, 1) := by decide +kernel
theorem dX6_readAny_10 : decode cX6_readAny 10 = .ok (.iconst 0, 1) := by decide +kernel
theorem dX6_readAny_11 : decode cX6_readAny 11 = .ok (.istore_n 2, 1) := by decide +kernel
theorem dX6_readAny_12 : decode cX6_readAny 12 = .ok (.iload_n 2, 1) := by decide +kernel
theorem dX6_readAny_13 : decode cX6_readAny 13 = .ok (.sipush 400, 3) := by decide +kernel
theorem dX6_readAny_16 : decode cX6_readAny 16 = .ok (.if_icmp .ge 39, 3) := by decide +kernel
theorem dX6_readAny_19 : decode cX6_readAny 19 = .ok (.aload_n 0, 1) := by decide +kernel
theorem dX6_readAny_20 : decode cX6_readAny 20 = .ok (.sipush 315, 3) := by decide +kernel
theorem dX6_readAny_23 : decode cX6_readAny 23 = .ok (.invokevirtual 33, 3) := by decide +kernel
theorem dX6_readAny_26 : decode cX6_readAny 26 = .ok (.ifCond .eq 29, 3) := by decide +kernel
theorem dX6_readAny_29 : decode cX6_readAny 29 = .ok (.aload_n 0, 1) := by decide +kernel
theorem dX6_readAny_30 : decode cX6_readAny 30 = .ok (.iload_n 1, 1) := by decide +kernel
theorem dX6_readAny_31 : decode cX6_readAny 31 = .ok (.invokevirtual 46, 3) := by decide +kernel
theorem dX6_readAny_34 : decode cX6_readAny 34 = .ok (.ifCond .ne 5, 3) := by decide +kernel
theorem dX6_readAny_37 : decode cX6_readAny 37 = .ok (.iconst 0, 1) := by decide +kernel
theorem dX6_readAny_38 : decode cX6_readAny 38 = .ok (.ireturn, 1) := by decide +kernel
theorem dX6_readAny_39 : decode cX6_readAny 39 = .ok (.aload_n 0, 1) := by decide +kernel
theorem dX6_readAny_40 : decode cX6_readAny 40 = .ok (.getfield 9, 3) := by decide +kernel
theorem dX6_readAny_43 : decode cX6_readAny 43 = .ok (.sipush (-315), 3) := by decide +kernel
theorem dX6_readAny_46 : decode cX6_readAny 46 = .ok (.invokevirtual 49, 3) := by decide +kernel
theorem dX6_readAny_49 : decode cX6_readAny 49 = .ok (.iinc 2 1, 3) := by decide +kernel
theorem dX6_readAny_52 : decode cX6_readAny 52 = .ok (.goto (-40), 3) := by decide +kernel
theorem dX6_readAny_55 : decode cX6_readAny 55 = .ok (.iconst 1, 1) := by decide +kernel
theorem dX6_readAny_56 : decode cX6_readAny 56 = .ok (.ireturn, 1) := by decide +kernel
set_option maxRecDepth 20000 in
theorem ggX6_readAll_X6_readAtom : GoodIn wsX6_readAll wsX6_readAtom := goodIn_r _ [25, 26, 27, 28, 29, 1, 30, 31, 32, 33, 34, 35, 36, 37, 38, 39, 5, 14, 15, 16, 17, 18, 19, 20, 40, 41, 42, 43, 44, 45, 46, 47, 48, 6, 7, 8, 9, 10, 11, 12, 13, 0, 2, 3, 4, 21, 22, 23, 24, 49, 50, 51, 52, 53, 54, 55, 56, 57, 58, 59, 60, 61, 62, 63, 64, 65, 66, 67, 68, 69, 70, 71] (by decide +kernel) (by decide +kernel)
set_option maxRecDepth 20000 in
theorem gX6_readAll_X6_readAtom : GoodIn wsX6_readAll (wsV RX6 53 RX6 yX6_readAtom wsX6_readAtom) := goodIn_app (goodIn_of _ (by decide +kernel)) ggX6_readAll_X6_readAtom
set_option maxRecDepth 20000 in
theorem ggX6_readAll_X9_skip : GoodIn wsX6_readAll wsX9_skip := goodIn_r _ [11, 12, 13, 57, 58, 59, 60, 53, 54, 55, 56, 61, 62, 63, 64] (by decide +kernel) (by decide +kernel)
set_option maxRecDepth 20000 in
theorem gX6_readAll_X9_skip_u33X6 : GoodIn wsX6_readAll (va_wsU RX6 33 RX6 "SeeSawHill$TextReader" ⟨"SeeSawHill$LawReader", "skip", "(I)Z"⟩ yX9_skip wsX9_skip) := goodIn_app (goodIn_of _ (by decide +kernel)) ggX6_readAll_X9_skip
set_option maxRecDepth 20000 in
theorem ggX6_readAll_X5_put : GoodIn wsX6_readAll wsX5_put := goodIn_r _ [18, 19, 20, 65, 66, 67, 68, 69, 70, 71] (by decide +kernel) (by decide +kernel)
set_option maxRecDepth 20000 in
theorem gX6_readAll_X5_put : GoodIn wsX6_readAll (wsV RX6 49 RX5 yX5_put wsX5_put) := goodIn_app (goodIn_of _ (by decide +kernel)) ggX6_readAll_X5_put
theorem dX6_readAll_0 : decode cX6_readAll 0 = .ok (.aload_n 0, 1) := by decide +kernel
theorem dX6_readAll_1 : decode cX6_readAll 1 = .ok (.iload_n 1, 1) := by decide +kernel
theorem dX6_readAll_2 : decode cX6_readAll 2 = .ok (.invokevirtual 53, 3) := by decide +kernel
theorem dX6_readAll_5 : decode cX6_readAll 5 = .ok (.ifCond .ne 5, 3) := by decide +kernel
theorem dX6_readAll_8 : decode cX6_readAll 8 = .ok (.iconst 0, 1) := by decide +kernel
theorem dX6_readAll_9 : decode cX6_readAll 9 = .ok (.ireturn, 1) := by decide +kernel
theorem dX6_readAll_10 : decode cX6_readAll 10 = .ok (.iconst 0, 1) := by decide +kernel
theorem dX6_readAll_11 : decode cX6_readAll 11 = .ok (.istore_n 2, 1) := by decide +kernel
theorem dX6_readAll_12 : decode cX6_readAll 12 = .ok (.iload_n 2, 1) := by decide +kernel
theorem dX6_readAll_13 : decode cX6_readAll 13 = .ok (.sipush 400, 3) := by decide +kernel
theorem dX6_readAll_16 : decode cX6_readAll 16 = .ok (.if_icmp .ge 39, 3) := by decide +kernel
theorem dX6_readAll_19 : decode cX6_readAll 19 = .ok (.aload_n 0, 1) := by decide +kernel
theorem dX6_readAll_20 : decode cX6_readAll 20 = .ok (.sipush 316, 3) := by decide +kernel
theorem dX6_readAll_23 : decode cX6_readAll 23 = .ok (.invokevirtual 33, 3) := by decide +kernel
theorem dX6_readAll_26 : decode cX6_readAll 26 = .ok (.ifCond .eq 29, 3) := by decide +kernel
theorem dX6_readAll_29 : decode cX6_readAll 29 = .ok (.aload_n 0, 1) := by decide +kernel
theorem dX6_readAll_30 : decode cX6_readAll 30 = .ok (.iload_n 1, 1) := by decide +kernel
theorem dX6_readAll_31 : decode cX6_readAll 31 = .ok (.invokevirtual 53, 3) := by decide +kernel
theorem dX6_readAll_34 : decode cX6_readAll 34 = .ok (.ifCond .ne 5, 3) := by decide +kernel
theorem dX6_readAll_37 : decode cX6_readAll 37 = .ok (.iconst 0, 1) := by decide +kernel
theorem dX6_readAll_38 : decode cX6_readAll 38 = .ok (.ireturn, 1) := by decide +kernel
theorem dX6_readAll_39 : decode cX6_readAll 39 = .ok (.aload_n 0, 1) := by decide +kernel
theorem dX6_readAll_40 : decode cX6_readAll 40 = .ok (.getfield 9, 3) := by decide +kernel
theorem dX6_readAll_43 : decode cX6_readAll 43 = .ok (.sipush (-316), 3) := by decide +kernel
theorem dX6_readAll_46 : decode cX6_readAll 46 = .ok (.invokevirtual 49, 3) := by decide +kernel
theorem dX6_readAll_49 : decode cX6_readAll 49 = .ok (.iinc 2 1, 3) := by decide +kernel
theorem dX6_readAll_52 : decode cX6_readAll 52 = .ok (.goto (-40), 3) := by decide +kernel
theorem dX6_readAll_55 : decode cX6_readAll 55 = .ok (.iconst 1, 1) := by decide +kernel
theorem dX6_readAll_56 : decode cX6_readAll 56 = .ok (.ireturn, 1) := by decide +kernel
set_option maxRecDepth 20000 in
theorem ggX6_readAtom_X10_code : GoodIn wsX6_readAtom wsX10_code := goodIn_r _ [10, 11, 12, 61, 62, 63, 64] (by decide +kernel) (by decide +kernel)
set_option maxRecDepth 20000 in
theorem gX6_readAtom_X10_code : GoodIn wsX6_readAtom (wsV RX6 23 RX10 yX10_code wsX10_code) := goodIn_app (goodIn_of _ (by decide +kernel)) ggX6_readAtom_X10_code
set_option maxRecDepth 20000 in
theorem ggX6_readAtom_X6_readDeeper : GoodIn wsX6_readAtom wsX6_readDeeper := goodIn_r _ [49, 3, 4, 5, 50, 51, 52, 16, 33, 34, 35, 36, 37, 38, 39, 40, 42, 43, 44, 17, 18, 19, 20, 21, 22, 23, 41, 45, 46, 47, 48, 0, 1, 2, 6, 7, 8, 9, 10, 11, 12, 13, 14, 15, 24, 25, 26, 27, 28, 29, 30, 31, 32, 53, 54, 55, 56, 57, 58, 59, 60, 61, 62, 63, 64, 65, 66, 67, 68, 69, 70, 71] (by decide +kernel) (by decide +kernel)
set_option maxRecDepth 20000 in
theorem gX6_readAtom_X6_readDeeper : GoodIn wsX6_readAtom (wsV RX6 56 RX6 yX6_readDeeper wsX6_readDeeper) := goodIn_app (goodIn_of _ (by decide +kernel)) ggX6_readAtom_X6_readDeeper
set_option maxRecDepth 20000 in
theorem ggX6_readAtom_X5_put : GoodIn wsX6_readAtom wsX5_put := goodIn_r _ [21, 22, 23, 65, 66, 67, 68, 69, 70, 71] (by decide +kernel) (by decide +kernel)
set_option maxRecDepth 20000 in
theorem gX6_readAtom_X5_put : GoodIn wsX6_readAtom (wsV RX6 49 RX5 yX5_put wsX5_put) := goodIn_app (goodIn_of _ (by decide +kernel)) ggX6_readAtom_X5_put
set_option maxRecDepth 20000 in
theorem ggX6_readAtom_X6_readSum : GoodIn wsX6_readAtom wsX6_readSum := goodIn_r _ [27, 1, 2, 3, 4, 5, 6, 7, 8, 9, 10, 11, 12, 28, 29, 30, 31, 32, 17, 18, 19, 20, 21, 22, 23, 33, 34, 35, 36, 37, 38, 39, 40, 57, 58, 59, 60, 53, 54, 55, 56, 61, 62, 63, 64, 65, 66, 67, 68, 69, 70, 71] (by decide +kernel) (by decide +kernel)
set_option maxRecDepth 20000 in
theorem gX6_readAtom_X6_readSum : GoodIn wsX6_readAtom (wsV RX6 60 RX6 yX6_readSum wsX6_readSum) := goodIn_app (goodIn_of _ (by decide +kernel)) ggX6_readAtom_X6_readSum
theorem dX6_readAtom_0 : decode cX6_readAtom 0 = .ok (.aload_n 0, 1) := by decide +kernel
theorem dX6_readAtom_1 : decode cX6_readAtom 1 = .ok (.getfield 15, 3) := by decide +kernel
theorem dX6_readAtom_4 : decode cX6_readAtom 4 = .ok (.aload_n 0, 1) := by decide +kernel
theorem dX6_readAtom_5 : decode cX6_readAtom 5 = .ok (.getfield 19, 3) := by decide +kernel
theorem dX6_readAtom_8 : decode cX6_readAtom 8 = .ok (.invokevirtual 23, 3) := by decide +kernel
theorem dX6_readAtom_11 : decode cX6_readAtom 11 = .ok (.istore_n 2, 1) := by decide +kernel
theorem dX6_readAtom_12 : decode cX6_readAtom 12 = .ok (.iload_n 2, 1) := by decide +kernel
theorem dX6_readAtom_13 : decode cX6_readAtom 13 = .ok (.sipush 317, 3) := by decide +kernel
theorem dX6_readAtom_16 : decode cX6_readAtom 16 = .ok (.if_icmp .eq 9, 3) := by decide +kernel
theorem dX6_readAtom_19 : decode cX6_readAtom 19 = .ok (.iload_n 2, 1) := by decide +kernel
theorem dX6_readAtom_20 : decode cX6_readAtom 20 = .ok (.bipush 40, 2) := by decide +kernel
theorem dX6_readAtom_22 : decode cX6_readAtom 22 = .ok (.if_icmp .ne 26, 3) := by decide +kernel
theorem dX6_readAtom_25 : decode cX6_readAtom 25 = .ok (.iload_n 1, 1) := by decide +kernel
theorem dX6_readAtom_26 : decode cX6_readAtom 26 = .ok (.bipush 6, 2) := by decide +kernel
theorem dX6_readAtom_28 : decode cX6_readAtom 28 = .ok (.if_icmp .ge 18, 3) := by decide +kernel
theorem dX6_readAtom_31 : decode cX6_readAtom 31 = .ok (.aload_n 0, 1) := by decide +kernel
theorem dX6_readAtom_32 : decode cX6_readAtom 32 = .ok (.iload_n 2, 1) := by decide +kernel
theorem dX6_readAtom_33 : decode cX6_readAtom 33 = .ok (.iload_n 1, 1) := by decide +kernel
theorem dX6_readAtom_34 : decode cX6_readAtom 34 = .ok (.iconst 1, 1) := by decide +kernel
theorem dX6_readAtom_35 : decode cX6_readAtom 35 = .ok (.iadd, 1) := by decide +kernel
theorem dX6_readAtom_36 : decode cX6_readAtom 36 = .ok (.invokevirtual 56, 3) := by decide +kernel
theorem dX6_readAtom_39 : decode cX6_readAtom 39 = .ok (.ifCond .eq 7, 3) := by decide +kernel
theorem dX6_readAtom_42 : decode cX6_readAtom 42 = .ok (.iconst 1, 1) := by decide +kernel
theorem dX6_readAtom_43 : decode cX6_readAtom 43 = .ok (.goto 4, 3) := by decide +kernel
theorem dX6_readAtom_46 : decode cX6_readAtom 46 = .ok (.iconst 0, 1) := by decide +kernel
theorem dX6_readAtom_47 : decode cX6_readAtom 47 = .ok (.ireturn, 1) := by decide +kernel
theorem dX6_readAtom_48 : decode cX6_readAtom 48 = .ok (.iload_n 2, 1) := by decide +kernel
theorem dX6_readAtom_49 : decode cX6_readAtom 49 = .ok (.sipush 318, 3) := by decide +kernel
theorem dX6_readAtom_52 : decode cX6_readAtom 52 = .ok (.if_icmp .eq 10, 3) := by decide +kernel
theorem dX6_readAtom_55 : decode cX6_readAtom 55 = .ok (.iload_n 2, 1) := by decide +kernel
theorem dX6_readAtom_56 : decode cX6_readAtom 56 = .ok (.sipush 319, 3) := by decide +kernel
theorem dX6_readAtom_59 : decode cX6_readAtom 59 = .ok (.if_icmp .ne 24, 3) := by decide +kernel
theorem dX6_readAtom_62 : decode cX6_readAtom 62 = .ok (.aload_n 0, 1) := by decide +kernel
theorem dX6_readAtom_63 : decode cX6_readAtom 63 = .ok (.dup, 1) := by decide +kernel
theorem dX6_readAtom_64 : decode cX6_readAtom 64 = .ok (.getfield 19, 3) := by decide +kernel
theorem dX6_readAtom_67 : decode cX6_readAtom 67 = .ok (.iconst 1, 1) := by decide +kernel
theorem dX6_readAtom_68 : decode cX6_readAtom 68 = .ok (.iadd, 1) := by decide +kernel
theorem dX6_readAtom_69 : decode cX6_readAtom 69 = .ok (.putfield 19, 3) := by decide +kernel
theorem dX6_readAtom_72 : decode cX6_readAtom 72 = .ok (.aload_n 0, 1) := by decide +kernel
theorem dX6_readAtom_73 : decode cX6_readAtom 73 = .ok (.getfield 9, 3) := by decide +kernel
theorem dX6_readAtom_76 : decode cX6_readAtom 76 = .ok (.iload_n 2, 1) := by decide +kernel
theorem dX6_readAtom_77 : decode cX6_readAtom 77 = .ok (.ineg, 1) := by decide +kernel
theorem dX6_readAtom_78 : decode cX6_readAtom 78 = .ok (.invokevirtual 49, 3) := by decide +kernel
theorem dX6_readAtom_81 : decode cX6_readAtom 81 = .ok (.iconst 1, 1) := by decide +kernel
theorem dX6_readAtom_82 : decode cX6_readAtom 82 = .ok (.ireturn, 1) := by decide +kernel
theorem dX6_readAtom_83 : decode cX6_readAtom 83 = .ok (.aload_n 0, 1) := by decide +kernel
theorem dX6_readAtom_84 : decode cX6_readAtom 84 = .ok (.invokevirtual 60, 3) := by decide +kernel
theorem dX6_readAtom_87 : decode cX6_readAtom 87 = .ok (.ifCond .ne 5, 3) := by decide +kernel
theorem dX6_readAtom_90 : decode cX6_readAtom 90 = .ok (.iconst 0, 1) := by decide +kernel
theorem dX6_readAtom_91 : decode cX6_readAtom 91 = .ok (.ireturn, 1) := by decide +kernel
theorem dX6_readAtom_92 : decode cX6_readAtom 92 = .ok (.aload_n 0, 1) := by decide +kernel
theorem dX6_readAtom_93 : decode cX6_readAtom 93 = .ok (.getfield 15, 3) := by decide +kernel
theorem dX6_readAtom_96 : decode cX6_readAtom 96 = .ok (.aload_n 0, 1) := by decide +kernel
theorem dX6_readAtom_97 : decode cX6_readAtom 97 = .ok (.getfield 19, 3) := by decide +kernel
theorem dX6_readAtom_100 : decode cX6_readAtom 100 = .ok (.invokevirtual 23, 3) := by decide +kernel
theorem dX6_readAtom_103 : decode cX6_readAtom 103 = .ok (.istore_n 3, 1) := by decide +kernel
theorem dX6_readAtom_104 : decode cX6_readAtom 104 = .ok (.iload_n 3, 1) := by decide +kernel
theorem dX6_readAtom_105 : decode cX6_readAtom 105 = .ok (.bipush 60, 2) := by decide +kernel
theorem dX6_readAtom_107 : decode cX6_readAtom 107 = .ok (.if_icmp .eq 11, 3) := by decide +kernel
theorem dX6_readAtom_110 : decode cX6_readAtom 110 = .ok (.iload_n 3, 1) := by decide +kernel
theorem dX6_readAtom_111 : decode cX6_readAtom 111 = .ok (.bipush 62, 2) := by decide +kernel
theorem dX6_readAtom_113 : decode cX6_readAtom 113 = .ok (.if_icmp .eq 5, 3) := by decide +kernel
theorem dX6_readAtom_116 : decode cX6_readAtom 116 = .ok (.iconst 0, 1) := by decide +kernel
theorem dX6_readAtom_117 : decode cX6_readAtom 117 = .ok (.ireturn, 1) := by decide +kernel
theorem dX6_readAtom_118 : decode cX6_readAtom 118 = .ok (.aload_n 0, 1) := by decide +kernel
theorem dX6_readAtom_119 : decode cX6_readAtom 119 = .ok (.dup, 1) := by decide +kernel
theorem dX6_readAtom_120 : decode cX6_readAtom 120 = .ok (.getfield 19, 3) := by decide +kernel
theorem dX6_readAtom_123 : decode cX6_readAtom 123 = .ok (.iconst 1, 1) := by decide +kernel
theorem dX6_readAtom_124 : decode cX6_readAtom 124 = .ok (.iadd, 1) := by decide +kernel
theorem dX6_readAtom_125 : decode cX6_readAtom 125 = .ok (.putfield 19, 3) := by decide +kernel
theorem dX6_readAtom_128 : decode cX6_readAtom 128 = .ok (.aload_n 0, 1) := by decide +kernel
theorem dX6_readAtom_129 : decode cX6_readAtom 129 = .ok (.invokevirtual 60, 3) := by decide +kernel
theorem dX6_readAtom_132 : decode cX6_readAtom 132 = .ok (.ifCond .ne 5, 3) := by decide +kernel
theorem dX6_readAtom_135 : decode cX6_readAtom 135 = .ok (.iconst 0, 1) := by decide +kernel
theorem dX6_readAtom_136 : decode cX6_readAtom 136 = .ok (.ireturn, 1) := by decide +kernel
theorem dX6_readAtom_137 : decode cX6_readAtom 137 = .ok (.aload_n 0, 1) := by decide +kernel
theorem dX6_readAtom_138 : decode cX6_readAtom 138 = .ok (.getfield 9, 3) := by decide +kernel
theorem dX6_readAtom_141 : decode cX6_readAtom 141 = .ok (.iload_n 3, 1) := by decide +kernel
theorem dX6_readAtom_142 : decode cX6_readAtom 142 = .ok (.ineg, 1) := by decide +kernel
theorem dX6_readAtom_143 : decode cX6_readAtom 143 = .ok (.invokevirtual 49, 3) := by decide +kernel
theorem dX6_readAtom_146 : decode cX6_readAtom 146 = .ok (.iconst 1, 1) := by decide +kernel
theorem dX6_readAtom_147 : decode cX6_readAtom 147 = .ok (.ireturn, 1) := by decide +kernel
set_option maxRecDepth 20000 in
theorem ggX6_readDeeper_X6_readAny : GoodIn wsX6_readDeeper wsX6_readAny := goodIn_r _ [27, 3, 28, 29, 30, 7, 8, 9, 10, 11, 12, 13, 14, 15, 19, 20, 21, 22, 23, 24, 25, 26, 16, 17, 18, 31, 32, 33, 1, 2, 34, 35, 36, 37, 38, 39, 40, 41, 42, 43, 44, 45, 46, 47, 48, 49, 50, 51, 52, 0, 4, 5, 6, 53, 54, 55, 56, 57, 58, 59, 60, 61, 62, 63, 64, 65, 66, 67, 68, 69, 70, 71] (by decide +kernel) (by decide +kernel)
set_option maxRecDepth 20000 in
theorem gX6_readDeeper_X6_readAny : GoodIn wsX6_readDeeper (wsV RX6 37 RX6 yX6_readAny wsX6_readAny) := goodIn_app (goodIn_of _ (by decide +kernel)) ggX6_readDeeper_X6_readAny
set_option maxRecDepth 20000 in
theorem ggX6_readDeeper_X9_skip : GoodIn wsX6_readDeeper wsX9_skip := goodIn_r _ [13, 14, 15, 57, 58, 59, 60, 53, 54, 55, 56, 61, 62, 63, 64] (by decide +kernel) (by decide +kernel)
set_option maxRecDepth 20000 in
theorem gX6_readDeeper_X9_skip_u33X6 : GoodIn wsX6_readDeeper (va_wsU RX6 33 RX6 "SeeSawHill$TextReader" ⟨"SeeSawHill$LawReader", "skip", "(I)Z"⟩ yX9_skip wsX9_skip) := goodIn_app (goodIn_of _ (by decide +kernel)) ggX6_readDeeper_X9_skip
set_option maxRecDepth 20000 in
theorem ggX6_readDeeper_X6_readAtom : GoodIn wsX6_readDeeper wsX6_readAtom := goodIn_r _ [31, 32, 33, 1, 2, 3, 34, 35, 36, 37, 38, 39, 40, 41, 42, 43, 7, 19, 20, 21, 22, 23, 24, 25, 44, 45, 46, 47, 48, 49, 50, 51, 52, 8, 9, 10, 11, 12, 13, 14, 15, 26, 16, 17, 18, 27, 28, 29, 30, 0, 4, 5, 6, 53, 54, 55, 56, 57, 58, 59, 60, 61, 62, 63, 64, 65, 66, 67, 68, 69, 70, 71] (by decide +kernel) (by decide +kernel)
set_option maxRecDepth 20000 in
theorem gX6_readDeeper_X6_readAtom : GoodIn wsX6_readDeeper (wsV RX6 53 RX6 yX6_readAtom wsX6_readAtom) := goodIn_app (goodIn_of _ (by decide +kernel)) ggX6_readDeeper_X6_readAtom
set_option maxRecDepth 20000 in
theorem ggX6_readDeeper_X5_put : GoodIn wsX6_readDeeper wsX5_put := goodIn_r _ [23, 24, 25, 65, 66, 67, 68, 69, 70, 71] (by decide +kernel) (by decide +kernel)
set_option maxRecDepth 20000 in
theorem gX6_readDeeper_X5_put : GoodIn wsX6_readDeeper (wsV RX6 49 RX5 yX5_put wsX5_put) := goodIn_app (goodIn_of _ (by decide +kernel)) ggX6_readDeeper_X5_put
theorem dX6_readDeeper_0 : decode cX6_readDeeper 0 = .ok (.aload_n 0, 1) := by decide +kernel
theorem dX6_readDeeper_1 : decode cX6_readDeeper 1 = .ok (.dup, 1) := by decide +kernel
theorem dX6_readDeeper_2 : decode cX6_readDeeper 2 = .ok (.getfield 19, 3) := by decide +kernel
theorem dX6_readDeeper_5 : decode cX6_readDeeper 5 = .ok (.iconst 1, 1) := by decide +kernel
theorem dX6_readDeeper_6 : decode cX6_readDeeper 6 = .ok (.iadd, 1) := by decide +kernel
theorem dX6_readDeeper_7 : decode cX6_readDeeper 7 = .ok (.putfield 19, 3) := by decide +kernel
theorem dX6_readDeeper_10 : decode cX6_readDeeper 10 = .ok (.iload_n 1, 1) := by decide +kernel
theorem dX6_readDeeper_11 : decode cX6_readDeeper 11 = .ok (.bipush 40, 2) := by decide +kernel
theorem dX6_readDeeper_13 : decode cX6_readDeeper 13 = .ok (.if_icmp .ne 26, 3) := by decide +kernel
theorem dX6_readDeeper_16 : decode cX6_readDeeper 16 = .ok (.aload_n 0, 1) := by decide +kernel
theorem dX6_readDeeper_17 : decode cX6_readDeeper 17 = .ok (.iload_n 2, 1) := by decide +kernel
theorem dX6_readDeeper_18 : decode cX6_readDeeper 18 = .ok (.invokevirtual 37, 3) := by decide +kernel
theorem dX6_readDeeper_21 : decode cX6_readDeeper 21 = .ok (.ifCond .eq 16, 3) := by decide +kernel
theorem dX6_readDeeper_24 : decode cX6_readDeeper 24 = .ok (.aload_n 0, 1) := by decide +kernel
theorem dX6_readDeeper_25 : decode cX6_readDeeper 25 = .ok (.bipush 41, 2) := by decide +kernel
theorem dX6_readDeeper_27 : decode cX6_readDeeper 27 = .ok (.invokevirtual 33, 3) := by decide +kernel
theorem dX6_readDeeper_30 : decode cX6_readDeeper 30 = .ok (.ifCond .eq 7, 3) := by decide +kernel
theorem dX6_readDeeper_33 : decode cX6_readDeeper 33 = .ok (.iconst 1, 1) := by decide +kernel
theorem dX6_readDeeper_34 : decode cX6_readDeeper 34 = .ok (.goto 4, 3) := by decide +kernel
theorem dX6_readDeeper_37 : decode cX6_readDeeper 37 = .ok (.iconst 0, 1) := by decide +kernel
theorem dX6_readDeeper_38 : decode cX6_readDeeper 38 = .ok (.ireturn, 1) := by decide +kernel
theorem dX6_readDeeper_39 : decode cX6_readDeeper 39 = .ok (.aload_n 0, 1) := by decide +kernel
theorem dX6_readDeeper_40 : decode cX6_readDeeper 40 = .ok (.iload_n 2, 1) := by decide +kernel
theorem dX6_readDeeper_41 : decode cX6_readDeeper 41 = .ok (.invokevirtual 53, 3) := by decide +kernel
theorem dX6_readDeeper_44 : decode cX6_readDeeper 44 = .ok (.ifCond .ne 5, 3) := by decide +kernel
theorem dX6_readDeeper_47 : decode cX6_readDeeper 47 = .ok (.iconst 0, 1) := by decide +kernel
theorem dX6_readDeeper_48 : decode cX6_readDeeper 48 = .ok (.ireturn, 1) := by decide +kernel
theorem dX6_readDeeper_49 : decode cX6_readDeeper 49 = .ok (.aload_n 0, 1) := by decide +kernel
theorem dX6_readDeeper_50 : decode cX6_readDeeper 50 = .ok (.getfield 9, 3) := by decide +kernel
theorem dX6_readDeeper_53 : decode cX6_readDeeper 53 = .ok (.sipush (-317), 3) := by decide +kernel
theorem dX6_readDeeper_56 : decode cX6_readDeeper 56 = .ok (.invokevirtual 49, 3) := by decide +kernel
theorem dX6_readDeeper_59 : decode cX6_readDeeper 59 = .ok (.iconst 1, 1) := by decide +kernel
theorem dX6_readDeeper_60 : decode cX6_readDeeper 60 = .ok (.ireturn, 1) := by decide +kernel
set_option maxRecDepth 20000 in
theorem ggX6_readSum_X10_code : GoodIn wsX6_readSum wsX10_code := goodIn_r _ [10, 11, 12, 41, 42, 43, 44] (by decide +kernel) (by decide +kernel)
set_option maxRecDepth 20000 in
theorem gX6_readSum_X10_code : GoodIn wsX6_readSum (wsV RX6 23 RX10 yX10_code wsX10_code) := goodIn_app (goodIn_of _ (by decide +kernel)) ggX6_readSum_X10_code
set_option maxRecDepth 20000 in
theorem ggX6_readSum_X10_value : GoodIn wsX6_readSum wsX10_value := goodIn_r _ [16, 11, 17, 41, 42, 43, 44] (by decide +kernel) (by decide +kernel)
set_option maxRecDepth 20000 in
theorem gX6_readSum_X10_value : GoodIn wsX6_readSum (wsV RX6 64 RX10 yX10_value wsX10_value) := goodIn_app (goodIn_of _ (by decide +kernel)) ggX6_readSum_X10_value
set_option maxRecDepth 20000 in
theorem ggX6_readSum_X5_put : GoodIn wsX6_readSum wsX5_put := goodIn_r _ [22, 23, 24, 45, 46, 47, 48, 49, 50, 51] (by decide +kernel) (by decide +kernel)
set_option maxRecDepth 20000 in
theorem gX6_readSum_X5_put : GoodIn wsX6_readSum (wsV RX6 49 RX5 yX5_put wsX5_put) := goodIn_app (goodIn_of _ (by decide +kernel)) ggX6_readSum_X5_put
set_option maxRecDepth 20000 in
theorem ggX6_readSum_X9_skip : GoodIn wsX6_readSum wsX9_skip := goodIn_r _ [30, 31, 32, 33, 34, 35, 36, 37, 38, 39, 40, 41, 42, 43, 44] (by decide +kernel) (by decide +kernel)
set_option maxRecDepth 20000 in
theorem gX6_readSum_X9_skip_u33X6 : GoodIn wsX6_readSum (va_wsU RX6 33 RX6 "SeeSawHill$TextReader" ⟨"SeeSawHill$LawReader", "skip", "(I)Z"⟩ yX9_skip wsX9_skip) := goodIn_app (goodIn_of _ (by decide +kernel)) ggX6_readSum_X9_skip
theorem dX6_readSum_0 : decode cX6_readSum 0 = .ok (.iconst 0, 1) := by decide +kernel
theorem dX6_readSum_1 : decode cX6_readSum 1 = .ok (.istore_n 1, 1) := by decide +kernel
theorem dX6_readSum_2 : decode cX6_readSum 2 = .ok (.iload_n 1, 1) := by decide +kernel
theorem dX6_readSum_3 : decode cX6_readSum 3 = .ok (.sipush 400, 3) := by decide +kernel
theorem dX6_readSum_6 : decode cX6_readSum 6 = .ok (.if_icmp .ge 122, 3) := by decide +kernel
theorem dX6_readSum_9 : decode cX6_readSum 9 = .ok (.aload_n 0, 1) := by decide +kernel
theorem dX6_readSum_10 : decode cX6_readSum 10 = .ok (.getfield 15, 3) := by decide +kernel
theorem dX6_readSum_13 : decode cX6_readSum 13 = .ok (.aload_n 0, 1) := by decide +kernel
theorem dX6_readSum_14 : decode cX6_readSum 14 = .ok (.getfield 19, 3) := by decide +kernel
theorem dX6_readSum_17 : decode cX6_readSum 17 = .ok (.invokevirtual 23, 3) := by decide +kernel
theorem dX6_readSum_20 : decode cX6_readSum 20 = .ok (.istore_n 2, 1) := by decide +kernel
theorem dX6_readSum_21 : decode cX6_readSum 21 = .ok (.iload_n 2, 1) := by decide +kernel
theorem dX6_readSum_22 : decode cX6_readSum 22 = .ok (.sipush 302, 3) := by decide +kernel
theorem dX6_readSum_25 : decode cX6_readSum 25 = .ok (.if_icmp .eq 17, 3) := by decide +kernel
theorem dX6_readSum_28 : decode cX6_readSum 28 = .ok (.iload_n 2, 1) := by decide +kernel
theorem dX6_readSum_29 : decode cX6_readSum 29 = .ok (.sipush 320, 3) := by decide +kernel
theorem dX6_readSum_32 : decode cX6_readSum 32 = .ok (.if_icmp .lt 14, 3) := by decide +kernel
theorem dX6_readSum_35 : decode cX6_readSum 35 = .ok (.iload_n 2, 1) := by decide +kernel
theorem dX6_readSum_36 : decode cX6_readSum 36 = .ok (.sipush 324, 3) := by decide +kernel
theorem dX6_readSum_39 : decode cX6_readSum 39 = .ok (.if_icmp .gt 7, 3) := by decide +kernel
theorem dX6_readSum_42 : decode cX6_readSum 42 = .ok (.iconst 1, 1) := by decide +kernel
theorem dX6_readSum_43 : decode cX6_readSum 43 = .ok (.goto 4, 3) := by decide +kernel
theorem dX6_readSum_46 : decode cX6_readSum 46 = .ok (.iconst 0, 1) := by decide +kernel
theorem dX6_readSum_47 : decode cX6_readSum 47 = .ok (.istore_n 3, 1) := by decide +kernel
theorem dX6_readSum_48 : decode cX6_readSum 48 = .ok (.iload_n 3, 1) := by decide +kernel
theorem dX6_readSum_49 : decode cX6_readSum 49 = .ok (.ifCond .ne 12, 3) := by decide +kernel
theorem dX6_readSum_52 : decode cX6_readSum 52 = .ok (.iload_n 2, 1) := by decide +kernel
theorem dX6_readSum_53 : decode cX6_readSum 53 = .ok (.sipush 256, 3) := by decide +kernel
theorem dX6_readSum_56 : decode cX6_readSum 56 = .ok (.if_icmp .eq 5, 3) := by decide +kernel
theorem dX6_readSum_59 : decode cX6_readSum 59 = .ok (.iconst 0, 1) := by decide +kernel
theorem dX6_readSum_60 : decode cX6_readSum 60 = .ok (.ireturn, 1) := by decide +kernel
theorem dX6_readSum_61 : decode cX6_readSum 61 = .ok (.aload_n 0, 1) := by decide +kernel
theorem dX6_readSum_62 : decode cX6_readSum 62 = .ok (.getfield 9, 3) := by decide +kernel
theorem dX6_readSum_65 : decode cX6_readSum 65 = .ok (.iload_n 3, 1) := by decide +kernel
theorem dX6_readSum_66 : decode cX6_readSum 66 = .ok (.ifCond .eq 8, 3) := by decide +kernel
theorem dX6_readSum_69 : decode cX6_readSum 69 = .ok (.iload_n 2, 1) := by decide +kernel
theorem dX6_readSum_70 : decode cX6_readSum 70 = .ok (.ineg, 1) := by decide +kernel
theorem dX6_readSum_71 : decode cX6_readSum 71 = .ok (.goto 14, 3) := by decide +kernel
theorem dX6_readSum_74 : decode cX6_readSum 74 = .ok (.aload_n 0, 1) := by decide +kernel
theorem dX6_readSum_75 : decode cX6_readSum 75 = .ok (.getfield 15, 3) := by decide +kernel
theorem dX6_readSum_78 : decode cX6_readSum 78 = .ok (.aload_n 0, 1) := by decide +kernel
theorem dX6_readSum_79 : decode cX6_readSum 79 = .ok (.getfield 19, 3) := by decide +kernel
theorem dX6_readSum_82 : decode cX6_readSum 82 = .ok (.invokevirtual 64, 3) := by decide +kernel
theorem dX6_readSum_85 : decode cX6_readSum 85 = .ok (.invokevirtual 49, 3) := by decide +kernel
theorem dX6_readSum_88 : decode cX6_readSum 88 = .ok (.aload_n 0, 1) := by decide +kernel
theorem dX6_readSum_89 : decode cX6_readSum 89 = .ok (.dup, 1) := by decide +kernel
theorem dX6_readSum_90 : decode cX6_readSum 90 = .ok (.getfield 19, 3) := by decide +kernel
theorem dX6_readSum_93 : decode cX6_readSum 93 = .ok (.iconst 1, 1) := by decide +kernel
theorem dX6_readSum_94 : decode cX6_readSum 94 = .ok (.iadd, 1) := by decide +kernel
theorem dX6_readSum_95 : decode cX6_readSum 95 = .ok (.putfield 19, 3) := by decide +kernel
theorem dX6_readSum_98 : decode cX6_readSum 98 = .ok (.iload_n 1, 1) := by decide +kernel
theorem dX6_readSum_99 : decode cX6_readSum 99 = .ok (.ifCond .le 12, 3) := by decide +kernel
theorem dX6_readSum_102 : decode cX6_readSum 102 = .ok (.aload_n 0, 1) := by decide +kernel
theorem dX6_readSum_103 : decode cX6_readSum 103 = .ok (.getfield 9, 3) := by decide +kernel
theorem dX6_readSum_106 : decode cX6_readSum 106 = .ok (.bipush (-43), 2) := by decide +kernel
theorem dX6_readSum_108 : decode cX6_readSum 108 = .ok (.invokevirtual 49, 3) := by decide +kernel
theorem dX6_readSum_111 : decode cX6_readSum 111 = .ok (.aload_n 0, 1) := by decide +kernel
theorem dX6_readSum_112 : decode cX6_readSum 112 = .ok (.bipush 43, 2) := by decide +kernel
theorem dX6_readSum_114 : decode cX6_readSum 114 = .ok (.invokevirtual 33, 3) := by decide +kernel
theorem dX6_readSum_117 : decode cX6_readSum 117 = .ok (.ifCond .ne 5, 3) := by decide +kernel
theorem dX6_readSum_120 : decode cX6_readSum 120 = .ok (.iconst 1, 1) := by decide +kernel
theorem dX6_readSum_121 : decode cX6_readSum 121 = .ok (.ireturn, 1) := by decide +kernel
theorem dX6_readSum_122 : decode cX6_readSum 122 = .ok (.iinc 1 1, 3) := by decide +kernel
theorem dX6_readSum_125 : decode cX6_readSum 125 = .ok (.goto (-123), 3) := by decide +kernel
theorem dX6_readSum_128 : decode cX6_readSum 128 = .ok (.iconst 0, 1) := by decide +kernel
theorem dX6_readSum_129 : decode cX6_readSum 129 = .ok (.ireturn, 1) := by decide +kernel
set_option maxRecDepth 20000 in
theorem ggX7_howMuch_X7_leastSum : GoodIn wsX7_howMuch wsX7_leastSum := goodIn_r _ [4, 5, 6, 7, 8, 9, 10, 11, 12, 13, 3, 14, 1, 2] (by decide +kernel) (by decide +kernel)
set_option maxRecDepth 20000 in
theorem gX7_howMuch_X7_leastSum : GoodIn wsX7_howMuch (va_wsS RX7 9 yX7_leastSum wsX7_leastSum) := goodIn_app (goodIn_of _ (by decide +kernel)) ggX7_howMuch_X7_leastSum
theorem dX7_howMuch_0 : decode cX7_howMuch 0 = .ok (.aload_n 0, 1) := by decide +kernel
theorem dX7_howMuch_1 : decode cX7_howMuch 1 = .ok (.iload_n 1, 1) := by decide +kernel
theorem dX7_howMuch_2 : decode cX7_howMuch 2 = .ok (.iconst 0, 1) := by decide +kernel
theorem dX7_howMuch_3 : decode cX7_howMuch 3 = .ok (.invokestatic 9, 3) := by decide +kernel
theorem dX7_howMuch_6 : decode cX7_howMuch 6 = .ok (.ireturn, 1) := by decide +kernel
set_option maxRecDepth 20000 in
theorem ggX7_leastSum_X7_lowest : GoodIn wsX7_leastSum wsX7_lowest := goodIn_r _ [11] (by decide +kernel) (by decide +kernel)
set_option maxRecDepth 20000 in
theorem gX7_leastSum_X7_lowest : GoodIn wsX7_leastSum (va_wsS RX7 15 yX7_lowest wsX7_lowest) := goodIn_app (goodIn_of _ (by decide +kernel)) ggX7_leastSum_X7_lowest
set_option maxRecDepth 20000 in
theorem ggX7_leastSum_X7_leastSum : GoodIn wsX7_leastSum wsX7_leastSum := goodIn_r _ [0, 1, 2, 3, 4, 5, 6, 7, 8, 9, 10, 11, 12, 13] (by decide +kernel) (by decide +kernel)
set_option maxRecDepth 20000 in
theorem gX7_leastSum_X7_leastSum : GoodIn wsX7_leastSum (va_wsS RX7 9 yX7_leastSum wsX7_leastSum) := goodIn_app (goodIn_of _ (by decide +kernel)) ggX7_leastSum_X7_leastSum
theorem dX7_leastSum_0 : decode cX7_leastSum 0 = .ok (.iload_n 1, 1) := by decide +kernel
theorem dX7_leastSum_1 : decode cX7_leastSum 1 = .ok (.invokestatic 15, 3) := by decide +kernel
theorem dX7_leastSum_4 : decode cX7_leastSum 4 = .ok (.istore_n 3, 1) := by decide +kernel
theorem dX7_leastSum_5 : decode cX7_leastSum 5 = .ok (.iload_n 3, 1) := by decide +kernel
theorem dX7_leastSum_6 : decode cX7_leastSum 6 = .ok (.iconst (-1), 1) := by decide +kernel
theorem dX7_leastSum_7 : decode cX7_leastSum 7 = .ok (.if_icmp .eq 9, 3) := by decide +kernel
theorem dX7_leastSum_10 : decode cX7_leastSum 10 = .ok (.iload_n 2, 1) := by decide +kernel
theorem dX7_leastSum_11 : decode cX7_leastSum 11 = .ok (.bipush 8, 2) := by decide +kernel
theorem dX7_leastSum_13 : decode cX7_leastSum 13 = .ok (.if_icmp .le 5, 3) := by decide +kernel
theorem dX7_leastSum_16 : decode cX7_leastSum 16 = .ok (.iconst 0, 1) := by decide +kernel
theorem dX7_leastSum_17 : decode cX7_leastSum 17 = .ok (.ireturn, 1) := by decide +kernel
theorem dX7_leastSum_18 : decode cX7_leastSum 18 = .ok (.iload_n 1, 1) := by decide +kernel
theorem dX7_leastSum_19 : decode cX7_leastSum 19 = .ok (.iconst 1, 1) := by decide +kernel
theorem dX7_leastSum_20 : decode cX7_leastSum 20 = .ok (.iload_n 3, 1) := by decide +kernel
theorem dX7_leastSum_21 : decode cX7_leastSum 21 = .ok (.ishl, 1) := by decide +kernel
theorem dX7_leastSum_22 : decode cX7_leastSum 22 = .ok (.iconst (-1), 1) := by decide +kernel
theorem dX7_leastSum_23 : decode cX7_leastSum 23 = .ok (.ixor, 1) := by decide +kernel
theorem dX7_leastSum_24 : decode cX7_leastSum 24 = .ok (.iand, 1) := by decide +kernel
theorem dX7_leastSum_25 : decode cX7_leastSum 25 = .ok (.istore 4, 2) := by decide +kernel
theorem dX7_leastSum_27 : decode cX7_leastSum 27 = .ok (.iconst (-1), 1) := by decide +kernel
theorem dX7_leastSum_28 : decode cX7_leastSum 28 = .ok (.istore 5, 2) := by decide +kernel
theorem dX7_leastSum_30 : decode cX7_leastSum 30 = .ok (.iload_n 3, 1) := by decide +kernel
theorem dX7_leastSum_31 : decode cX7_leastSum 31 = .ok (.iconst 1, 1) := by decide +kernel
theorem dX7_leastSum_32 : decode cX7_leastSum 32 = .ok (.iadd, 1) := by decide +kernel
theorem dX7_leastSum_33 : decode cX7_leastSum 33 = .ok (.istore 6, 2) := by decide +kernel
theorem dX7_leastSum_35 : decode cX7_leastSum 35 = .ok (.iload 6, 2) := by decide +kernel
theorem dX7_leastSum_37 : decode cX7_leastSum 37 = .ok (.bipush 10, 2) := by decide +kernel
theorem dX7_leastSum_39 : decode cX7_leastSum 39 = .ok (.if_icmp .ge 73, 3) := by decide +kernel
theorem dX7_leastSum_42 : decode cX7_leastSum 42 = .ok (.iload 4, 2) := by decide +kernel
theorem dX7_leastSum_44 : decode cX7_leastSum 44 = .ok (.iload 6, 2) := by decide +kernel
theorem dX7_leastSum_46 : decode cX7_leastSum 46 = .ok (.ishr, 1) := by decide +kernel
theorem dX7_leastSum_47 : decode cX7_leastSum 47 = .ok (.iconst 1, 1) := by decide +kernel
theorem dX7_leastSum_48 : decode cX7_leastSum 48 = .ok (.iand, 1) := by decide +kernel
theorem dX7_leastSum_49 : decode cX7_leastSum 49 = .ok (.ifCond .eq 57, 3) := by decide +kernel
theorem dX7_leastSum_52 : decode cX7_leastSum 52 = .ok (.aload_n 0, 1) := by decide +kernel
theorem dX7_leastSum_53 : decode cX7_leastSum 53 = .ok (.iload 4, 2) := by decide +kernel
theorem dX7_leastSum_55 : decode cX7_leastSum 55 = .ok (.iconst 1, 1) := by decide +kernel
theorem dX7_leastSum_56 : decode cX7_leastSum 56 = .ok (.iload 6, 2) := by decide +kernel
theorem dX7_leastSum_58 : decode cX7_leastSum 58 = .ok (.ishl, 1) := by decide +kernel
theorem dX7_leastSum_59 : decode cX7_leastSum 59 = .ok (.iconst (-1), 1) := by decide +kernel
theorem dX7_leastSum_60 : decode cX7_leastSum 60 = .ok (.ixor, 1) := by decide +kernel
theorem dX7_leastSum_61 : decode cX7_leastSum 61 = .ok (.iand, 1) := by decide +kernel
theorem dX7_leastSum_62 : decode cX7_leastSum 62 = .ok (.iload_n 2, 1) := by decide +kernel
theorem dX7_leastSum_63 : decode cX7_leastSum 63 = .ok (.iconst 1, 1) := by decide +kernel
theorem dX7_leastSum_64 : decode cX7_leastSum 64 = .ok (.iadd, 1) := by decide +kernel
theorem dX7_leastSum_65 : decode cX7_leastSum 65 = .ok (.invokestatic 9, 3) := by decide +kernel
theorem dX7_leastSum_68 : decode cX7_leastSum 68 = .ok (.istore 7, 2) := by decide +kernel
theorem dX7_leastSum_70 : decode cX7_leastSum 70 = .ok (.aload_n 0, 1) := by decide +kernel
theorem dX7_leastSum_71 : decode cX7_leastSum 71 = .ok (.iload_n 3, 1) := by decide +kernel
theorem dX7_leastSum_72 : decode cX7_leastSum 72 = .ok (.iaload, 1) := by decide +kernel
theorem dX7_leastSum_73 : decode cX7_leastSum 73 = .ok (.aload_n 0, 1) := by decide +kernel
theorem dX7_leastSum_74 : decode cX7_leastSum 74 = .ok (.iload 6, 2) := by decide +kernel
theorem dX7_leastSum_76 : decode cX7_leastSum 76 = .ok (.iaload, 1) := by decide +kernel
theorem dX7_leastSum_77 : decode cX7_leastSum 77 = .ok (.isub, 1) := by decide +kernel
theorem dX7_leastSum_78 : decode cX7_leastSum 78 = .ok (.invokestatic 19, 3) := by decide +kernel
theorem dX7_leastSum_81 : decode cX7_leastSum 81 = .ok (.iload 7, 2) := by decide +kernel
theorem dX7_leastSum_83 : decode cX7_leastSum 83 = .ok (.iadd, 1) := by decide +kernel
theorem dX7_leastSum_84 : decode cX7_leastSum 84 = .ok (.istore 8, 2) := by decide +kernel
theorem dX7_leastSum_86 : decode cX7_leastSum 86 = .ok (.iload 5, 2) := by decide +kernel
theorem dX7_leastSum_88 : decode cX7_leastSum 88 = .ok (.iconst (-1), 1) := by decide +kernel
theorem dX7_leastSum_89 : decode cX7_leastSum 89 = .ok (.if_icmp .ne 8, 3) := by decide +kernel
theorem dX7_leastSum_92 : decode cX7_leastSum 92 = .ok (.iload 8, 2) := by decide +kernel
theorem dX7_leastSum_94 : decode cX7_leastSum 94 = .ok (.goto 10, 3) := by decide +kernel
theorem dX7_leastSum_97 : decode cX7_leastSum 97 = .ok (.iload 5, 2) := by decide +kernel
theorem dX7_leastSum_99 : decode cX7_leastSum 99 = .ok (.iload 8, 2) := by decide +kernel
theorem dX7_leastSum_101 : decode cX7_leastSum 101 = .ok (.invokestatic 24, 3) := by decide +kernel
theorem dX7_leastSum_104 : decode cX7_leastSum 104 = .ok (.istore 5, 2) := by decide +kernel
theorem dX7_leastSum_106 : decode cX7_leastSum 106 = .ok (.iinc 6 1, 3) := by decide +kernel
theorem dX7_leastSum_109 : decode cX7_leastSum 109 = .ok (.goto (-74), 3) := by decide +kernel
theorem dX7_leastSum_112 : decode cX7_leastSum 112 = .ok (.iload 5, 2) := by decide +kernel
theorem dX7_leastSum_114 : decode cX7_leastSum 114 = .ok (.ireturn, 1) := by decide +kernel
theorem dX7_lowest_0 : decode cX7_lowest 0 = .ok (.iconst 0, 1) := by decide +kernel
theorem dX7_lowest_1 : decode cX7_lowest 1 = .ok (.istore_n 1, 1) := by decide +kernel
theorem dX7_lowest_2 : decode cX7_lowest 2 = .ok (.iload_n 1, 1) := by decide +kernel
theorem dX7_lowest_3 : decode cX7_lowest 3 = .ok (.bipush 10, 2) := by decide +kernel
theorem dX7_lowest_5 : decode cX7_lowest 5 = .ok (.if_icmp .ge 19, 3) := by decide +kernel
theorem dX7_lowest_8 : decode cX7_lowest 8 = .ok (.iload_n 0, 1) := by decide +kernel
theorem dX7_lowest_9 : decode cX7_lowest 9 = .ok (.iload_n 1, 1) := by decide +kernel
theorem dX7_lowest_10 : decode cX7_lowest 10 = .ok (.ishr, 1) := by decide +kernel
theorem dX7_lowest_11 : decode cX7_lowest 11 = .ok (.iconst 1, 1) := by decide +kernel
theorem dX7_lowest_12 : decode cX7_lowest 12 = .ok (.iand, 1) := by decide +kernel
theorem dX7_lowest_13 : decode cX7_lowest 13 = .ok (.ifCond .eq 5, 3) := by decide +kernel
theorem dX7_lowest_16 : decode cX7_lowest 16 = .ok (.iload_n 1, 1) := by decide +kernel
theorem dX7_lowest_17 : decode cX7_lowest 17 = .ok (.ireturn, 1) := by decide +kernel
theorem dX7_lowest_18 : decode cX7_lowest 18 = .ok (.iinc 1 1, 3) := by decide +kernel
theorem dX7_lowest_21 : decode cX7_lowest 21 = .ok (.goto (-19), 3) := by decide +kernel
theorem dX7_lowest_24 : decode cX7_lowest 24 = .ok (.iconst (-1), 1) := by decide +kernel
theorem dX7_lowest_25 : decode cX7_lowest 25 = .ok (.ireturn, 1) := by decide +kernel
set_option maxRecDepth 20000 in
theorem ggX7_partnerOf_X7_lowest : GoodIn wsX7_partnerOf wsX7_lowest := goodIn_r _ [4] (by decide +kernel) (by decide +kernel)
set_option maxRecDepth 20000 in
theorem gX7_partnerOf_X7_lowest : GoodIn wsX7_partnerOf (va_wsS RX7 15 yX7_lowest wsX7_lowest) := goodIn_app (goodIn_of _ (by decide +kernel)) ggX7_partnerOf_X7_lowest
set_option maxRecDepth 20000 in
theorem ggX7_partnerOf_X7_firstPartner : GoodIn wsX7_partnerOf wsX7_firstPartner := goodIn_r _ [7, 8, 9, 10, 11, 12, 13, 3, 14, 15, 16, 17, 1, 2, 4] (by decide +kernel) (by decide +kernel)
set_option maxRecDepth 20000 in
theorem gX7_partnerOf_X7_firstPartner : GoodIn wsX7_partnerOf (va_wsS RX7 28 yX7_firstPartner wsX7_firstPartner) := goodIn_app (goodIn_of _ (by decide +kernel)) ggX7_partnerOf_X7_firstPartner
theorem dX7_partnerOf_0 : decode cX7_partnerOf 0 = .ok (.iload_n 1, 1) := by decide +kernel
theorem dX7_partnerOf_1 : decode cX7_partnerOf 1 = .ok (.istore_n 3, 1) := by decide +kernel
theorem dX7_partnerOf_2 : decode cX7_partnerOf 2 = .ok (.iconst 0, 1) := by decide +kernel
theorem dX7_partnerOf_3 : decode cX7_partnerOf 3 = .ok (.istore 4, 2) := by decide +kernel
theorem dX7_partnerOf_5 : decode cX7_partnerOf 5 = .ok (.iload 4, 2) := by decide +kernel
theorem dX7_partnerOf_7 : decode cX7_partnerOf 7 = .ok (.bipush 8, 2) := by decide +kernel
theorem dX7_partnerOf_9 : decode cX7_partnerOf 9 = .ok (.if_icmp .ge 70, 3) := by decide +kernel
theorem dX7_partnerOf_12 : decode cX7_partnerOf 12 = .ok (.iload_n 3, 1) := by decide +kernel
theorem dX7_partnerOf_13 : decode cX7_partnerOf 13 = .ok (.ifCond .eq 66, 3) := by decide +kernel
theorem dX7_partnerOf_16 : decode cX7_partnerOf 16 = .ok (.iload_n 3, 1) := by decide +kernel
theorem dX7_partnerOf_17 : decode cX7_partnerOf 17 = .ok (.invokestatic 15, 3) := by decide +kernel
theorem dX7_partnerOf_20 : decode cX7_partnerOf 20 = .ok (.istore 5, 2) := by decide +kernel
theorem dX7_partnerOf_22 : decode cX7_partnerOf 22 = .ok (.aload_n 0, 1) := by decide +kernel
theorem dX7_partnerOf_23 : decode cX7_partnerOf 23 = .ok (.iload_n 3, 1) := by decide +kernel
theorem dX7_partnerOf_24 : decode cX7_partnerOf 24 = .ok (.iload 5, 2) := by decide +kernel
theorem dX7_partnerOf_26 : decode cX7_partnerOf 26 = .ok (.invokestatic 28, 3) := by decide +kernel
theorem dX7_partnerOf_29 : decode cX7_partnerOf 29 = .ok (.istore 6, 2) := by decide +kernel
theorem dX7_partnerOf_31 : decode cX7_partnerOf 31 = .ok (.iload 6, 2) := by decide +kernel
theorem dX7_partnerOf_33 : decode cX7_partnerOf 33 = .ok (.iconst (-1), 1) := by decide +kernel
theorem dX7_partnerOf_34 : decode cX7_partnerOf 34 = .ok (.if_icmp .ne 5, 3) := by decide +kernel
theorem dX7_partnerOf_37 : decode cX7_partnerOf 37 = .ok (.iconst (-1), 1) := by decide +kernel
theorem dX7_partnerOf_38 : decode cX7_partnerOf 38 = .ok (.ireturn, 1) := by decide +kernel
theorem dX7_partnerOf_39 : decode cX7_partnerOf 39 = .ok (.iload 5, 2) := by decide +kernel
theorem dX7_partnerOf_41 : decode cX7_partnerOf 41 = .ok (.iload_n 2, 1) := by decide +kernel
theorem dX7_partnerOf_42 : decode cX7_partnerOf 42 = .ok (.if_icmp .ne 6, 3) := by decide +kernel
theorem dX7_partnerOf_45 : decode cX7_partnerOf 45 = .ok (.iload 6, 2) := by decide +kernel
theorem dX7_partnerOf_47 : decode cX7_partnerOf 47 = .ok (.ireturn, 1) := by decide +kernel
theorem dX7_partnerOf_48 : decode cX7_partnerOf 48 = .ok (.iload 6, 2) := by decide +kernel
theorem dX7_partnerOf_50 : decode cX7_partnerOf 50 = .ok (.iload_n 2, 1) := by decide +kernel
theorem dX7_partnerOf_51 : decode cX7_partnerOf 51 = .ok (.if_icmp .ne 6, 3) := by decide +kernel
theorem dX7_partnerOf_54 : decode cX7_partnerOf 54 = .ok (.iload 5, 2) := by decide +kernel
theorem dX7_partnerOf_56 : decode cX7_partnerOf 56 = .ok (.ireturn, 1) := by decide +kernel
theorem dX7_partnerOf_57 : decode cX7_partnerOf 57 = .ok (.iload_n 3, 1) := by decide +kernel
theorem dX7_partnerOf_58 : decode cX7_partnerOf 58 = .ok (.iconst 1, 1) := by decide +kernel
theorem dX7_partnerOf_59 : decode cX7_partnerOf 59 = .ok (.iload 5, 2) := by decide +kernel
theorem dX7_partnerOf_61 : decode cX7_partnerOf 61 = .ok (.ishl, 1) := by decide +kernel
theorem dX7_partnerOf_62 : decode cX7_partnerOf 62 = .ok (.iconst (-1), 1) := by decide +kernel
theorem dX7_partnerOf_63 : decode cX7_partnerOf 63 = .ok (.ixor, 1) := by decide +kernel
theorem dX7_partnerOf_64 : decode cX7_partnerOf 64 = .ok (.iconst 1, 1) := by decide +kernel
theorem dX7_partnerOf_65 : decode cX7_partnerOf 65 = .ok (.iload 6, 2) := by decide +kernel
theorem dX7_partnerOf_67 : decode cX7_partnerOf 67 = .ok (.ishl, 1) := by decide +kernel
theorem dX7_partnerOf_68 : decode cX7_partnerOf 68 = .ok (.iconst (-1), 1) := by decide +kernel
theorem dX7_partnerOf_69 : decode cX7_partnerOf 69 = .ok (.ixor, 1) := by decide +kernel
theorem dX7_partnerOf_70 : decode cX7_partnerOf 70 = .ok (.iand, 1) := by decide +kernel
theorem dX7_partnerOf_71 : decode cX7_partnerOf 71 = .ok (.iand, 1) := by decide +kernel
theorem dX7_partnerOf_72 : decode cX7_partnerOf 72 = .ok (.istore_n 3, 1) := by decide +kernel
theorem dX7_partnerOf_73 : decode cX7_partnerOf 73 = .ok (.iinc 4 1, 3) := by decide +kernel
theorem dX7_partnerOf_76 : decode cX7_partnerOf 76 = .ok (.goto (-71), 3) := by decide +kernel
theorem dX7_partnerOf_79 : decode cX7_partnerOf 79 = .ok (.iconst (-1), 1) := by decide +kernel
theorem dX7_partnerOf_80 : decode cX7_partnerOf 80 = .ok (.ireturn, 1) := by decide +kernel
set_option maxRecDepth 20000 in
theorem ggX7_firstPartner_X7_leastSum : GoodIn wsX7_firstPartner wsX7_leastSum := goodIn_r _ [8, 1, 2, 3, 4, 9, 10, 11, 12, 13, 7, 14, 5, 6] (by decide +kernel) (by decide +kernel)
set_option maxRecDepth 20000 in
theorem gX7_firstPartner_X7_leastSum : GoodIn wsX7_firstPartner (va_wsS RX7 9 yX7_leastSum wsX7_leastSum) := goodIn_app (goodIn_of _ (by decide +kernel)) ggX7_firstPartner_X7_leastSum
theorem dX7_firstPartner_0 : decode cX7_firstPartner 0 = .ok (.aload_n 0, 1) := by decide +kernel
theorem dX7_firstPartner_1 : decode cX7_firstPartner 1 = .ok (.iload_n 1, 1) := by decide +kernel
theorem dX7_firstPartner_2 : decode cX7_firstPartner 2 = .ok (.iconst 0, 1) := by decide +kernel
theorem dX7_firstPartner_3 : decode cX7_firstPartner 3 = .ok (.invokestatic 9, 3) := by decide +kernel
theorem dX7_firstPartner_6 : decode cX7_firstPartner 6 = .ok (.istore_n 3, 1) := by decide +kernel
theorem dX7_firstPartner_7 : decode cX7_firstPartner 7 = .ok (.iload_n 2, 1) := by decide +kernel
theorem dX7_firstPartner_8 : decode cX7_firstPartner 8 = .ok (.iconst 1, 1) := by decide +kernel
theorem dX7_firstPartner_9 : decode cX7_firstPartner 9 = .ok (.iadd, 1) := by decide +kernel
theorem dX7_firstPartner_10 : decode cX7_firstPartner 10 = .ok (.istore 4, 2) := by decide +kernel
theorem dX7_firstPartner_12 : decode cX7_firstPartner 12 = .ok (.iload 4, 2) := by decide +kernel
theorem dX7_firstPartner_14 : decode cX7_firstPartner 14 = .ok (.bipush 10, 2) := by decide +kernel
theorem dX7_firstPartner_16 : decode cX7_firstPartner 16 = .ok (.if_icmp .ge 63, 3) := by decide +kernel
theorem dX7_firstPartner_19 : decode cX7_firstPartner 19 = .ok (.iload_n 1, 1) := by decide +kernel
theorem dX7_firstPartner_20 : decode cX7_firstPartner 20 = .ok (.iload 4, 2) := by decide +kernel
theorem dX7_firstPartner_22 : decode cX7_firstPartner 22 = .ok (.ishr, 1) := by decide +kernel
theorem dX7_firstPartner_23 : decode cX7_firstPartner 23 = .ok (.iconst 1, 1) := by decide +kernel
theorem dX7_firstPartner_24 : decode cX7_firstPartner 24 = .ok (.iand, 1) := by decide +kernel
theorem dX7_firstPartner_25 : decode cX7_firstPartner 25 = .ok (.ifCond .ne 6, 3) := by decide +kernel
theorem dX7_firstPartner_28 : decode cX7_firstPartner 28 = .ok (.goto 45, 3) := by decide +kernel
theorem dX7_firstPartner_31 : decode cX7_firstPartner 31 = .ok (.aload_n 0, 1) := by decide +kernel
theorem dX7_firstPartner_32 : decode cX7_firstPartner 32 = .ok (.iload_n 1, 1) := by decide +kernel
theorem dX7_firstPartner_33 : decode cX7_firstPartner 33 = .ok (.iconst 1, 1) := by decide +kernel
theorem dX7_firstPartner_34 : decode cX7_firstPartner 34 = .ok (.iload_n 2, 1) := by decide +kernel
theorem dX7_firstPartner_35 : decode cX7_firstPartner 35 = .ok (.ishl, 1) := by decide +kernel
theorem dX7_firstPartner_36 : decode cX7_firstPartner 36 = .ok (.iconst (-1), 1) := by decide +kernel
theorem dX7_firstPartner_37 : decode cX7_firstPartner 37 = .ok (.ixor, 1) := by decide +kernel
theorem dX7_firstPartner_38 : decode cX7_firstPartner 38 = .ok (.iand, 1) := by decide +kernel
theorem dX7_firstPartner_39 : decode cX7_firstPartner 39 = .ok (.iconst 1, 1) := by decide +kernel
theorem dX7_firstPartner_40 : decode cX7_firstPartner 40 = .ok (.iload 4, 2) := by decide +kernel
theorem dX7_firstPartner_42 : decode cX7_firstPartner 42 = .ok (.ishl, 1) := by decide +kernel
theorem dX7_firstPartner_43 : decode cX7_firstPartner 43 = .ok (.iconst (-1), 1) := by decide +kernel
theorem dX7_firstPartner_44 : decode cX7_firstPartner 44 = .ok (.ixor, 1) := by decide +kernel
theorem dX7_firstPartner_45 : decode cX7_firstPartner 45 = .ok (.iand, 1) := by decide +kernel
theorem dX7_firstPartner_46 : decode cX7_firstPartner 46 = .ok (.iconst 0, 1) := by decide +kernel
theorem dX7_firstPartner_47 : decode cX7_firstPartner 47 = .ok (.invokestatic 9, 3) := by decide +kernel
theorem dX7_firstPartner_50 : decode cX7_firstPartner 50 = .ok (.istore 5, 2) := by decide +kernel
theorem dX7_firstPartner_52 : decode cX7_firstPartner 52 = .ok (.aload_n 0, 1) := by decide +kernel
theorem dX7_firstPartner_53 : decode cX7_firstPartner 53 = .ok (.iload_n 2, 1) := by decide +kernel
theorem dX7_firstPartner_54 : decode cX7_firstPartner 54 = .ok (.iaload, 1) := by decide +kernel
theorem dX7_firstPartner_55 : decode cX7_firstPartner 55 = .ok (.aload_n 0, 1) := by decide +kernel
theorem dX7_firstPartner_56 : decode cX7_firstPartner 56 = .ok (.iload 4, 2) := by decide +kernel
theorem dX7_firstPartner_58 : decode cX7_firstPartner 58 = .ok (.iaload, 1) := by decide +kernel
theorem dX7_firstPartner_59 : decode cX7_firstPartner 59 = .ok (.isub, 1) := by decide +kernel
theorem dX7_firstPartner_60 : decode cX7_firstPartner 60 = .ok (.invokestatic 19, 3) := by decide +kernel
theorem dX7_firstPartner_63 : decode cX7_firstPartner 63 = .ok (.iload 5, 2) := by decide +kernel
theorem dX7_firstPartner_65 : decode cX7_firstPartner 65 = .ok (.iadd, 1) := by decide +kernel
theorem dX7_firstPartner_66 : decode cX7_firstPartner 66 = .ok (.iload_n 3, 1) := by decide +kernel
theorem dX7_firstPartner_67 : decode cX7_firstPartner 67 = .ok (.if_icmp .ne 6, 3) := by decide +kernel
theorem dX7_firstPartner_70 : decode cX7_firstPartner 70 = .ok (.iload 4, 2) := by decide +kernel
theorem dX7_firstPartner_72 : decode cX7_firstPartner 72 = .ok (.ireturn, 1) := by decide +kernel
theorem dX7_firstPartner_73 : decode cX7_firstPartner 73 = .ok (.iinc 4 1, 3) := by decide +kernel
theorem dX7_firstPartner_76 : decode cX7_firstPartner 76 = .ok (.goto (-64), 3) := by decide +kernel
theorem dX7_firstPartner_79 : decode cX7_firstPartner 79 = .ok (.iconst (-1), 1) := by decide +kernel
theorem dX7_firstPartner_80 : decode cX7_firstPartner 80 = .ok (.ireturn, 1) := by decide +kernel
set_option maxRecDepth 20000 in
theorem ggX8_init_X3_init : GoodIn wsX8_init wsX3_init := goodIn_r _ [16, 17, 2, 3, 18, 19, 20, 21, 22, 23, 24, 25, 26, 27, 28, 29, 30, 31, 32, 33, 44, 45, 46, 47, 48, 49, 50, 51, 52, 53, 54, 55, 56, 57, 58, 59, 60, 61, 62, 63] (by decide +kernel) (by decide +kernel)
set_option maxRecDepth 20000 in
theorem gX8_init_X3_init : GoodIn wsX8_init (wsX3_init) := ggX8_init_X3_init
set_option maxRecDepth 20000 in
theorem ggX8_init_X1_init : GoodIn wsX8_init wsX1_init := goodIn_r _ [36, 37, 2, 3, 38, 21, 39, 64, 65] (by decide +kernel) (by decide +kernel)
set_option maxRecDepth 20000 in
theorem gX8_init_X1_init : GoodIn wsX8_init (wsX1_init) := ggX8_init_X1_init
theorem dX8_init_0 : decode cX8_init 0 = .ok (.aload_n 0, 1) := by decide +kernel
theorem dX8_init_1 : decode cX8_init 1 = .ok (.invokespecial 3, 3) := by decide +kernel
theorem dX8_init_4 : decode cX8_init 4 = .ok (.aload_n 0, 1) := by decide +kernel
theorem dX8_init_5 : decode cX8_init 5 = .ok (.iconst 0, 1) := by decide +kernel
theorem dX8_init_6 : decode cX8_init 6 = .ok (.putfield 9, 3) := by decide +kernel
theorem dX8_init_9 : decode cX8_init 9 = .ok (.aload_n 0, 1) := by decide +kernel
theorem dX8_init_10 : decode cX8_init 10 = .ok (.iconst 0, 1) := by decide +kernel
theorem dX8_init_11 : decode cX8_init 11 = .ok (.putfield 15, 3) := by decide +kernel
theorem dX8_init_14 : decode cX8_init 14 = .ok (.aload_n 0, 1) := by decide +kernel
theorem dX8_init_15 : decode cX8_init 15 = .ok (.bipush 12, 2) := by decide +kernel
theorem dX8_init_17 : decode cX8_init 17 = .ok (.anewarray 18, 3) := by decide +kernel
theorem dX8_init_20 : decode cX8_init 20 = .ok (.putfield 20, 3) := by decide +kernel
theorem dX8_init_23 : decode cX8_init 23 = .ok (.aload_n 0, 1) := by decide +kernel
theorem dX8_init_24 : decode cX8_init 24 = .ok (.bipush 12, 2) := by decide +kernel
theorem dX8_init_26 : decode cX8_init 26 = .ok (.anewarray 24, 3) := by decide +kernel
theorem dX8_init_29 : decode cX8_init 29 = .ok (.putfield 26, 3) := by decide +kernel
theorem dX8_init_32 : decode cX8_init 32 = .ok (.iconst 0, 1) := by decide +kernel
theorem dX8_init_33 : decode cX8_init 33 = .ok (.istore_n 1, 1) := by decide +kernel
theorem dX8_init_34 : decode cX8_init 34 = .ok (.iload_n 1, 1) := by decide +kernel
theorem dX8_init_35 : decode cX8_init 35 = .ok (.bipush 12, 2) := by decide +kernel
theorem dX8_init_37 : decode cX8_init 37 = .ok (.if_icmp .ge 35, 3) := by decide +kernel
theorem dX8_init_40 : decode cX8_init 40 = .ok (.aload_n 0, 1) := by decide +kernel
theorem dX8_init_41 : decode cX8_init 41 = .ok (.getfield 20, 3) := by decide +kernel
theorem dX8_init_44 : decode cX8_init 44 = .ok (.iload_n 1, 1) := by decide +kernel
theorem dX8_init_45 : decode cX8_init 45 = .ok (.new 18, 3) := by decide +kernel
theorem dX8_init_48 : decode cX8_init 48 = .ok (.dup, 1) := by decide +kernel
theorem dX8_init_49 : decode cX8_init 49 = .ok (.invokespecial 30, 3) := by decide +kernel
theorem dX8_init_52 : decode cX8_init 52 = .ok (.aastore, 1) := by decide +kernel
theorem dX8_init_53 : decode cX8_init 53 = .ok (.aload_n 0, 1) := by decide +kernel
theorem dX8_init_54 : decode cX8_init 54 = .ok (.getfield 26, 3) := by decide +kernel
theorem dX8_init_57 : decode cX8_init 57 = .ok (.iload_n 1, 1) := by decide +kernel
theorem dX8_init_58 : decode cX8_init 58 = .ok (.new 24, 3) := by decide +kernel
theorem dX8_init_61 : decode cX8_init 61 = .ok (.dup, 1) := by decide +kernel
theorem dX8_init_62 : decode cX8_init 62 = .ok (.invokespecial 31, 3) := by decide +kernel
theorem dX8_init_65 : decode cX8_init 65 = .ok (.aastore, 1) := by decide +kernel
theorem dX8_init_66 : decode cX8_init 66 = .ok (.iinc 1 1, 3) := by decide +kernel
theorem dX8_init_69 : decode cX8_init 69 = .ok (.goto (-35), 3) := by decide +kernel
theorem dX8_init_72 : decode cX8_init 72 = .ok (.return_, 1) := by decide +kernel
theorem dX8_forget_0 : decode cX8_forget 0 = .ok (.aload_n 0, 1) := by decide +kernel
theorem dX8_forget_1 : decode cX8_forget 1 = .ok (.iconst 0, 1) := by decide +kernel
theorem dX8_forget_2 : decode cX8_forget 2 = .ok (.putfield 9, 3) := by decide +kernel
theorem dX8_forget_5 : decode cX8_forget 5 = .ok (.return_, 1) := by decide +kernel
set_option maxRecDepth 20000 in
theorem ggX8_remember_X3_copyFrom : GoodIn wsX8_remember wsX3_copyFrom := goodIn_r _ [9, 10, 11, 12, 13, 14, 15, 16, 17, 18, 19, 20, 21, 22, 23, 24, 25, 26, 27, 28, 29, 30, 31, 32, 33, 46, 47, 48, 49, 50, 51, 52, 53, 54, 55, 56, 57, 58, 59, 60, 61, 62, 63, 64, 65] (by decide +kernel) (by decide +kernel)
set_option maxRecDepth 20000 in
theorem gX8_remember_X3_copyFrom : GoodIn wsX8_remember (wsV RX8 32 RX3 yX3_copyFrom wsX3_copyFrom) := goodIn_app (goodIn_of _ (by decide +kernel)) ggX8_remember_X3_copyFrom
set_option maxRecDepth 20000 in
theorem ggX8_remember_X1_copyFrom : GoodIn wsX8_remember wsX1_copyFrom := goodIn_r _ [38, 39, 40, 41, 23, 24, 25, 66, 67] (by decide +kernel) (by decide +kernel)
set_option maxRecDepth 20000 in
theorem gX8_remember_X1_copyFrom : GoodIn wsX8_remember (wsV RX8 36 RX1 yX1_copyFrom wsX1_copyFrom) := goodIn_app (goodIn_of _ (by decide +kernel)) ggX8_remember_X1_copyFrom
theorem dX8_remember_0 : decode cX8_remember 0 = .ok (.aload_n 0, 1) := by decide +kernel
theorem dX8_remember_1 : decode cX8_remember 1 = .ok (.getfield 9, 3) := by decide +kernel
theorem dX8_remember_4 : decode cX8_remember 4 = .ok (.bipush 12, 2) := by decide +kernel
theorem dX8_remember_6 : decode cX8_remember 6 = .ok (.if_icmp .ne 26, 3) := by decide +kernel
theorem dX8_remember_9 : decode cX8_remember 9 = .ok (.aload_n 0, 1) := by decide +kernel
theorem dX8_remember_10 : decode cX8_remember 10 = .ok (.aload_n 0, 1) := by decide +kernel
theorem dX8_remember_11 : decode cX8_remember 11 = .ok (.getfield 15, 3) := by decide +kernel
theorem dX8_remember_14 : decode cX8_remember 14 = .ok (.iconst 1, 1) := by decide +kernel
theorem dX8_remember_15 : decode cX8_remember 15 = .ok (.iadd, 1) := by decide +kernel
theorem dX8_remember_16 : decode cX8_remember 16 = .ok (.bipush 12, 2) := by decide +kernel
theorem dX8_remember_18 : decode cX8_remember 18 = .ok (.irem, 1) := by decide +kernel
theorem dX8_remember_19 : decode cX8_remember 19 = .ok (.putfield 15, 3) := by decide +kernel
theorem dX8_remember_22 : decode cX8_remember 22 = .ok (.aload_n 0, 1) := by decide +kernel
theorem dX8_remember_23 : decode cX8_remember 23 = .ok (.dup, 1) := by decide +kernel
theorem dX8_remember_24 : decode cX8_remember 24 = .ok (.getfield 9, 3) := by decide +kernel
theorem dX8_remember_27 : decode cX8_remember 27 = .ok (.iconst 1, 1) := by decide +kernel
theorem dX8_remember_28 : decode cX8_remember 28 = .ok (.isub, 1) := by decide +kernel
theorem dX8_remember_29 : decode cX8_remember 29 = .ok (.putfield 9, 3) := by decide +kernel
theorem dX8_remember_32 : decode cX8_remember 32 = .ok (.aload_n 0, 1) := by decide +kernel
theorem dX8_remember_33 : decode cX8_remember 33 = .ok (.getfield 15, 3) := by decide +kernel
theorem dX8_remember_36 : decode cX8_remember 36 = .ok (.aload_n 0, 1) := by decide +kernel
theorem dX8_remember_37 : decode cX8_remember 37 = .ok (.getfield 9, 3) := by decide +kernel
theorem dX8_remember_40 : decode cX8_remember 40 = .ok (.iadd, 1) := by decide +kernel
theorem dX8_remember_41 : decode cX8_remember 41 = .ok (.bipush 12, 2) := by decide +kernel
theorem dX8_remember_43 : decode cX8_remember 43 = .ok (.irem, 1) := by decide +kernel
theorem dX8_remember_44 : decode cX8_remember 44 = .ok (.istore_n 3, 1) := by decide +kernel
theorem dX8_remember_45 : decode cX8_remember 45 = .ok (.aload_n 0, 1) := by decide +kernel
theorem dX8_remember_46 : decode cX8_remember 46 = .ok (.getfield 20, 3) := by decide +kernel
theorem dX8_remember_49 : decode cX8_remember 49 = .ok (.iload_n 3, 1) := by decide +kernel
theorem dX8_remember_50 : decode cX8_remember 50 = .ok (.aaload, 1) := by decide +kernel
theorem dX8_remember_51 : decode cX8_remember 51 = .ok (.aload_n 1, 1) := by decide +kernel
theorem dX8_remember_52 : decode cX8_remember 52 = .ok (.invokevirtual 32, 3) := by decide +kernel
theorem dX8_remember_55 : decode cX8_remember 55 = .ok (.aload_n 0, 1) := by decide +kernel
theorem dX8_remember_56 : decode cX8_remember 56 = .ok (.getfield 26, 3) := by decide +kernel
theorem dX8_remember_59 : decode cX8_remember 59 = .ok (.iload_n 3, 1) := by decide +kernel
theorem dX8_remember_60 : decode cX8_remember 60 = .ok (.aaload, 1) := by decide +kernel
theorem dX8_remember_61 : decode cX8_remember 61 = .ok (.aload_n 2, 1) := by decide +kernel
theorem dX8_remember_62 : decode cX8_remember 62 = .ok (.invokevirtual 36, 3) := by decide +kernel
theorem dX8_remember_65 : decode cX8_remember 65 = .ok (.aload_n 0, 1) := by decide +kernel
theorem dX8_remember_66 : decode cX8_remember 66 = .ok (.dup, 1) := by decide +kernel
theorem dX8_remember_67 : decode cX8_remember 67 = .ok (.getfield 9, 3) := by decide +kernel
theorem dX8_remember_70 : decode cX8_remember 70 = .ok (.iconst 1, 1) := by decide +kernel
theorem dX8_remember_71 : decode cX8_remember 71 = .ok (.iadd, 1) := by decide +kernel
theorem dX8_remember_72 : decode cX8_remember 72 = .ok (.putfield 9, 3) := by decide +kernel
theorem dX8_remember_75 : decode cX8_remember 75 = .ok (.return_, 1) := by decide +kernel
set_option maxRecDepth 20000 in
theorem ggX8_restore_X3_copyFrom : GoodIn wsX8_restore wsX3_copyFrom := goodIn_r _ [9, 10, 11, 12, 13, 14, 15, 16, 17, 18, 19, 20, 21, 22, 23, 24, 25, 26, 27, 28, 29, 30, 31, 32, 33, 46, 47, 48, 49, 50, 51, 52, 53, 54, 55, 56, 57, 58, 59, 60, 61, 62, 63, 64, 65] (by decide +kernel) (by decide +kernel)
set_option maxRecDepth 20000 in
theorem gX8_restore_X3_copyFrom : GoodIn wsX8_restore (wsV RX8 32 RX3 yX3_copyFrom wsX3_copyFrom) := goodIn_app (goodIn_of _ (by decide +kernel)) ggX8_restore_X3_copyFrom
set_option maxRecDepth 20000 in
theorem ggX8_restore_X1_copyFrom : GoodIn wsX8_restore wsX1_copyFrom := goodIn_r _ [38, 39, 40, 41, 23, 24, 25, 66, 67] (by decide +kernel) (by decide +kernel)
set_option maxRecDepth 20000 in
theorem gX8_restore_X1_copyFrom : GoodIn wsX8_restore (wsV RX8 36 RX1 yX1_copyFrom wsX1_copyFrom) := goodIn_app (goodIn_of _ (by decide +kernel)) ggX8_restore_X1_copyFrom
theorem dX8_restore_0 : decode cX8_restore 0 = .ok (.aload_n 0, 1) := by decide +kernel
theorem dX8_restore_1 : decode cX8_restore 1 = .ok (.getfield 9, 3) := by decide +kernel
theorem dX8_restore_4 : decode cX8_restore 4 = .ok (.ifCond .ne 5, 3) := by decide +kernel
theorem dX8_restore_7 : decode cX8_restore 7 = .ok (.iconst 0, 1) := by decide +kernel
theorem dX8_restore_8 : decode cX8_restore 8 = .ok (.ireturn, 1) := by decide +kernel
theorem dX8_restore_9 : decode cX8_restore 9 = .ok (.aload_n 0, 1) := by decide +kernel
theorem dX8_restore_10 : decode cX8_restore 10 = .ok (.dup, 1) := by decide +kernel
theorem dX8_restore_11 : decode cX8_restore 11 = .ok (.getfield 9, 3) := by decide +kernel
theorem dX8_restore_14 : decode cX8_restore 14 = .ok (.iconst 1, 1) := by decide +kernel
theorem dX8_restore_15 : decode cX8_restore 15 = .ok (.isub, 1) := by decide +kernel
theorem dX8_restore_16 : decode cX8_restore 16 = .ok (.putfield 9, 3) := by decide +kernel
theorem dX8_restore_19 : decode cX8_restore 19 = .ok (.aload_n 0, 1) := by decide +kernel
theorem dX8_restore_20 : decode cX8_restore 20 = .ok (.getfield 15, 3) := by decide +kernel
theorem dX8_restore_23 : decode cX8_restore 23 = .ok (.aload_n 0, 1) := by decide +kernel
theorem dX8_restore_24 : decode cX8_restore 24 = .ok (.getfield 9, 3) := by decide +kernel
theorem dX8_restore_27 : decode cX8_restore 27 = .ok (.iadd, 1) := by decide +kernel
theorem dX8_restore_28 : decode cX8_restore 28 = .ok (.bipush 12, 2) := by decide +kernel
theorem dX8_restore_30 : decode cX8_restore 30 = .ok (.irem, 1) := by decide +kernel
theorem dX8_restore_31 : decode cX8_restore 31 = .ok (.istore_n 3, 1) := by decide +kernel
theorem dX8_restore_32 : decode cX8_restore 32 = .ok (.aload_n 1, 1) := by decide +kernel
theorem dX8_restore_33 : decode cX8_restore 33 = .ok (.aload_n 0, 1) := by decide +kernel
theorem dX8_restore_34 : decode cX8_restore 34 = .ok (.getfield 20, 3) := by decide +kernel
theorem dX8_restore_37 : decode cX8_restore 37 = .ok (.iload_n 3, 1) := by decide +kernel
theorem dX8_restore_38 : decode cX8_restore 38 = .ok (.aaload, 1) := by decide +kernel
theorem dX8_restore_39 : decode cX8_restore 39 = .ok (.invokevirtual 32, 3) := by decide +kernel
theorem dX8_restore_42 : decode cX8_restore 42 = .ok (.aload_n 2, 1) := by decide +kernel
theorem dX8_restore_43 : decode cX8_restore 43 = .ok (.aload_n 0, 1) := by decide +kernel
theorem dX8_restore_44 : decode cX8_restore 44 = .ok (.getfield 26, 3) := by decide +kernel
theorem dX8_restore_47 : decode cX8_restore 47 = .ok (.iload_n 3, 1) := by decide +kernel
theorem dX8_restore_48 : decode cX8_restore 48 = .ok (.aaload, 1) := by decide +kernel
theorem dX8_restore_49 : decode cX8_restore 49 = .ok (.invokevirtual 36, 3) := by decide +kernel
theorem dX8_restore_52 : decode cX8_restore 52 = .ok (.iconst 1, 1) := by decide +kernel
theorem dX8_restore_53 : decode cX8_restore 53 = .ok (.ireturn, 1) := by decide +kernel
theorem dX9_init_0 : decode cX9_init 0 = .ok (.aload_n 0, 1) := by decide +kernel
theorem dX9_init_1 : decode cX9_init 1 = .ok (.invokespecial 3, 3) := by decide +kernel
theorem dX9_init_4 : decode cX9_init 4 = .ok (.aload_n 0, 1) := by decide +kernel
theorem dX9_init_5 : decode cX9_init 5 = .ok (.aload_n 1, 1) := by decide +kernel
theorem dX9_init_6 : decode cX9_init 6 = .ok (.putfield 9, 3) := by decide +kernel
theorem dX9_init_9 : decode cX9_init 9 = .ok (.aload_n 0, 1) := by decide +kernel
theorem dX9_init_10 : decode cX9_init 10 = .ok (.iload_n 2, 1) := by decide +kernel
theorem dX9_init_11 : decode cX9_init 11 = .ok (.putfield 15, 3) := by decide +kernel
theorem dX9_init_14 : decode cX9_init 14 = .ok (.aload_n 0, 1) := by decide +kernel
theorem dX9_init_15 : decode cX9_init 15 = .ok (.iconst 0, 1) := by decide +kernel
theorem dX9_init_16 : decode cX9_init 16 = .ok (.putfield 19, 3) := by decide +kernel
theorem dX9_init_19 : decode cX9_init 19 = .ok (.return_, 1) := by decide +kernel
set_option maxRecDepth 20000 in
theorem ggX9_read_X10_code : GoodIn wsX9_read wsX10_code := goodIn_r _ [8, 9, 10, 160, 161, 162, 163] (by decide +kernel) (by decide +kernel)
set_option maxRecDepth 20000 in
theorem gX9_read_X10_code : GoodIn wsX9_read (wsV RX9 22 RX10 yX10_code wsX10_code) := goodIn_app (goodIn_of _ (by decide +kernel)) ggX9_read_X10_code
set_option maxRecDepth 20000 in
theorem ggX9_read_X4_readLine : GoodIn wsX9_read wsX4_readLine := goodIn_r _ [16, 17, 18, 19, 20, 21, 5, 6, 7, 8, 9, 10, 22, 23, 24, 15, 25, 26, 27, 28, 29, 30, 31, 32, 33, 2, 1, 34, 35, 36, 37, 38, 4, 39, 40, 41, 42, 43, 44, 45, 46, 47, 48, 49, 50, 51, 52, 53, 54, 55, 56, 57, 58, 59, 60, 61, 62, 63, 64, 65, 66, 67, 68, 69, 70, 71, 72, 73, 74, 75, 76, 77, 78, 79, 80, 81, 82, 83, 84, 85, 86, 87, 88, 89, 90, 152, 153, 154, 155, 156, 157, 158, 159, 160, 161, 162, 163, 164, 165, 166, 167, 168, 169, 170, 171, 172, 173, 174, 175, 176, 177, 178, 179, 180, 181, 182, 183] (by decide +kernel) (by decide +kernel)
set_option maxRecDepth 20000 in
theorem gX9_read_X4_readLine_u28X4 : GoodIn wsX9_read (va_wsU RX9 28 RX4 "SeeSawHill$TextReader" ⟨"SeeSawHill$TextReader", "readLine", "()Z"⟩ yX4_readLine wsX4_readLine) := goodIn_app (goodIn_of _ (by decide +kernel)) ggX9_read_X4_readLine
set_option maxRecDepth 20000 in
theorem ggX9_read_X6_readLine : GoodIn wsX9_read wsX6_readLine := goodIn_r _ [94, 95, 96, 97, 98, 99, 100, 5, 6, 7, 8, 9, 10, 101, 102, 103, 31, 32, 33, 2, 1, 34, 35, 36, 37, 38, 4, 104, 105, 106, 42, 43, 107, 108, 109, 93, 110, 111, 112, 113, 114, 115, 116, 117, 118, 119, 120, 121, 122, 123, 124, 125, 126, 127, 128, 129, 130, 131, 132, 133, 134, 135, 136, 137, 138, 139, 140, 141, 142, 152, 153, 154, 155, 156, 157, 158, 159, 160, 161, 162, 163, 184, 185, 186, 187, 188, 189, 190] (by decide +kernel) (by decide +kernel)
set_option maxRecDepth 20000 in
theorem gX9_read_X6_readLine_u28X6 : GoodIn wsX9_read (va_wsU RX9 28 RX6 "SeeSawHill$TextReader" ⟨"SeeSawHill$TextReader", "readLine", "()Z"⟩ yX6_readLine wsX6_readLine) := goodIn_app (goodIn_of _ (by decide +kernel)) ggX9_read_X6_readLine
set_option maxRecDepth 20000 in
theorem ggX9_read_X10_start : GoodIn wsX9_read wsX10_start := goodIn_r _ [146, 9, 147, 160, 161, 162, 163] (by decide +kernel) (by decide +kernel)
set_option maxRecDepth 20000 in
theorem gX9_read_X10_start : GoodIn wsX9_read (wsV RX9 32 RX10 yX10_start wsX10_start) := goodIn_app (goodIn_of _ (by decide +kernel)) ggX9_read_X10_start
set_option maxRecDepth 20000 in
theorem ggX9_read_X9_skip : GoodIn wsX9_read wsX9_skip := goodIn_r _ [43, 1, 2, 152, 153, 154, 155, 156, 157, 158, 159, 160, 161, 162, 163] (by decide +kernel) (by decide +kernel)
set_option maxRecDepth 20000 in
theorem gX9_read_X9_skip_u35X4 : GoodIn wsX9_read (va_wsU RX9 35 RX4 "SeeSawHill$TextReader" ⟨"SeeSawHill$TextReader", "skip", "(I)Z"⟩ yX9_skip wsX9_skip) := goodIn_app (goodIn_of _ (by decide +kernel)) ggX9_read_X9_skip
set_option maxRecDepth 20000 in
theorem gX9_read_X9_skip_u35X6 : GoodIn wsX9_read (va_wsU RX9 35 RX6 "SeeSawHill$TextReader" ⟨"SeeSawHill$TextReader", "skip", "(I)Z"⟩ yX9_skip wsX9_skip) := goodIn_app (goodIn_of _ (by decide +kernel)) ggX9_read_X9_skip
theorem dX9_read_0 : decode cX9_read 0 = .ok (.aload_n 0, 1) := by decide +kernel
theorem dX9_read_1 : decode cX9_read 1 = .ok (.iconst 0, 1) := by decide +kernel
theorem dX9_read_2 : decode cX9_read 2 = .ok (.putfield 19, 3) := by decide +kernel
theorem dX9_read_5 : decode cX9_read 5 = .ok (.aload_n 0, 1) := by decide +kernel
theorem dX9_read_6 : decode cX9_read 6 = .ok (.getfield 9, 3) := by decide +kernel
theorem dX9_read_9 : decode cX9_read 9 = .ok (.aload_n 0, 1) := by decide +kernel
theorem dX9_read_10 : decode cX9_read 10 = .ok (.getfield 19, 3) := by decide +kernel
theorem dX9_read_13 : decode cX9_read 13 = .ok (.invokevirtual 22, 3) := by decide +kernel
theorem dX9_read_16 : decode cX9_read 16 = .ok (.sipush 259, 3) := by decide +kernel
theorem dX9_read_19 : decode cX9_read 19 = .ok (.if_icmp .ne 5, 3) := by decide +kernel
theorem dX9_read_22 : decode cX9_read 22 = .ok (.iconst (-1), 1) := by decide +kernel
theorem dX9_read_23 : decode cX9_read 23 = .ok (.ireturn, 1) := by decide +kernel
theorem dX9_read_24 : decode cX9_read 24 = .ok (.iconst 0, 1) := by decide +kernel
theorem dX9_read_25 : decode cX9_read 25 = .ok (.istore_n 1, 1) := by decide +kernel
theorem dX9_read_26 : decode cX9_read 26 = .ok (.iload_n 1, 1) := by decide +kernel
theorem dX9_read_27 : decode cX9_read 27 = .ok (.aload_n 0, 1) := by decide +kernel
theorem dX9_read_28 : decode cX9_read 28 = .ok (.getfield 15, 3) := by decide +kernel
theorem dX9_read_31 : decode cX9_read 31 = .ok (.if_icmp .ge 61, 3) := by decide +kernel
theorem dX9_read_34 : decode cX9_read 34 = .ok (.aload_n 0, 1) := by decide +kernel
theorem dX9_read_35 : decode cX9_read 35 = .ok (.invokevirtual 28, 3) := by decide +kernel
theorem dX9_read_38 : decode cX9_read 38 = .ok (.ifCond .ne 15, 3) := by decide +kernel
theorem dX9_read_41 : decode cX9_read 41 = .ok (.aload_n 0, 1) := by decide +kernel
theorem dX9_read_42 : decode cX9_read 42 = .ok (.getfield 9, 3) := by decide +kernel
theorem dX9_read_45 : decode cX9_read 45 = .ok (.aload_n 0, 1) := by decide +kernel
theorem dX9_read_46 : decode cX9_read 46 = .ok (.getfield 19, 3) := by decide +kernel
theorem dX9_read_49 : decode cX9_read 49 = .ok (.invokevirtual 32, 3) := by decide +kernel
theorem dX9_read_52 : decode cX9_read 52 = .ok (.ireturn, 1) := by decide +kernel
theorem dX9_read_53 : decode cX9_read 53 = .ok (.aload_n 0, 1) := by decide +kernel
theorem dX9_read_54 : decode cX9_read 54 = .ok (.sipush 259, 3) := by decide +kernel
theorem dX9_read_57 : decode cX9_read 57 = .ok (.invokevirtual 35, 3) := by decide +kernel
theorem dX9_read_60 : decode cX9_read 60 = .ok (.ifCond .eq 5, 3) := by decide +kernel
theorem dX9_read_63 : decode cX9_read 63 = .ok (.iconst (-1), 1) := by decide +kernel
theorem dX9_read_64 : decode cX9_read 64 = .ok (.ireturn, 1) := by decide +kernel
theorem dX9_read_65 : decode cX9_read 65 = .ok (.aload_n 0, 1) := by decide +kernel
theorem dX9_read_66 : decode cX9_read 66 = .ok (.bipush 59, 2) := by decide +kernel
theorem dX9_read_68 : decode cX9_read 68 = .ok (.invokevirtual 35, 3) := by decide +kernel
theorem dX9_read_71 : decode cX9_read 71 = .ok (.ifCond .ne 15, 3) := by decide +kernel
theorem dX9_read_74 : decode cX9_read 74 = .ok (.aload_n 0, 1) := by decide +kernel
theorem dX9_read_75 : decode cX9_read 75 = .ok (.getfield 9, 3) := by decide +kernel
theorem dX9_read_78 : decode cX9_read 78 = .ok (.aload_n 0, 1) := by decide +kernel
theorem dX9_read_79 : decode cX9_read 79 = .ok (.getfield 19, 3) := by decide +kernel
theorem dX9_read_82 : decode cX9_read 82 = .ok (.invokevirtual 32, 3) := by decide +kernel
theorem dX9_read_85 : decode cX9_read 85 = .ok (.ireturn, 1) := by decide +kernel
theorem dX9_read_86 : decode cX9_read 86 = .ok (.iinc 1 1, 3) := by decide +kernel
theorem dX9_read_89 : decode cX9_read 89 = .ok (.goto (-63), 3) := by decide +kernel
theorem dX9_read_92 : decode cX9_read 92 = .ok (.aload_n 0, 1) := by decide +kernel
theorem dX9_read_93 : decode cX9_read 93 = .ok (.getfield 9, 3) := by decide +kernel
theorem dX9_read_96 : decode cX9_read 96 = .ok (.aload_n 0, 1) := by decide +kernel
theorem dX9_read_97 : decode cX9_read 97 = .ok (.getfield 19, 3) := by decide +kernel
theorem dX9_read_100 : decode cX9_read 100 = .ok (.invokevirtual 32, 3) := by decide +kernel
theorem dX9_read_103 : decode cX9_read 103 = .ok (.ireturn, 1) := by decide +kernel
theorem dX9_skip_0 : decode cX9_skip 0 = .ok (.aload_n 0, 1) := by decide +kernel
theorem dX9_skip_1 : decode cX9_skip 1 = .ok (.getfield 19, 3) := by decide +kernel
theorem dX9_skip_4 : decode cX9_skip 4 = .ok (.aload_n 0, 1) := by decide +kernel
theorem dX9_skip_5 : decode cX9_skip 5 = .ok (.getfield 9, 3) := by decide +kernel
theorem dX9_skip_8 : decode cX9_skip 8 = .ok (.getfield 39, 3) := by decide +kernel
theorem dX9_skip_11 : decode cX9_skip 11 = .ok (.if_icmp .ge 19, 3) := by decide +kernel
theorem dX9_skip_14 : decode cX9_skip 14 = .ok (.aload_n 0, 1) := by decide +kernel
theorem dX9_skip_15 : decode cX9_skip 15 = .ok (.getfield 9, 3) := by decide +kernel
theorem dX9_skip_18 : decode cX9_skip 18 = .ok (.getfield 42, 3) := by decide +kernel
theorem dX9_skip_21 : decode cX9_skip 21 = .ok (.aload_n 0, 1) := by decide +kernel
theorem dX9_skip_22 : decode cX9_skip 22 = .ok (.getfield 19, 3) := by decide +kernel
theorem dX9_skip_25 : decode cX9_skip 25 = .ok (.iaload, 1) := by decide +kernel
theorem dX9_skip_26 : decode cX9_skip 26 = .ok (.iload_n 1, 1) := by decide +kernel
theorem dX9_skip_27 : decode cX9_skip 27 = .ok (.if_icmp .eq 5, 3) := by decide +kernel
theorem dX9_skip_30 : decode cX9_skip 30 = .ok (.iconst 0, 1) := by decide +kernel
theorem dX9_skip_31 : decode cX9_skip 31 = .ok (.ireturn, 1) := by decide +kernel
theorem dX9_skip_32 : decode cX9_skip 32 = .ok (.aload_n 0, 1) := by decide +kernel
theorem dX9_skip_33 : decode cX9_skip 33 = .ok (.dup, 1) := by decide +kernel
theorem dX9_skip_34 : decode cX9_skip 34 = .ok (.getfield 19, 3) := by decide +kernel
theorem dX9_skip_37 : decode cX9_skip 37 = .ok (.iconst 1, 1) := by decide +kernel
theorem dX9_skip_38 : decode cX9_skip 38 = .ok (.iadd, 1) := by decide +kernel
theorem dX9_skip_39 : decode cX9_skip 39 = .ok (.putfield 19, 3) := by decide +kernel
theorem dX9_skip_42 : decode cX9_skip 42 = .ok (.iconst 1, 1) := by decide +kernel
theorem dX9_skip_43 : decode cX9_skip 43 = .ok (.ireturn, 1) := by decide +kernel
set_option maxRecDepth 20000 in
theorem ggX9_number_X10_value : GoodIn wsX9_number wsX10_value := goodIn_r _ [7, 8, 9, 23, 24, 25, 26] (by decide +kernel) (by decide +kernel)
set_option maxRecDepth 20000 in
theorem gX9_number_X10_value : GoodIn wsX9_number (wsV RX9 46 RX10 yX10_value wsX10_value) := goodIn_app (goodIn_of _ (by decide +kernel)) ggX9_number_X10_value
set_option maxRecDepth 20000 in
theorem ggX9_number_X10_code : GoodIn wsX9_number wsX10_code := goodIn_r _ [13, 8, 14, 23, 24, 25, 26] (by decide +kernel) (by decide +kernel)
set_option maxRecDepth 20000 in
theorem gX9_number_X10_code : GoodIn wsX9_number (wsV RX9 22 RX10 yX10_code wsX10_code) := goodIn_app (goodIn_of _ (by decide +kernel)) ggX9_number_X10_code
theorem dX9_number_0 : decode cX9_number 0 = .ok (.aload_n 0, 1) := by decide +kernel
theorem dX9_number_1 : decode cX9_number 1 = .ok (.getfield 9, 3) := by decide +kernel
theorem dX9_number_4 : decode cX9_number 4 = .ok (.aload_n 0, 1) := by decide +kernel
theorem dX9_number_5 : decode cX9_number 5 = .ok (.getfield 19, 3) := by decide +kernel
theorem dX9_number_8 : decode cX9_number 8 = .ok (.invokevirtual 46, 3) := by decide +kernel
theorem dX9_number_11 : decode cX9_number 11 = .ok (.istore_n 3, 1) := by decide +kernel
theorem dX9_number_12 : decode cX9_number 12 = .ok (.aload_n 0, 1) := by decide +kernel
theorem dX9_number_13 : decode cX9_number 13 = .ok (.getfield 9, 3) := by decide +kernel
theorem dX9_number_16 : decode cX9_number 16 = .ok (.aload_n 0, 1) := by decide +kernel
theorem dX9_number_17 : decode cX9_number 17 = .ok (.getfield 19, 3) := by decide +kernel
theorem dX9_number_20 : decode cX9_number 20 = .ok (.invokevirtual 22, 3) := by decide +kernel
theorem dX9_number_23 : decode cX9_number 23 = .ok (.sipush 256, 3) := by decide +kernel
theorem dX9_number_26 : decode cX9_number 26 = .ok (.if_icmp .ne 13, 3) := by decide +kernel
theorem dX9_number_29 : decode cX9_number 29 = .ok (.iload_n 3, 1) := by decide +kernel
theorem dX9_number_30 : decode cX9_number 30 = .ok (.iload_n 1, 1) := by decide +kernel
theorem dX9_number_31 : decode cX9_number 31 = .ok (.if_icmp .lt 8, 3) := by decide +kernel
theorem dX9_number_34 : decode cX9_number 34 = .ok (.iload_n 3, 1) := by decide +kernel
theorem dX9_number_35 : decode cX9_number 35 = .ok (.iload_n 2, 1) := by decide +kernel
theorem dX9_number_36 : decode cX9_number 36 = .ok (.if_icmp .le 5, 3) := by decide +kernel
theorem dX9_number_39 : decode cX9_number 39 = .ok (.iconst (-1), 1) := by decide +kernel
theorem dX9_number_40 : decode cX9_number 40 = .ok (.ireturn, 1) := by decide +kernel
theorem dX9_number_41 : decode cX9_number 41 = .ok (.aload_n 0, 1) := by decide +kernel
theorem dX9_number_42 : decode cX9_number 42 = .ok (.dup, 1) := by decide +kernel
theorem dX9_number_43 : decode cX9_number 43 = .ok (.getfield 19, 3) := by decide +kernel
theorem dX9_number_46 : decode cX9_number 46 = .ok (.iconst 1, 1) := by decide +kernel
theorem dX9_number_47 : decode cX9_number 47 = .ok (.iadd, 1) := by decide +kernel
theorem dX9_number_48 : decode cX9_number 48 = .ok (.putfield 19, 3) := by decide +kernel
theorem dX9_number_51 : decode cX9_number 51 = .ok (.iload_n 3, 1) := by decide +kernel
theorem dX9_number_52 : decode cX9_number 52 = .ok (.ireturn, 1) := by decide +kernel
theorem dX10_init_0 : decode cX10_init 0 = .ok (.aload_n 0, 1) := by decide +kernel
theorem dX10_init_1 : decode cX10_init 1 = .ok (.invokespecial 3, 3) := by decide +kernel
theorem dX10_init_4 : decode cX10_init 4 = .ok (.aload_n 0, 1) := by decide +kernel
theorem dX10_init_5 : decode cX10_init 5 = .ok (.sipush 401, 3) := by decide +kernel
theorem dX10_init_8 : decode cX10_init 8 = .ok (.newarray .int, 2) := by decide +kernel
theorem dX10_init_10 : decode cX10_init 10 = .ok (.putfield 9, 3) := by decide +kernel
theorem dX10_init_13 : decode cX10_init 13 = .ok (.aload_n 0, 1) := by decide +kernel
theorem dX10_init_14 : decode cX10_init 14 = .ok (.sipush 401, 3) := by decide +kernel
theorem dX10_init_17 : decode cX10_init 17 = .ok (.newarray .int, 2) := by decide +kernel
theorem dX10_init_19 : decode cX10_init 19 = .ok (.putfield 15, 3) := by decide +kernel
theorem dX10_init_22 : decode cX10_init 22 = .ok (.aload_n 0, 1) := by decide +kernel
theorem dX10_init_23 : decode cX10_init 23 = .ok (.sipush 401, 3) := by decide +kernel
theorem dX10_init_26 : decode cX10_init 26 = .ok (.newarray .int, 2) := by decide +kernel
theorem dX10_init_28 : decode cX10_init 28 = .ok (.putfield 18, 3) := by decide +kernel
theorem dX10_init_31 : decode cX10_init 31 = .ok (.aload_n 0, 1) := by decide +kernel
theorem dX10_init_32 : decode cX10_init 32 = .ok (.iconst 0, 1) := by decide +kernel
theorem dX10_init_33 : decode cX10_init 33 = .ok (.putfield 21, 3) := by decide +kernel
theorem dX10_init_36 : decode cX10_init 36 = .ok (.return_, 1) := by decide +kernel
set_option maxRecDepth 20000 in
theorem ggX10_split_X10_isLetter : GoodIn wsX10_split wsX10_isLetter := goodIn_r _ [5] (by decide +kernel) (by decide +kernel)
set_option maxRecDepth 20000 in
theorem gX10_split_X10_isLetter : GoodIn wsX10_split (va_wsS RX10 25 yX10_isLetter wsX10_isLetter) := goodIn_app (goodIn_of _ (by decide +kernel)) ggX10_split_X10_isLetter
set_option maxRecDepth 20000 in
theorem ggX10_split_X10_lettersEnd : GoodIn wsX10_split wsX10_lettersEnd := goodIn_r _ [8, 2, 3, 4, 5] (by decide +kernel) (by decide +kernel)
set_option maxRecDepth 20000 in
theorem gX10_split_X10_lettersEnd : GoodIn wsX10_split (va_wsS RX10 29 yX10_lettersEnd wsX10_lettersEnd) := goodIn_app (goodIn_of _ (by decide +kernel)) ggX10_split_X10_lettersEnd
set_option maxRecDepth 20000 in
theorem ggX10_split_X10_wordCode : GoodIn wsX10_split wsX10_wordCode := goodIn_r _ [11, 12, 13, 14, 15, 16, 17, 18, 19, 20, 21, 22, 23, 24, 25, 26, 27, 28, 29, 30, 31, 32, 33, 34, 35, 36, 37, 38, 39, 40, 41, 42, 43, 44, 45, 46, 47, 48, 49, 50, 51, 52, 53, 54, 55, 56, 57, 58, 59, 60] (by decide +kernel) (by decide +kernel)
set_option maxRecDepth 20000 in
theorem gX10_split_X10_wordCode : GoodIn wsX10_split (va_wsS RX10 33 yX10_wordCode wsX10_wordCode) := goodIn_app (goodIn_of _ (by decide +kernel)) ggX10_split_X10_wordCode
set_option maxRecDepth 20000 in
theorem ggX10_split_X10_add : GoodIn wsX10_split wsX10_add := goodIn_r _ [64, 1, 65, 66, 67, 77, 78, 79, 80] (by decide +kernel) (by decide +kernel)
set_option maxRecDepth 20000 in
theorem gX10_split_X10_add : GoodIn wsX10_split (wsV RX10 36 RX10 yX10_add wsX10_add) := goodIn_app (goodIn_of _ (by decide +kernel)) ggX10_split_X10_add
set_option maxRecDepth 20000 in
theorem ggX10_split_X10_isDigit : GoodIn wsX10_split wsX10_isDigit := goodIn_r _ [70] (by decide +kernel) (by decide +kernel)
set_option maxRecDepth 20000 in
theorem gX10_split_X10_isDigit : GoodIn wsX10_split (va_wsS RX10 40 yX10_isDigit wsX10_isDigit) := goodIn_app (goodIn_of _ (by decide +kernel)) ggX10_split_X10_isDigit
set_option maxRecDepth 20000 in
theorem ggX10_split_X10_digitsEnd : GoodIn wsX10_split wsX10_digitsEnd := goodIn_r _ [73, 68, 69, 4, 70] (by decide +kernel) (by decide +kernel)
set_option maxRecDepth 20000 in
theorem gX10_split_X10_digitsEnd : GoodIn wsX10_split (va_wsS RX10 43 yX10_digitsEnd wsX10_digitsEnd) := goodIn_app (goodIn_of _ (by decide +kernel)) ggX10_split_X10_digitsEnd
set_option maxRecDepth 20000 in
theorem ggX10_split_X10_valueOf : GoodIn wsX10_split wsX10_valueOf := goodIn_r _ [76] (by decide +kernel) (by decide +kernel)
set_option maxRecDepth 20000 in
theorem gX10_split_X10_valueOf : GoodIn wsX10_split (va_wsS RX10 46 yX10_valueOf wsX10_valueOf) := goodIn_app (goodIn_of _ (by decide +kernel)) ggX10_split_X10_valueOf
theorem dX10_split_0 : decode cX10_split 0 = .ok (.aload_n 0, 1) := by decide +kernel
theorem dX10_split_1 : decode cX10_split 1 = .ok (.iconst 0, 1) := by decide +kernel
theorem dX10_split_2 : decode cX10_split 2 = .ok (.putfield 21, 3) := by decide +kernel
theorem dX10_split_5 : decode cX10_split 5 = .ok (.iconst 0, 1) := by decide +kernel
theorem dX10_split_6 : decode cX10_split 6 = .ok (.istore_n 3, 1) := by decide +kernel
theorem dX10_split_7 : decode cX10_split 7 = .ok (.iload_n 3, 1) := by decide +kernel
theorem dX10_split_8 : decode cX10_split 8 = .ok (.iload_n 2, 1) := by decide +kernel
theorem dX10_split_9 : decode cX10_split 9 = .ok (.if_icmp .ge 139, 3) := by decide +kernel
theorem dX10_split_12 : decode cX10_split 12 = .ok (.aload_n 1, 1) := by decide +kernel
theorem dX10_split_13 : decode cX10_split 13 = .ok (.iload_n 3, 1) := by decide +kernel
theorem dX10_split_14 : decode cX10_split 14 = .ok (.baload, 1) := by decide +kernel
theorem dX10_split_15 : decode cX10_split 15 = .ok (.sipush 255, 3) := by decide +kernel
theorem dX10_split_18 : decode cX10_split 18 = .ok (.iand, 1) := by decide +kernel
theorem dX10_split_19 : decode cX10_split 19 = .ok (.istore 4, 2) := by decide +kernel
theorem dX10_split_21 : decode cX10_split 21 = .ok (.iload_n 3, 1) := by decide +kernel
theorem dX10_split_22 : decode cX10_split 22 = .ok (.iconst 1, 1) := by decide +kernel
theorem dX10_split_23 : decode cX10_split 23 = .ok (.iadd, 1) := by decide +kernel
theorem dX10_split_24 : decode cX10_split 24 = .ok (.istore 5, 2) := by decide +kernel
theorem dX10_split_26 : decode cX10_split 26 = .ok (.iload 4, 2) := by decide +kernel
theorem dX10_split_28 : decode cX10_split 28 = .ok (.invokestatic 25, 3) := by decide +kernel
theorem dX10_split_31 : decode cX10_split 31 = .ok (.ifCond .eq 27, 3) := by decide +kernel
theorem dX10_split_34 : decode cX10_split 34 = .ok (.aload_n 1, 1) := by decide +kernel
theorem dX10_split_35 : decode cX10_split 35 = .ok (.iload_n 3, 1) := by decide +kernel
theorem dX10_split_36 : decode cX10_split 36 = .ok (.iload_n 2, 1) := by decide +kernel
theorem dX10_split_37 : decode cX10_split 37 = .ok (.invokestatic 29, 3) := by decide +kernel
theorem dX10_split_40 : decode cX10_split 40 = .ok (.istore 5, 2) := by decide +kernel
theorem dX10_split_42 : decode cX10_split 42 = .ok (.aload_n 0, 1) := by decide +kernel
theorem dX10_split_43 : decode cX10_split 43 = .ok (.aload_n 1, 1) := by decide +kernel
theorem dX10_split_44 : decode cX10_split 44 = .ok (.iload_n 3, 1) := by decide +kernel
theorem dX10_split_45 : decode cX10_split 45 = .ok (.iload 5, 2) := by decide +kernel
theorem dX10_split_47 : decode cX10_split 47 = .ok (.invokestatic 33, 3) := by decide +kernel
theorem dX10_split_50 : decode cX10_split 50 = .ok (.iconst 0, 1) := by decide +kernel
theorem dX10_split_51 : decode cX10_split 51 = .ok (.iload_n 3, 1) := by decide +kernel
theorem dX10_split_52 : decode cX10_split 52 = .ok (.invokevirtual 36, 3) := by decide +kernel
theorem dX10_split_55 : decode cX10_split 55 = .ok (.goto 87, 3) := by decide +kernel
theorem dX10_split_58 : decode cX10_split 58 = .ok (.iload 4, 2) := by decide +kernel
theorem dX10_split_60 : decode cX10_split 60 = .ok (.invokestatic 40, 3) := by decide +kernel
theorem dX10_split_63 : decode cX10_split 63 = .ok (.ifCond .eq 64, 3) := by decide +kernel
theorem dX10_split_66 : decode cX10_split 66 = .ok (.aload_n 1, 1) := by decide +kernel
theorem dX10_split_67 : decode cX10_split 67 = .ok (.iload_n 3, 1) := by decide +kernel
theorem dX10_split_68 : decode cX10_split 68 = .ok (.iload_n 2, 1) := by decide +kernel
theorem dX10_split_69 : decode cX10_split 69 = .ok (.invokestatic 43, 3) := by decide +kernel
theorem dX10_split_72 : decode cX10_split 72 = .ok (.istore 5, 2) := by decide +kernel
theorem dX10_split_74 : decode cX10_split 74 = .ok (.iload 5, 2) := by decide +kernel
theorem dX10_split_76 : decode cX10_split 76 = .ok (.iload_n 3, 1) := by decide +kernel
theorem dX10_split_77 : decode cX10_split 77 = .ok (.isub, 1) := by decide +kernel
theorem dX10_split_78 : decode cX10_split 78 = .ok (.iconst 3, 1) := by decide +kernel
theorem dX10_split_79 : decode cX10_split 79 = .ok (.if_icmp .le 7, 3) := by decide +kernel
theorem dX10_split_82 : decode cX10_split 82 = .ok (.iconst 1, 1) := by decide +kernel
theorem dX10_split_83 : decode cX10_split 83 = .ok (.goto 4, 3) := by decide +kernel
theorem dX10_split_86 : decode cX10_split 86 = .ok (.iconst 0, 1) := by decide +kernel
theorem dX10_split_87 : decode cX10_split 87 = .ok (.istore 6, 2) := by decide +kernel
theorem dX10_split_89 : decode cX10_split 89 = .ok (.aload_n 0, 1) := by decide +kernel
theorem dX10_split_90 : decode cX10_split 90 = .ok (.iload 6, 2) := by decide +kernel
theorem dX10_split_92 : decode cX10_split 92 = .ok (.ifCond .eq 9, 3) := by decide +kernel
theorem dX10_split_95 : decode cX10_split 95 = .ok (.sipush 257, 3) := by decide +kernel
theorem dX10_split_98 : decode cX10_split 98 = .ok (.goto 6, 3) := by decide +kernel
theorem dX10_split_101 : decode cX10_split 101 = .ok (.sipush 256, 3) := by decide +kernel
theorem dX10_split_104 : decode cX10_split 104 = .ok (.iload 6, 2) := by decide +kernel
theorem dX10_split_106 : decode cX10_split 106 = .ok (.ifCond .eq 7, 3) := by decide +kernel
theorem dX10_split_109 : decode cX10_split 109 = .ok (.iconst 0, 1) := by decide +kernel
theorem dX10_split_110 : decode cX10_split 110 = .ok (.goto 10, 3) := by decide +kernel
theorem dX10_split_113 : decode cX10_split 113 = .ok (.aload_n 1, 1) := by decide +kernel
theorem dX10_split_114 : decode cX10_split 114 = .ok (.iload_n 3, 1) := by decide +kernel
theorem dX10_split_115 : decode cX10_split 115 = .ok (.iload 5, 2) := by decide +kernel
theorem dX10_split_117 : decode cX10_split 117 = .ok (.invokestatic 46, 3) := by decide +kernel
theorem dX10_split_120 : decode cX10_split 120 = .ok (.iload_n 3, 1) := by decide +kernel
theorem dX10_split_121 : decode cX10_split 121 = .ok (.invokevirtual 36, 3) := by decide +kernel
theorem dX10_split_124 : decode cX10_split 124 = .ok (.goto 18, 3) := by decide +kernel
theorem dX10_split_127 : decode cX10_split 127 = .ok (.iload 4, 2) := by decide +kernel
theorem dX10_split_129 : decode cX10_split 129 = .ok (.bipush 32, 2) := by decide +kernel
theorem dX10_split_131 : decode cX10_split 131 = .ok (.if_icmp .eq 11, 3) := by decide +kernel
theorem dX10_split_134 : decode cX10_split 134 = .ok (.aload_n 0, 1) := by decide +kernel
theorem dX10_split_135 : decode cX10_split 135 = .ok (.iload 4, 2) := by decide +kernel
theorem dX10_split_137 : decode cX10_split 137 = .ok (.iconst 0, 1) := by decide +kernel
theorem dX10_split_138 : decode cX10_split 138 = .ok (.iload_n 3, 1) := by decide +kernel
theorem dX10_split_139 : decode cX10_split 139 = .ok (.invokevirtual 36, 3) := by decide +kernel
theorem dX10_split_142 : decode cX10_split 142 = .ok (.iload 5, 2) := by decide +kernel
theorem dX10_split_144 : decode cX10_split 144 = .ok (.istore_n 3, 1) := by decide +kernel
theorem dX10_split_145 : decode cX10_split 145 = .ok (.goto (-138), 3) := by decide +kernel
theorem dX10_split_148 : decode cX10_split 148 = .ok (.aload_n 0, 1) := by decide +kernel
theorem dX10_split_149 : decode cX10_split 149 = .ok (.sipush 259, 3) := by decide +kernel
theorem dX10_split_152 : decode cX10_split 152 = .ok (.iconst 0, 1) := by decide +kernel
theorem dX10_split_153 : decode cX10_split 153 = .ok (.iload_n 2, 1) := by decide +kernel
theorem dX10_split_154 : decode cX10_split 154 = .ok (.invokevirtual 36, 3) := by decide +kernel
theorem dX10_split_157 : decode cX10_split 157 = .ok (.return_, 1) := by decide +kernel
theorem dX10_isLetter_0 : decode cX10_isLetter 0 = .ok (.iload_n 0, 1) := by decide +kernel
theorem dX10_isLetter_1 : decode cX10_isLetter 1 = .ok (.bipush 97, 2) := by decide +kernel
theorem dX10_isLetter_3 : decode cX10_isLetter 3 = .ok (.if_icmp .lt 13, 3) := by decide +kernel
theorem dX10_isLetter_6 : decode cX10_isLetter 6 = .ok (.iload_n 0, 1) := by decide +kernel
theorem dX10_isLetter_7 : decode cX10_isLetter 7 = .ok (.bipush 122, 2) := by decide +kernel
theorem dX10_isLetter_9 : decode cX10_isLetter 9 = .ok (.if_icmp .gt 7, 3) := by decide +kernel
theorem dX10_isLetter_12 : decode cX10_isLetter 12 = .ok (.iconst 1, 1) := by decide +kernel
theorem dX10_isLetter_13 : decode cX10_isLetter 13 = .ok (.goto 4, 3) := by decide +kernel
theorem dX10_isLetter_16 : decode cX10_isLetter 16 = .ok (.iconst 0, 1) := by decide +kernel
theorem dX10_isLetter_17 : decode cX10_isLetter 17 = .ok (.ireturn, 1) := by decide +kernel
theorem dX10_isDigit_0 : decode cX10_isDigit 0 = .ok (.iload_n 0, 1) := by decide +kernel
theorem dX10_isDigit_1 : decode cX10_isDigit 1 = .ok (.bipush 48, 2) := by decide +kernel
theorem dX10_isDigit_3 : decode cX10_isDigit 3 = .ok (.if_icmp .lt 13, 3) := by decide +kernel
theorem dX10_isDigit_6 : decode cX10_isDigit 6 = .ok (.iload_n 0, 1) := by decide +kernel
theorem dX10_isDigit_7 : decode cX10_isDigit 7 = .ok (.bipush 57, 2) := by decide +kernel
theorem dX10_isDigit_9 : decode cX10_isDigit 9 = .ok (.if_icmp .gt 7, 3) := by decide +kernel
theorem dX10_isDigit_12 : decode cX10_isDigit 12 = .ok (.iconst 1, 1) := by decide +kernel
theorem dX10_isDigit_13 : decode cX10_isDigit 13 = .ok (.goto 4, 3) := by decide +kernel
theorem dX10_isDigit_16 : decode cX10_isDigit 16 = .ok (.iconst 0, 1) := by decide +kernel
theorem dX10_isDigit_17 : decode cX10_isDigit 17 = .ok (.ireturn, 1) := by decide +kernel
set_option maxRecDepth 20000 in
theorem ggX10_lettersEnd_X10_isLetter : GoodIn wsX10_lettersEnd wsX10_isLetter := goodIn_r _ [4] (by decide +kernel) (by decide +kernel)
set_option maxRecDepth 20000 in
theorem gX10_lettersEnd_X10_isLetter : GoodIn wsX10_lettersEnd (va_wsS RX10 25 yX10_isLetter wsX10_isLetter) := goodIn_app (goodIn_of _ (by decide +kernel)) ggX10_lettersEnd_X10_isLetter
theorem dX10_lettersEnd_0 : decode cX10_lettersEnd 0 = .ok (.iload_n 1, 1) := by decide +kernel
theorem dX10_lettersEnd_1 : decode cX10_lettersEnd 1 = .ok (.iconst 1, 1) := by decide +kernel
theorem dX10_lettersEnd_2 : decode cX10_lettersEnd 2 = .ok (.iadd, 1) := by decide +kernel
theorem dX10_lettersEnd_3 : decode cX10_lettersEnd 3 = .ok (.istore_n 3, 1) := by decide +kernel
theorem dX10_lettersEnd_4 : decode cX10_lettersEnd 4 = .ok (.iload_n 3, 1) := by decide +kernel
theorem dX10_lettersEnd_5 : decode cX10_lettersEnd 5 = .ok (.iload_n 2, 1) := by decide +kernel
theorem dX10_lettersEnd_6 : decode cX10_lettersEnd 6 = .ok (.if_icmp .ge 18, 3) := by decide +kernel
theorem dX10_lettersEnd_9 : decode cX10_lettersEnd 9 = .ok (.aload_n 0, 1) := by decide +kernel
theorem dX10_lettersEnd_10 : decode cX10_lettersEnd 10 = .ok (.iload_n 3, 1) := by decide +kernel
theorem dX10_lettersEnd_11 : decode cX10_lettersEnd 11 = .ok (.baload, 1) := by decide +kernel
theorem dX10_lettersEnd_12 : decode cX10_lettersEnd 12 = .ok (.invokestatic 25, 3) := by decide +kernel
theorem dX10_lettersEnd_15 : decode cX10_lettersEnd 15 = .ok (.ifCond .eq 9, 3) := by decide +kernel
theorem dX10_lettersEnd_18 : decode cX10_lettersEnd 18 = .ok (.iinc 3 1, 3) := by decide +kernel
theorem dX10_lettersEnd_21 : decode cX10_lettersEnd 21 = .ok (.goto (-17), 3) := by decide +kernel
theorem dX10_lettersEnd_24 : decode cX10_lettersEnd 24 = .ok (.iload_n 3, 1) := by decide +kernel
theorem dX10_lettersEnd_25 : decode cX10_lettersEnd 25 = .ok (.ireturn, 1) := by decide +kernel
set_option maxRecDepth 20000 in
theorem ggX10_digitsEnd_X10_isDigit : GoodIn wsX10_digitsEnd wsX10_isDigit := goodIn_r _ [4] (by decide +kernel) (by decide +kernel)
set_option maxRecDepth 20000 in
theorem gX10_digitsEnd_X10_isDigit : GoodIn wsX10_digitsEnd (va_wsS RX10 40 yX10_isDigit wsX10_isDigit) := goodIn_app (goodIn_of _ (by decide +kernel)) ggX10_digitsEnd_X10_isDigit
theorem dX10_digitsEnd_0 : decode cX10_digitsEnd 0 = .ok (.iload_n 1, 1) := by decide +kernel
theorem dX10_digitsEnd_1 : decode cX10_digitsEnd 1 = .ok (.iconst 1, 1) := by decide +kernel
theorem dX10_digitsEnd_2 : decode cX10_digitsEnd 2 = .ok (.iadd, 1) := by decide +kernel
theorem dX10_digitsEnd_3 : decode cX10_digitsEnd 3 = .ok (.istore_n 3, 1) := by decide +kernel
theorem dX10_digitsEnd_4 : decode cX10_digitsEnd 4 = .ok (.iload_n 3, 1) := by decide +kernel
theorem dX10_digitsEnd_5 : decode cX10_digitsEnd 5 = .ok (.iload_n 2, 1) := by decide +kernel
theorem dX10_digitsEnd_6 : decode cX10_digitsEnd 6 = .ok (.if_icmp .ge 18, 3) := by decide +kernel
theorem dX10_digitsEnd_9 : decode cX10_digitsEnd 9 = .ok (.aload_n 0, 1) := by decide +kernel
theorem dX10_digitsEnd_10 : decode cX10_digitsEnd 10 = .ok (.iload_n 3, 1) := by decide +kernel
theorem dX10_digitsEnd_11 : decode cX10_digitsEnd 11 = .ok (.baload, 1) := by decide +kernel
theorem dX10_digitsEnd_12 : decode cX10_digitsEnd 12 = .ok (.invokestatic 40, 3) := by decide +kernel
theorem dX10_digitsEnd_15 : decode cX10_digitsEnd 15 = .ok (.ifCond .eq 9, 3) := by decide +kernel
theorem dX10_digitsEnd_18 : decode cX10_digitsEnd 18 = .ok (.iinc 3 1, 3) := by decide +kernel
theorem dX10_digitsEnd_21 : decode cX10_digitsEnd 21 = .ok (.goto (-17), 3) := by decide +kernel
theorem dX10_digitsEnd_24 : decode cX10_digitsEnd 24 = .ok (.iload_n 3, 1) := by decide +kernel
theorem dX10_digitsEnd_25 : decode cX10_digitsEnd 25 = .ok (.ireturn, 1) := by decide +kernel
theorem dX10_valueOf_0 : decode cX10_valueOf 0 = .ok (.iconst 0, 1) := by decide +kernel
theorem dX10_valueOf_1 : decode cX10_valueOf 1 = .ok (.istore_n 3, 1) := by decide +kernel
theorem dX10_valueOf_2 : decode cX10_valueOf 2 = .ok (.iload_n 1, 1) := by decide +kernel
theorem dX10_valueOf_3 : decode cX10_valueOf 3 = .ok (.istore 4, 2) := by decide +kernel
theorem dX10_valueOf_5 : decode cX10_valueOf 5 = .ok (.iload 4, 2) := by decide +kernel
theorem dX10_valueOf_7 : decode cX10_valueOf 7 = .ok (.iload_n 2, 1) := by decide +kernel
theorem dX10_valueOf_8 : decode cX10_valueOf 8 = .ok (.if_icmp .ge 22, 3) := by decide +kernel
theorem dX10_valueOf_11 : decode cX10_valueOf 11 = .ok (.bipush 10, 2) := by decide +kernel
theorem dX10_valueOf_13 : decode cX10_valueOf 13 = .ok (.iload_n 3, 1) := by decide +kernel
theorem dX10_valueOf_14 : decode cX10_valueOf 14 = .ok (.imul, 1) := by decide +kernel
theorem dX10_valueOf_15 : decode cX10_valueOf 15 = .ok (.aload_n 0, 1) := by decide +kernel
theorem dX10_valueOf_16 : decode cX10_valueOf 16 = .ok (.iload 4, 2) := by decide +kernel
theorem dX10_valueOf_18 : decode cX10_valueOf 18 = .ok (.baload, 1) := by decide +kernel
theorem dX10_valueOf_19 : decode cX10_valueOf 19 = .ok (.iadd, 1) := by decide +kernel
theorem dX10_valueOf_20 : decode cX10_valueOf 20 = .ok (.bipush 48, 2) := by decide +kernel
theorem dX10_valueOf_22 : decode cX10_valueOf 22 = .ok (.isub, 1) := by decide +kernel
theorem dX10_valueOf_23 : decode cX10_valueOf 23 = .ok (.istore_n 3, 1) := by decide +kernel
theorem dX10_valueOf_24 : decode cX10_valueOf 24 = .ok (.iinc 4 1, 3) := by decide +kernel
theorem dX10_valueOf_27 : decode cX10_valueOf 27 = .ok (.goto (-22), 3) := by decide +kernel
theorem dX10_valueOf_30 : decode cX10_valueOf 30 = .ok (.iload_n 3, 1) := by decide +kernel
theorem dX10_valueOf_31 : decode cX10_valueOf 31 = .ok (.ireturn, 1) := by decide +kernel
set_option maxRecDepth 20000 in
theorem ggX10_wordCode_J0_length_8abf5 : GoodIn wsX10_wordCode wsJ0_length_8abf5 := goodIn_r _ [5, 6, 7, 8, 9, 4, 10, 11, 12] (by decide +kernel) (by decide +kernel)
set_option maxRecDepth 20000 in
theorem gX10_wordCode_J0_length_8abf5 : GoodIn wsX10_wordCode (wsV RX10 51 RJ0 yJ0_length_8abf5 wsJ0_length_8abf5) := goodIn_app (goodIn_of _ (by decide +kernel)) ggX10_wordCode_J0_length_8abf5
set_option maxRecDepth 20000 in
theorem ggX10_wordCode_J0_charAt_5068e : GoodIn wsX10_wordCode wsJ0_charAt_5068e := goodIn_r _ [16, 6, 17, 18, 19, 4, 20, 11, 12, 21, 22, 23, 24, 25, 26, 27, 28, 29, 30, 31, 32, 33, 34, 35, 36, 37, 38, 39, 40, 41, 42, 43, 44, 45, 46, 47, 48, 49] (by decide +kernel) (by decide +kernel)
set_option maxRecDepth 20000 in
theorem gX10_wordCode_J0_charAt_5068e : GoodIn wsX10_wordCode (wsV RX10 57 RJ0 yJ0_charAt_5068e wsJ0_charAt_5068e) := goodIn_app (goodIn_of _ (by decide +kernel)) ggX10_wordCode_J0_charAt_5068e
theorem dX10_wordCode_0 : decode cX10_wordCode 0 = .ok (.iload_n 2, 1) := by decide +kernel
theorem dX10_wordCode_1 : decode cX10_wordCode 1 = .ok (.iload_n 1, 1) := by decide +kernel
theorem dX10_wordCode_2 : decode cX10_wordCode 2 = .ok (.isub, 1) := by decide +kernel
theorem dX10_wordCode_3 : decode cX10_wordCode 3 = .ok (.istore_n 3, 1) := by decide +kernel
theorem dX10_wordCode_4 : decode cX10_wordCode 4 = .ok (.sipush 300, 3) := by decide +kernel
theorem dX10_wordCode_7 : decode cX10_wordCode 7 = .ok (.istore 4, 2) := by decide +kernel
theorem dX10_wordCode_9 : decode cX10_wordCode 9 = .ok (.iconst 0, 1) := by decide +kernel
theorem dX10_wordCode_10 : decode cX10_wordCode 10 = .ok (.istore 5, 2) := by decide +kernel
theorem dX10_wordCode_12 : decode cX10_wordCode 12 = .ok (.iconst 0, 1) := by decide +kernel
theorem dX10_wordCode_13 : decode cX10_wordCode 13 = .ok (.istore 6, 2) := by decide +kernel
theorem dX10_wordCode_15 : decode cX10_wordCode 15 = .ok (.iload 6, 2) := by decide +kernel
theorem dX10_wordCode_17 : decode cX10_wordCode 17 = .ok (.ldc 49, 2) := by decide +kernel
theorem dX10_wordCode_19 : decode cX10_wordCode 19 = .ok (.invokevirtual 51, 3) := by decide +kernel
theorem dX10_wordCode_22 : decode cX10_wordCode 22 = .ok (.if_icmp .ge 74, 3) := by decide +kernel
theorem dX10_wordCode_25 : decode cX10_wordCode 25 = .ok (.ldc 49, 2) := by decide +kernel
theorem dX10_wordCode_27 : decode cX10_wordCode 27 = .ok (.iload 6, 2) := by decide +kernel
theorem dX10_wordCode_29 : decode cX10_wordCode 29 = .ok (.invokevirtual 57, 3) := by decide +kernel
theorem dX10_wordCode_32 : decode cX10_wordCode 32 = .ok (.istore 7, 2) := by decide +kernel
theorem dX10_wordCode_34 : decode cX10_wordCode 34 = .ok (.iload 7, 2) := by decide +kernel
theorem dX10_wordCode_36 : decode cX10_wordCode 36 = .ok (.bipush 32, 2) := by decide +kernel
theorem dX10_wordCode_38 : decode cX10_wordCode 38 = .ok (.if_icmp .ne 21, 3) := by decide +kernel
theorem dX10_wordCode_41 : decode cX10_wordCode 41 = .ok (.iload 5, 2) := by decide +kernel
theorem dX10_wordCode_43 : decode cX10_wordCode 43 = .ok (.iload_n 3, 1) := by decide +kernel
theorem dX10_wordCode_44 : decode cX10_wordCode 44 = .ok (.if_icmp .ne 6, 3) := by decide +kernel
theorem dX10_wordCode_47 : decode cX10_wordCode 47 = .ok (.iload 4, 2) := by decide +kernel
theorem dX10_wordCode_49 : decode cX10_wordCode 49 = .ok (.ireturn, 1) := by decide +kernel
theorem dX10_wordCode_50 : decode cX10_wordCode 50 = .ok (.iinc 4 1, 3) := by decide +kernel
theorem dX10_wordCode_53 : decode cX10_wordCode 53 = .ok (.iconst 0, 1) := by decide +kernel
theorem dX10_wordCode_54 : decode cX10_wordCode 54 = .ok (.istore 5, 2) := by decide +kernel
theorem dX10_wordCode_56 : decode cX10_wordCode 56 = .ok (.goto 34, 3) := by decide +kernel
theorem dX10_wordCode_59 : decode cX10_wordCode 59 = .ok (.iload 5, 2) := by decide +kernel
theorem dX10_wordCode_61 : decode cX10_wordCode 61 = .ok (.ifCond .lt 26, 3) := by decide +kernel
theorem dX10_wordCode_64 : decode cX10_wordCode 64 = .ok (.iload 5, 2) := by decide +kernel
theorem dX10_wordCode_66 : decode cX10_wordCode 66 = .ok (.iload_n 3, 1) := by decide +kernel
theorem dX10_wordCode_67 : decode cX10_wordCode 67 = .ok (.if_icmp .ge 20, 3) := by decide +kernel
theorem dX10_wordCode_70 : decode cX10_wordCode 70 = .ok (.aload_n 0, 1) := by decide +kernel
theorem dX10_wordCode_71 : decode cX10_wordCode 71 = .ok (.iload_n 1, 1) := by decide +kernel
theorem dX10_wordCode_72 : decode cX10_wordCode 72 = .ok (.iload 5, 2) := by decide +kernel
theorem dX10_wordCode_74 : decode cX10_wordCode 74 = .ok (.iadd, 1) := by decide +kernel
theorem dX10_wordCode_75 : decode cX10_wordCode 75 = .ok (.baload, 1) := by decide +kernel
theorem dX10_wordCode_76 : decode cX10_wordCode 76 = .ok (.iload 7, 2) := by decide +kernel
theorem dX10_wordCode_78 : decode cX10_wordCode 78 = .ok (.if_icmp .ne 9, 3) := by decide +kernel
theorem dX10_wordCode_81 : decode cX10_wordCode 81 = .ok (.iinc 5 1, 3) := by decide +kernel
theorem dX10_wordCode_84 : decode cX10_wordCode 84 = .ok (.goto 6, 3) := by decide +kernel
theorem dX10_wordCode_87 : decode cX10_wordCode 87 = .ok (.iconst (-1), 1) := by decide +kernel
theorem dX10_wordCode_88 : decode cX10_wordCode 88 = .ok (.istore 5, 2) := by decide +kernel
theorem dX10_wordCode_90 : decode cX10_wordCode 90 = .ok (.iinc 6 1, 3) := by decide +kernel
theorem dX10_wordCode_93 : decode cX10_wordCode 93 = .ok (.goto (-78), 3) := by decide +kernel
theorem dX10_wordCode_96 : decode cX10_wordCode 96 = .ok (.sipush 258, 3) := by decide +kernel
theorem dX10_wordCode_99 : decode cX10_wordCode 99 = .ok (.ireturn, 1) := by decide +kernel
theorem dX10_add_0 : decode cX10_add 0 = .ok (.aload_n 0, 1) := by decide +kernel
theorem dX10_add_1 : decode cX10_add 1 = .ok (.getfield 21, 3) := by decide +kernel
theorem dX10_add_4 : decode cX10_add 4 = .ok (.aload_n 0, 1) := by decide +kernel
theorem dX10_add_5 : decode cX10_add 5 = .ok (.getfield 9, 3) := by decide +kernel
theorem dX10_add_8 : decode cX10_add 8 = .ok (.arraylength, 1) := by decide +kernel
theorem dX10_add_9 : decode cX10_add 9 = .ok (.if_icmp .ge 43, 3) := by decide +kernel
theorem dX10_add_12 : decode cX10_add 12 = .ok (.aload_n 0, 1) := by decide +kernel
theorem dX10_add_13 : decode cX10_add 13 = .ok (.getfield 9, 3) := by decide +kernel
theorem dX10_add_16 : decode cX10_add 16 = .ok (.aload_n 0, 1) := by decide +kernel
theorem dX10_add_17 : decode cX10_add 17 = .ok (.getfield 21, 3) := by decide +kernel
theorem dX10_add_20 : decode cX10_add 20 = .ok (.iload_n 1, 1) := by decide +kernel
theorem dX10_add_21 : decode cX10_add 21 = .ok (.iastore, 1) := by decide +kernel
theorem dX10_add_22 : decode cX10_add 22 = .ok (.aload_n 0, 1) := by decide +kernel
theorem dX10_add_23 : decode cX10_add 23 = .ok (.getfield 15, 3) := by decide +kernel
theorem dX10_add_26 : decode cX10_add 26 = .ok (.aload_n 0, 1) := by decide +kernel
theorem dX10_add_27 : decode cX10_add 27 = .ok (.getfield 21, 3) := by decide +kernel
theorem dX10_add_30 : decode cX10_add 30 = .ok (.iload_n 2, 1) := by decide +kernel
theorem dX10_add_31 : decode cX10_add 31 = .ok (.iastore, 1) := by decide +kernel
theorem dX10_add_32 : decode cX10_add 32 = .ok (.aload_n 0, 1) := by decide +kernel
theorem dX10_add_33 : decode cX10_add 33 = .ok (.getfield 18, 3) := by decide +kernel
theorem dX10_add_36 : decode cX10_add 36 = .ok (.aload_n 0, 1) := by decide +kernel
theorem dX10_add_37 : decode cX10_add 37 = .ok (.getfield 21, 3) := by decide +kernel
theorem dX10_add_40 : decode cX10_add 40 = .ok (.iload_n 3, 1) := by decide +kernel
theorem dX10_add_41 : decode cX10_add 41 = .ok (.iastore, 1) := by decide +kernel
theorem dX10_add_42 : decode cX10_add 42 = .ok (.aload_n 0, 1) := by decide +kernel
theorem dX10_add_43 : decode cX10_add 43 = .ok (.dup, 1) := by decide +kernel
theorem dX10_add_44 : decode cX10_add 44 = .ok (.getfield 21, 3) := by decide +kernel
theorem dX10_add_47 : decode cX10_add 47 = .ok (.iconst 1, 1) := by decide +kernel
theorem dX10_add_48 : decode cX10_add 48 = .ok (.iadd, 1) := by decide +kernel
theorem dX10_add_49 : decode cX10_add 49 = .ok (.putfield 21, 3) := by decide +kernel
theorem dX10_add_52 : decode cX10_add 52 = .ok (.return_, 1) := by decide +kernel
theorem dX10_code_0 : decode cX10_code 0 = .ok (.iload_n 1, 1) := by decide +kernel
theorem dX10_code_1 : decode cX10_code 1 = .ok (.ifCond .lt 20, 3) := by decide +kernel
theorem dX10_code_4 : decode cX10_code 4 = .ok (.iload_n 1, 1) := by decide +kernel
theorem dX10_code_5 : decode cX10_code 5 = .ok (.aload_n 0, 1) := by decide +kernel
theorem dX10_code_6 : decode cX10_code 6 = .ok (.getfield 21, 3) := by decide +kernel
theorem dX10_code_9 : decode cX10_code 9 = .ok (.if_icmp .ge 12, 3) := by decide +kernel
theorem dX10_code_12 : decode cX10_code 12 = .ok (.aload_n 0, 1) := by decide +kernel
theorem dX10_code_13 : decode cX10_code 13 = .ok (.getfield 9, 3) := by decide +kernel
theorem dX10_code_16 : decode cX10_code 16 = .ok (.iload_n 1, 1) := by decide +kernel
theorem dX10_code_17 : decode cX10_code 17 = .ok (.iaload, 1) := by decide +kernel
theorem dX10_code_18 : decode cX10_code 18 = .ok (.goto 6, 3) := by decide +kernel
theorem dX10_code_21 : decode cX10_code 21 = .ok (.sipush 259, 3) := by decide +kernel
theorem dX10_code_24 : decode cX10_code 24 = .ok (.ireturn, 1) := by decide +kernel
theorem dX10_value_0 : decode cX10_value 0 = .ok (.iload_n 1, 1) := by decide +kernel
theorem dX10_value_1 : decode cX10_value 1 = .ok (.ifCond .lt 20, 3) := by decide +kernel
theorem dX10_value_4 : decode cX10_value 4 = .ok (.iload_n 1, 1) := by decide +kernel
theorem dX10_value_5 : decode cX10_value 5 = .ok (.aload_n 0, 1) := by decide +kernel
theorem dX10_value_6 : decode cX10_value 6 = .ok (.getfield 21, 3) := by decide +kernel
theorem dX10_value_9 : decode cX10_value 9 = .ok (.if_icmp .ge 12, 3) := by decide +kernel
theorem dX10_value_12 : decode cX10_value 12 = .ok (.aload_n 0, 1) := by decide +kernel
theorem dX10_value_13 : decode cX10_value 13 = .ok (.getfield 15, 3) := by decide +kernel
theorem dX10_value_16 : decode cX10_value 16 = .ok (.iload_n 1, 1) := by decide +kernel
theorem dX10_value_17 : decode cX10_value 17 = .ok (.iaload, 1) := by decide +kernel
theorem dX10_value_18 : decode cX10_value 18 = .ok (.goto 4, 3) := by decide +kernel
theorem dX10_value_21 : decode cX10_value 21 = .ok (.iconst 0, 1) := by decide +kernel
theorem dX10_value_22 : decode cX10_value 22 = .ok (.ireturn, 1) := by decide +kernel
theorem dX10_start_0 : decode cX10_start 0 = .ok (.iload_n 1, 1) := by decide +kernel
theorem dX10_start_1 : decode cX10_start 1 = .ok (.ifCond .lt 20, 3) := by decide +kernel
theorem dX10_start_4 : decode cX10_start 4 = .ok (.iload_n 1, 1) := by decide +kernel
theorem dX10_start_5 : decode cX10_start 5 = .ok (.aload_n 0, 1) := by decide +kernel
theorem dX10_start_6 : decode cX10_start 6 = .ok (.getfield 21, 3) := by decide +kernel
theorem dX10_start_9 : decode cX10_start 9 = .ok (.if_icmp .ge 12, 3) := by decide +kernel
theorem dX10_start_12 : decode cX10_start 12 = .ok (.aload_n 0, 1) := by decide +kernel
theorem dX10_start_13 : decode cX10_start 13 = .ok (.getfield 18, 3) := by decide +kernel
theorem dX10_start_16 : decode cX10_start 16 = .ok (.iload_n 1, 1) := by decide +kernel
theorem dX10_start_17 : decode cX10_start 17 = .ok (.iaload, 1) := by decide +kernel
theorem dX10_start_18 : decode cX10_start 18 = .ok (.goto 4, 3) := by decide +kernel
theorem dX10_start_21 : decode cX10_start 21 = .ok (.iconst 0, 1) := by decide +kernel
theorem dX10_start_22 : decode cX10_start 22 = .ok (.ireturn, 1) := by decide +kernel
set_option maxRecDepth 20000 in
theorem ggX11_init_X10_init : GoodIn wsX11_init wsX10_init := goodIn_r _ [51, 52, 2, 3, 53, 54, 55, 56, 57, 151, 152, 153, 154] (by decide +kernel) (by decide +kernel)
set_option maxRecDepth 20000 in
theorem gX11_init_X10_init : GoodIn wsX11_init (wsX10_init) := ggX11_init_X10_init
set_option maxRecDepth 20000 in
theorem ggX11_init_X3_init : GoodIn wsX11_init wsX3_init := goodIn_r _ [60, 61, 2, 3, 62, 63, 64, 53, 65, 66, 67, 68, 69, 70, 71, 72, 73, 74, 75, 76, 155, 156, 157, 158, 159, 160, 161, 162, 163, 164, 165, 166, 167, 168, 169, 170, 171, 172, 173, 174] (by decide +kernel) (by decide +kernel)
set_option maxRecDepth 20000 in
theorem gX11_init_X3_init : GoodIn wsX11_init (wsX3_init) := ggX11_init_X3_init
set_option maxRecDepth 20000 in
theorem ggX11_init_X5_init : GoodIn wsX11_init wsX5_init := goodIn_r _ [79, 80, 2, 3, 81, 53, 82, 83, 84, 85, 86, 87, 175, 176, 177, 178, 179, 180, 181] (by decide +kernel) (by decide +kernel)
set_option maxRecDepth 20000 in
theorem gX11_init_X5_init : GoodIn wsX11_init (wsX5_init) := ggX11_init_X5_init
set_option maxRecDepth 20000 in
theorem ggX11_init_X1_init : GoodIn wsX11_init wsX1_init := goodIn_r _ [90, 91, 2, 3, 92, 53, 93, 182, 183] (by decide +kernel) (by decide +kernel)
set_option maxRecDepth 20000 in
theorem gX11_init_X1_init : GoodIn wsX11_init (wsX1_init) := ggX11_init_X1_init
set_option maxRecDepth 20000 in
theorem ggX11_init_X4_init : GoodIn wsX11_init wsX4_init := goodIn_r _ [96, 97, 98, 99, 100, 101, 102, 2, 3, 103, 104, 105, 184, 185, 186, 187, 188, 189, 190, 191] (by decide +kernel) (by decide +kernel)
set_option maxRecDepth 20000 in
theorem gX11_init_X4_init : GoodIn wsX11_init (wsX4_init) := ggX11_init_X4_init
set_option maxRecDepth 20000 in
theorem ggX11_init_X6_init : GoodIn wsX11_init wsX6_init := goodIn_r _ [108, 109, 110, 99, 100, 101, 102, 2, 3, 103, 104, 105, 188, 189, 190, 191, 184, 185, 186, 187] (by decide +kernel) (by decide +kernel)
set_option maxRecDepth 20000 in
theorem gX11_init_X6_init : GoodIn wsX11_init (wsX6_init) := ggX11_init_X6_init
set_option maxRecDepth 20000 in
theorem ggX11_init_X2_init : GoodIn wsX11_init wsX2_init := goodIn_r _ [113, 114, 2, 3, 115, 116, 53, 117, 118, 192, 193, 194, 195] (by decide +kernel) (by decide +kernel)
set_option maxRecDepth 20000 in
theorem gX11_init_X2_init : GoodIn wsX11_init (wsX2_init) := ggX11_init_X2_init
set_option maxRecDepth 20000 in
theorem ggX11_init_X8_init : GoodIn wsX11_init wsX8_init := goodIn_r _ [121, 122, 2, 3, 123, 124, 125, 126, 127, 128, 14, 15, 22, 23, 129, 59, 60, 61, 62, 63, 64, 53, 65, 66, 67, 68, 69, 70, 71, 72, 73, 74, 75, 76, 130, 89, 90, 91, 92, 93, 196, 197, 198, 199, 155, 156, 157, 158, 159, 160, 161, 162, 163, 164, 165, 166, 167, 168, 169, 170, 171, 172, 173, 174, 182, 183] (by decide +kernel) (by decide +kernel)
set_option maxRecDepth 20000 in
theorem gX11_init_X8_init : GoodIn wsX11_init (wsX8_init) := ggX11_init_X8_init
theorem dX11_init_0 : decode cX11_init 0 = .ok (.aload_n 0, 1) := by decide +kernel
theorem dX11_init_1 : decode cX11_init 1 = .ok (.invokespecial 1, 3) := by decide +kernel
theorem dX11_init_4 : decode cX11_init 4 = .ok (.aload_n 0, 1) := by decide +kernel
theorem dX11_init_5 : decode cX11_init 5 = .ok (.sipush 400, 3) := by decide +kernel
theorem dX11_init_8 : decode cX11_init 8 = .ok (.newarray .byte, 2) := by decide +kernel
theorem dX11_init_10 : decode cX11_init 10 = .ok (.putfield 9, 3) := by decide +kernel
theorem dX11_init_13 : decode cX11_init 13 = .ok (.aload_n 0, 1) := by decide +kernel
theorem dX11_init_14 : decode cX11_init 14 = .ok (.iconst 0, 1) := by decide +kernel
theorem dX11_init_15 : decode cX11_init 15 = .ok (.putfield 13, 3) := by decide +kernel
theorem dX11_init_18 : decode cX11_init 18 = .ok (.aload_n 0, 1) := by decide +kernel
theorem dX11_init_19 : decode cX11_init 19 = .ok (.iconst (-1), 1) := by decide +kernel
theorem dX11_init_20 : decode cX11_init 20 = .ok (.putfield 17, 3) := by decide +kernel
theorem dX11_init_23 : decode cX11_init 23 = .ok (.aload_n 0, 1) := by decide +kernel
theorem dX11_init_24 : decode cX11_init 24 = .ok (.new 20, 3) := by decide +kernel
theorem dX11_init_27 : decode cX11_init 27 = .ok (.dup, 1) := by decide +kernel
theorem dX11_init_28 : decode cX11_init 28 = .ok (.invokespecial 22, 3) := by decide +kernel
theorem dX11_init_31 : decode cX11_init 31 = .ok (.putfield 23, 3) := by decide +kernel
theorem dX11_init_34 : decode cX11_init 34 = .ok (.aload_n 0, 1) := by decide +kernel
theorem dX11_init_35 : decode cX11_init 35 = .ok (.iconst 0, 1) := by decide +kernel
theorem dX11_init_36 : decode cX11_init 36 = .ok (.putfield 27, 3) := by decide +kernel
theorem dX11_init_39 : decode cX11_init 39 = .ok (.aload_n 0, 1) := by decide +kernel
theorem dX11_init_40 : decode cX11_init 40 = .ok (.new 30, 3) := by decide +kernel
theorem dX11_init_43 : decode cX11_init 43 = .ok (.dup, 1) := by decide +kernel
theorem dX11_init_44 : decode cX11_init 44 = .ok (.invokespecial 32, 3) := by decide +kernel
theorem dX11_init_47 : decode cX11_init 47 = .ok (.putfield 33, 3) := by decide +kernel
theorem dX11_init_50 : decode cX11_init 50 = .ok (.aload_n 0, 1) := by decide +kernel
theorem dX11_init_51 : decode cX11_init 51 = .ok (.new 37, 3) := by decide +kernel
theorem dX11_init_54 : decode cX11_init 54 = .ok (.dup, 1) := by decide +kernel
theorem dX11_init_55 : decode cX11_init 55 = .ok (.invokespecial 39, 3) := by decide +kernel
theorem dX11_init_58 : decode cX11_init 58 = .ok (.putfield 40, 3) := by decide +kernel
theorem dX11_init_61 : decode cX11_init 61 = .ok (.aload_n 0, 1) := by decide +kernel
theorem dX11_init_62 : decode cX11_init 62 = .ok (.new 44, 3) := by decide +kernel
theorem dX11_init_65 : decode cX11_init 65 = .ok (.dup, 1) := by decide +kernel
theorem dX11_init_66 : decode cX11_init 66 = .ok (.invokespecial 46, 3) := by decide +kernel
theorem dX11_init_69 : decode cX11_init 69 = .ok (.putfield 47, 3) := by decide +kernel
theorem dX11_init_72 : decode cX11_init 72 = .ok (.aload_n 0, 1) := by decide +kernel
theorem dX11_init_73 : decode cX11_init 73 = .ok (.new 30, 3) := by decide +kernel
theorem dX11_init_76 : decode cX11_init 76 = .ok (.dup, 1) := by decide +kernel
theorem dX11_init_77 : decode cX11_init 77 = .ok (.invokespecial 32, 3) := by decide +kernel
theorem dX11_init_80 : decode cX11_init 80 = .ok (.putfield 51, 3) := by decide +kernel
theorem dX11_init_83 : decode cX11_init 83 = .ok (.aload_n 0, 1) := by decide +kernel
theorem dX11_init_84 : decode cX11_init 84 = .ok (.new 37, 3) := by decide +kernel
theorem dX11_init_87 : decode cX11_init 87 = .ok (.dup, 1) := by decide +kernel
theorem dX11_init_88 : decode cX11_init 88 = .ok (.invokespecial 39, 3) := by decide +kernel
theorem dX11_init_91 : decode cX11_init 91 = .ok (.putfield 54, 3) := by decide +kernel
theorem dX11_init_94 : decode cX11_init 94 = .ok (.aload_n 0, 1) := by decide +kernel
theorem dX11_init_95 : decode cX11_init 95 = .ok (.new 44, 3) := by decide +kernel
theorem dX11_init_98 : decode cX11_init 98 = .ok (.dup, 1) := by decide +kernel
theorem dX11_init_99 : decode cX11_init 99 = .ok (.invokespecial 46, 3) := by decide +kernel
theorem dX11_init_102 : decode cX11_init 102 = .ok (.putfield 57, 3) := by decide +kernel
theorem dX11_init_105 : decode cX11_init 105 = .ok (.aload_n 0, 1) := by decide +kernel
theorem dX11_init_106 : decode cX11_init 106 = .ok (.new 60, 3) := by decide +kernel
theorem dX11_init_109 : decode cX11_init 109 = .ok (.dup, 1) := by decide +kernel
theorem dX11_init_110 : decode cX11_init 110 = .ok (.aload_n 0, 1) := by decide +kernel
theorem dX11_init_111 : decode cX11_init 111 = .ok (.getfield 23, 3) := by decide +kernel
theorem dX11_init_114 : decode cX11_init 114 = .ok (.aload_n 0, 1) := by decide +kernel
theorem dX11_init_115 : decode cX11_init 115 = .ok (.getfield 51, 3) := by decide +kernel
theorem dX11_init_118 : decode cX11_init 118 = .ok (.invokespecial 62, 3) := by decide +kernel
theorem dX11_init_121 : decode cX11_init 121 = .ok (.putfield 65, 3) := by decide +kernel
theorem dX11_init_124 : decode cX11_init 124 = .ok (.aload_n 0, 1) := by decide +kernel
theorem dX11_init_125 : decode cX11_init 125 = .ok (.new 69, 3) := by decide +kernel
theorem dX11_init_128 : decode cX11_init 128 = .ok (.dup, 1) := by decide +kernel
theorem dX11_init_129 : decode cX11_init 129 = .ok (.aload_n 0, 1) := by decide +kernel
theorem dX11_init_130 : decode cX11_init 130 = .ok (.getfield 23, 3) := by decide +kernel
theorem dX11_init_133 : decode cX11_init 133 = .ok (.aload_n 0, 1) := by decide +kernel
theorem dX11_init_134 : decode cX11_init 134 = .ok (.getfield 54, 3) := by decide +kernel
theorem dX11_init_137 : decode cX11_init 137 = .ok (.invokespecial 71, 3) := by decide +kernel
theorem dX11_init_140 : decode cX11_init 140 = .ok (.putfield 74, 3) := by decide +kernel
theorem dX11_init_143 : decode cX11_init 143 = .ok (.aload_n 0, 1) := by decide +kernel
theorem dX11_init_144 : decode cX11_init 144 = .ok (.new 78, 3) := by decide +kernel
theorem dX11_init_147 : decode cX11_init 147 = .ok (.dup, 1) := by decide +kernel
theorem dX11_init_148 : decode cX11_init 148 = .ok (.invokespecial 80, 3) := by decide +kernel
theorem dX11_init_151 : decode cX11_init 151 = .ok (.putfield 81, 3) := by decide +kernel
theorem dX11_init_154 : decode cX11_init 154 = .ok (.aload_n 0, 1) := by decide +kernel
theorem dX11_init_155 : decode cX11_init 155 = .ok (.new 85, 3) := by decide +kernel
theorem dX11_init_158 : decode cX11_init 158 = .ok (.dup, 1) := by decide +kernel
theorem dX11_init_159 : decode cX11_init 159 = .ok (.invokespecial 87, 3) := by decide +kernel
theorem dX11_init_162 : decode cX11_init 162 = .ok (.putfield 88, 3) := by decide +kernel
theorem dX11_init_165 : decode cX11_init 165 = .ok (.aload_n 0, 1) := by decide +kernel
theorem dX11_init_166 : decode cX11_init 166 = .ok (.iconst 0, 1) := by decide +kernel
theorem dX11_init_167 : decode cX11_init 167 = .ok (.putfield 92, 3) := by decide +kernel
theorem dX11_init_170 : decode cX11_init 170 = .ok (.aload_n 0, 1) := by decide +kernel
theorem dX11_init_171 : decode cX11_init 171 = .ok (.iconst 0, 1) := by decide +kernel
theorem dX11_init_172 : decode cX11_init 172 = .ok (.putfield 96, 3) := by decide +kernel
theorem dX11_init_175 : decode cX11_init 175 = .ok (.aload_n 0, 1) := by decide +kernel
theorem dX11_init_176 : decode cX11_init 176 = .ok (.new 30, 3) := by decide +kernel
theorem dX11_init_179 : decode cX11_init 179 = .ok (.dup, 1) := by decide +kernel
theorem dX11_init_180 : decode cX11_init 180 = .ok (.invokespecial 32, 3) := by decide +kernel
theorem dX11_init_183 : decode cX11_init 183 = .ok (.putfield 99, 3) := by decide +kernel
theorem dX11_init_186 : decode cX11_init 186 = .ok (.aload_n 0, 1) := by decide +kernel
theorem dX11_init_187 : decode cX11_init 187 = .ok (.new 37, 3) := by decide +kernel
theorem dX11_init_190 : decode cX11_init 190 = .ok (.dup, 1) := by decide +kernel
theorem dX11_init_191 : decode cX11_init 191 = .ok (.invokespecial 39, 3) := by decide +kernel
theorem dX11_init_194 : decode cX11_init 194 = .ok (.putfield 102, 3) := by decide +kernel
theorem dX11_init_197 : decode cX11_init 197 = .ok (.aload_n 0, 1) := by decide +kernel
theorem dX11_init_198 : decode cX11_init 198 = .ok (.new 44, 3) := by decide +kernel
theorem dX11_init_201 : decode cX11_init 201 = .ok (.dup, 1) := by decide +kernel
theorem dX11_init_202 : decode cX11_init 202 = .ok (.invokespecial 46, 3) := by decide +kernel
theorem dX11_init_205 : decode cX11_init 205 = .ok (.putfield 105, 3) := by decide +kernel
theorem dX11_init_208 : decode cX11_init 208 = .ok (.return_, 1) := by decide +kernel
set_option maxRecDepth 20000 in
theorem ggX11_feed_X11_putBytes : GoodIn wsX11_feed wsX11_putBytes := goodIn_r _ [6, 1, 7, 8, 9, 10, 11, 12, 13, 14, 15, 16, 17, 18, 19, 20, 21, 22, 23, 24, 25, 26, 27] (by decide +kernel) (by decide +kernel)
set_option maxRecDepth 20000 in
theorem gX11_feed_X11_putBytes : GoodIn wsX11_feed (wsV RX11 108 RX11 yX11_putBytes wsX11_putBytes) := goodIn_app (goodIn_of _ (by decide +kernel)) ggX11_feed_X11_putBytes
theorem dX11_feed_0 : decode cX11_feed 0 = .ok (.aload_n 0, 1) := by decide +kernel
theorem dX11_feed_1 : decode cX11_feed 1 = .ok (.getfield 13, 3) := by decide +kernel
theorem dX11_feed_4 : decode cX11_feed 4 = .ok (.bipush 20, 2) := by decide +kernel
theorem dX11_feed_6 : decode cX11_feed 6 = .ok (.iadd, 1) := by decide +kernel
theorem dX11_feed_7 : decode cX11_feed 7 = .ok (.sipush 400, 3) := by decide +kernel
theorem dX11_feed_10 : decode cX11_feed 10 = .ok (.if_icmp .le 5, 3) := by decide +kernel
theorem dX11_feed_13 : decode cX11_feed 13 = .ok (.iconst (-1), 1) := by decide +kernel
theorem dX11_feed_14 : decode cX11_feed 14 = .ok (.ireturn, 1) := by decide +kernel
theorem dX11_feed_15 : decode cX11_feed 15 = .ok (.aload_n 0, 1) := by decide +kernel
theorem dX11_feed_16 : decode cX11_feed 16 = .ok (.iload_n 1, 1) := by decide +kernel
theorem dX11_feed_17 : decode cX11_feed 17 = .ok (.invokevirtual 108, 3) := by decide +kernel
theorem dX11_feed_20 : decode cX11_feed 20 = .ok (.aload_n 0, 1) := by decide +kernel
theorem dX11_feed_21 : decode cX11_feed 21 = .ok (.iload_n 2, 1) := by decide +kernel
theorem dX11_feed_22 : decode cX11_feed 22 = .ok (.invokevirtual 108, 3) := by decide +kernel
theorem dX11_feed_25 : decode cX11_feed 25 = .ok (.aload_n 0, 1) := by decide +kernel
theorem dX11_feed_26 : decode cX11_feed 26 = .ok (.iload_n 3, 1) := by decide +kernel
theorem dX11_feed_27 : decode cX11_feed 27 = .ok (.invokevirtual 108, 3) := by decide +kernel
theorem dX11_feed_30 : decode cX11_feed 30 = .ok (.aload_n 0, 1) := by decide +kernel
theorem dX11_feed_31 : decode cX11_feed 31 = .ok (.iload 4, 2) := by decide +kernel
theorem dX11_feed_33 : decode cX11_feed 33 = .ok (.invokevirtual 108, 3) := by decide +kernel
theorem dX11_feed_36 : decode cX11_feed 36 = .ok (.aload_n 0, 1) := by decide +kernel
theorem dX11_feed_37 : decode cX11_feed 37 = .ok (.iload 5, 2) := by decide +kernel
theorem dX11_feed_39 : decode cX11_feed 39 = .ok (.invokevirtual 108, 3) := by decide +kernel
theorem dX11_feed_42 : decode cX11_feed 42 = .ok (.aload_n 0, 1) := by decide +kernel
theorem dX11_feed_43 : decode cX11_feed 43 = .ok (.getfield 13, 3) := by decide +kernel
theorem dX11_feed_46 : decode cX11_feed 46 = .ok (.ireturn, 1) := by decide +kernel
theorem dX11_putBytes_0 : decode cX11_putBytes 0 = .ok (.bipush 24, 2) := by decide +kernel
theorem dX11_putBytes_2 : decode cX11_putBytes 2 = .ok (.istore_n 2, 1) := by decide +kernel
theorem dX11_putBytes_3 : decode cX11_putBytes 3 = .ok (.iload_n 2, 1) := by decide +kernel
theorem dX11_putBytes_4 : decode cX11_putBytes 4 = .ok (.ifCond .lt 42, 3) := by decide +kernel
theorem dX11_putBytes_7 : decode cX11_putBytes 7 = .ok (.aload_n 0, 1) := by decide +kernel
theorem dX11_putBytes_8 : decode cX11_putBytes 8 = .ok (.getfield 13, 3) := by decide +kernel
theorem dX11_putBytes_11 : decode cX11_putBytes 11 = .ok (.sipush 400, 3) := by decide +kernel
theorem dX11_putBytes_14 : decode cX11_putBytes 14 = .ok (.if_icmp .ge 32, 3) := by decide +kernel
theorem dX11_putBytes_17 : decode cX11_putBytes 17 = .ok (.aload_n 0, 1) := by decide +kernel
theorem dX11_putBytes_18 : decode cX11_putBytes 18 = .ok (.getfield 9, 3) := by decide +kernel
theorem dX11_putBytes_21 : decode cX11_putBytes 21 = .ok (.aload_n 0, 1) := by decide +kernel
theorem dX11_putBytes_22 : decode cX11_putBytes 22 = .ok (.getfield 13, 3) := by decide +kernel
theorem dX11_putBytes_25 : decode cX11_putBytes 25 = .ok (.iload_n 1, 1) := by decide +kernel
theorem dX11_putBytes_26 : decode cX11_putBytes 26 = .ok (.iload_n 2, 1) := by decide +kernel
theorem dX11_putBytes_27 : decode cX11_putBytes 27 = .ok (.iushr, 1) := by decide +kernel
theorem dX11_putBytes_28 : decode cX11_putBytes 28 = .ok (.i2b, 1) := by decide +kernel
theorem dX11_putBytes_29 : decode cX11_putBytes 29 = .ok (.bastore, 1) := by decide +kernel
theorem dX11_putBytes_30 : decode cX11_putBytes 30 = .ok (.aload_n 0, 1) := by decide +kernel
theorem dX11_putBytes_31 : decode cX11_putBytes 31 = .ok (.dup, 1) := by decide +kernel
theorem dX11_putBytes_32 : decode cX11_putBytes 32 = .ok (.getfield 13, 3) := by decide +kernel
theorem dX11_putBytes_35 : decode cX11_putBytes 35 = .ok (.iconst 1, 1) := by decide +kernel
theorem dX11_putBytes_36 : decode cX11_putBytes 36 = .ok (.iadd, 1) := by decide +kernel
theorem dX11_putBytes_37 : decode cX11_putBytes 37 = .ok (.putfield 13, 3) := by decide +kernel
theorem dX11_putBytes_40 : decode cX11_putBytes 40 = .ok (.iinc 2 (-8), 3) := by decide +kernel
theorem dX11_putBytes_43 : decode cX11_putBytes 43 = .ok (.goto (-40), 3) := by decide +kernel
theorem dX11_putBytes_46 : decode cX11_putBytes 46 = .ok (.return_, 1) := by decide +kernel
theorem dX11_end_0 : decode cX11_end 0 = .ok (.iload_n 1, 1) := by decide +kernel
theorem dX11_end_1 : decode cX11_end 1 = .ok (.ifCond .lt 11, 3) := by decide +kernel
theorem dX11_end_4 : decode cX11_end 4 = .ok (.iload_n 1, 1) := by decide +kernel
theorem dX11_end_5 : decode cX11_end 5 = .ok (.aload_n 0, 1) := by decide +kernel
theorem dX11_end_6 : decode cX11_end 6 = .ok (.getfield 13, 3) := by decide +kernel
theorem dX11_end_9 : decode cX11_end 9 = .ok (.if_icmp .le 5, 3) := by decide +kernel
theorem dX11_end_12 : decode cX11_end 12 = .ok (.iconst 0, 1) := by decide +kernel
theorem dX11_end_13 : decode cX11_end 13 = .ok (.ireturn, 1) := by decide +kernel
theorem dX11_end_14 : decode cX11_end 14 = .ok (.aload_n 0, 1) := by decide +kernel
theorem dX11_end_15 : decode cX11_end 15 = .ok (.iload_n 1, 1) := by decide +kernel
theorem dX11_end_16 : decode cX11_end 16 = .ok (.putfield 13, 3) := by decide +kernel
theorem dX11_end_19 : decode cX11_end 19 = .ok (.iconst 1, 1) := by decide +kernel
theorem dX11_end_20 : decode cX11_end 20 = .ok (.ireturn, 1) := by decide +kernel
theorem dX11_useTapeUp_0 : decode cX11_useTapeUp 0 = .ok (.aload_n 0, 1) := by decide +kernel
theorem dX11_useTapeUp_1 : decode cX11_useTapeUp 1 = .ok (.getfield 13, 3) := by decide +kernel
theorem dX11_useTapeUp_4 : decode cX11_useTapeUp 4 = .ok (.istore_n 1, 1) := by decide +kernel
theorem dX11_useTapeUp_5 : decode cX11_useTapeUp 5 = .ok (.aload_n 0, 1) := by decide +kernel
theorem dX11_useTapeUp_6 : decode cX11_useTapeUp 6 = .ok (.iconst 0, 1) := by decide +kernel
theorem dX11_useTapeUp_7 : decode cX11_useTapeUp 7 = .ok (.putfield 13, 3) := by decide +kernel
theorem dX11_useTapeUp_10 : decode cX11_useTapeUp 10 = .ok (.iload_n 1, 1) := by decide +kernel
theorem dX11_useTapeUp_11 : decode cX11_useTapeUp 11 = .ok (.ireturn, 1) := by decide +kernel
set_option maxRecDepth 20000 in
theorem ggX11_hill_X11_useTapeUp : GoodIn wsX11_hill wsX11_useTapeUp := goodIn_r _ [17, 18, 293, 294, 295, 296, 297, 298, 299, 300, 301, 302, 303, 304, 305, 306, 307, 308, 309, 310, 311, 312] (by decide +kernel) (by decide +kernel)
set_option maxRecDepth 20000 in
theorem gX11_hill_X11_useTapeUp : GoodIn wsX11_hill (wsV RX11 112 RX11 yX11_useTapeUp wsX11_useTapeUp) := goodIn_app (goodIn_of _ (by decide +kernel)) ggX11_hill_X11_useTapeUp
set_option maxRecDepth 20000 in
theorem ggX11_hill_X10_split : GoodIn wsX11_hill wsX10_split := goodIn_r _ [23, 24, 25, 26, 22, 27, 28, 29, 30, 31, 32, 33, 34, 35, 36, 37, 38, 39, 40, 41, 42, 43, 44, 45, 46, 47, 48, 49, 50, 51, 52, 53, 54, 55, 56, 57, 58, 59, 60, 61, 62, 63, 64, 65, 66, 67, 68, 69, 70, 71, 72, 73, 74, 75, 76, 77, 78, 79, 80, 81, 82, 83, 84, 85, 86, 87, 88, 89, 90, 91, 92, 93, 94, 95, 96, 97, 98, 313, 314, 315, 316] (by decide +kernel) (by decide +kernel)
set_option maxRecDepth 20000 in
theorem gX11_hill_X10_split : GoodIn wsX11_hill (wsV RX11 116 RX10 yX10_split wsX10_split) := goodIn_app (goodIn_of _ (by decide +kernel)) ggX11_hill_X10_split
set_option maxRecDepth 20000 in
theorem ggX11_hill_X3_copyFrom : GoodIn wsX11_hill wsX3_copyFrom := goodIn_r _ [103, 104, 105, 106, 107, 108, 109, 110, 111, 112, 113, 114, 115, 116, 117, 118, 119, 120, 121, 122, 123, 124, 125, 126, 127, 317, 318, 319, 320, 321, 322, 323, 324, 325, 326, 327, 328, 329, 330, 331, 332, 333, 334, 335, 336] (by decide +kernel) (by decide +kernel)
set_option maxRecDepth 20000 in
theorem gX11_hill_X3_copyFrom : GoodIn wsX11_hill (wsV RX11 120 RX3 yX3_copyFrom wsX3_copyFrom) := goodIn_app (goodIn_of _ (by decide +kernel)) ggX11_hill_X3_copyFrom
set_option maxRecDepth 20000 in
theorem ggX11_hill_X9_read : GoodIn wsX11_hill wsX9_read := goodIn_r _ [133, 134, 135, 136, 137, 138, 139, 22, 140, 24, 87, 141, 142, 143, 144, 145, 146, 147, 148, 149, 150, 151, 152, 153, 154, 155, 156, 157, 158, 159, 160, 161, 132, 162, 163, 164, 165, 166, 88, 167, 168, 169, 170, 171, 172, 173, 174, 102, 175, 104, 115, 120, 113, 114, 121, 122, 176, 177, 178, 179, 180, 181, 182, 183, 184, 185, 186, 187, 188, 105, 123, 124, 125, 189, 190, 191, 192, 193, 194, 195, 196, 197, 198, 199, 200, 201, 202, 203, 204, 205, 206, 207, 208, 209, 210, 211, 212, 213, 214, 215, 216, 217, 218, 219, 220, 221, 222, 223, 224, 225, 226, 227, 228, 229, 230, 231, 232, 233, 234, 235, 236, 237, 238, 239, 240, 241, 242, 243, 244, 245, 246, 247, 248, 249, 250, 251, 252, 253, 254, 255, 256, 257, 258, 259, 260, 261, 262, 89, 263, 264, 265, 266, 337, 338, 339, 340, 341, 342, 343, 344, 313, 314, 315, 316, 317, 318, 319, 320, 321, 322, 323, 324, 325, 326, 327, 328, 329, 330, 331, 332, 333, 334, 335, 336, 345, 346, 347, 348, 349, 350, 351] (by decide +kernel) (by decide +kernel)
set_option maxRecDepth 20000 in
theorem gX11_hill_X9_read_u124X4 : GoodIn wsX11_hill (va_wsU RX11 124 RX4 "SeeSawHill$TextReader" ⟨"SeeSawHill$HillReader", "read", "()I"⟩ yX9_read wsX9_read) := goodIn_app (goodIn_of _ (by decide +kernel)) ggX11_hill_X9_read
set_option maxRecDepth 20000 in
theorem ggX11_hill_X3_weigh : GoodIn wsX11_hill wsX3_weigh := goodIn_r _ [270, 126, 106, 122, 105, 125, 123, 104, 127, 114, 271, 182, 183, 102, 184, 272, 273, 274, 275, 113, 276, 277, 278, 279, 107, 280, 281, 282, 283, 284, 285, 286, 317, 318, 319, 320, 321, 322, 323, 324, 325, 326, 327, 328, 329, 330, 331, 332, 333, 334, 335, 336] (by decide +kernel) (by decide +kernel)
set_option maxRecDepth 20000 in
theorem gX11_hill_X3_weigh : GoodIn wsX11_hill (wsV RX11 133 RX3 yX3_weigh wsX3_weigh) := goodIn_app (goodIn_of _ (by decide +kernel)) ggX11_hill_X3_weigh
set_option maxRecDepth 20000 in
theorem ggX11_hill_X8_forget : GoodIn wsX11_hill wsX8_forget := goodIn_r _ [291, 292, 352, 353, 354, 355] (by decide +kernel) (by decide +kernel)
set_option maxRecDepth 20000 in
theorem gX11_hill_X8_forget : GoodIn wsX11_hill (wsV RX11 136 RX8 yX8_forget wsX8_forget) := goodIn_app (goodIn_of _ (by decide +kernel)) ggX11_hill_X8_forget
theorem dX11_hill_0 : decode cX11_hill 0 = .ok (.aload_n 0, 1) := by decide +kernel
theorem dX11_hill_1 : decode cX11_hill 1 = .ok (.getfield 23, 3) := by decide +kernel
theorem dX11_hill_4 : decode cX11_hill 4 = .ok (.aload_n 0, 1) := by decide +kernel
theorem dX11_hill_5 : decode cX11_hill 5 = .ok (.getfield 9, 3) := by decide +kernel
theorem dX11_hill_8 : decode cX11_hill 8 = .ok (.aload_n 0, 1) := by decide +kernel
theorem dX11_hill_9 : decode cX11_hill 9 = .ok (.invokevirtual 112, 3) := by decide +kernel
theorem dX11_hill_12 : decode cX11_hill 12 = .ok (.invokevirtual 116, 3) := by decide +kernel
theorem dX11_hill_15 : decode cX11_hill 15 = .ok (.aload_n 0, 1) := by decide +kernel
theorem dX11_hill_16 : decode cX11_hill 16 = .ok (.getfield 51, 3) := by decide +kernel
theorem dX11_hill_19 : decode cX11_hill 19 = .ok (.aload_n 0, 1) := by decide +kernel
theorem dX11_hill_20 : decode cX11_hill 20 = .ok (.getfield 33, 3) := by decide +kernel
theorem dX11_hill_23 : decode cX11_hill 23 = .ok (.invokevirtual 120, 3) := by decide +kernel
theorem dX11_hill_26 : decode cX11_hill 26 = .ok (.aload_n 0, 1) := by decide +kernel
theorem dX11_hill_27 : decode cX11_hill 27 = .ok (.aload_n 0, 1) := by decide +kernel
theorem dX11_hill_28 : decode cX11_hill 28 = .ok (.getfield 65, 3) := by decide +kernel
theorem dX11_hill_31 : decode cX11_hill 31 = .ok (.invokevirtual 124, 3) := by decide +kernel
theorem dX11_hill_34 : decode cX11_hill 34 = .ok (.putfield 17, 3) := by decide +kernel
theorem dX11_hill_37 : decode cX11_hill 37 = .ok (.aload_n 0, 1) := by decide +kernel
theorem dX11_hill_38 : decode cX11_hill 38 = .ok (.getfield 17, 3) := by decide +kernel
theorem dX11_hill_41 : decode cX11_hill 41 = .ok (.iconst (-1), 1) := by decide +kernel
theorem dX11_hill_42 : decode cX11_hill 42 = .ok (.if_icmp .eq 11, 3) := by decide +kernel
theorem dX11_hill_45 : decode cX11_hill 45 = .ok (.new 127, 3) := by decide +kernel
theorem dX11_hill_48 : decode cX11_hill 48 = .ok (.dup, 1) := by decide +kernel
theorem dX11_hill_49 : decode cX11_hill 49 = .ok (.invokespecial 129, 3) := by decide +kernel
theorem dX11_hill_52 : decode cX11_hill 52 = .ok (.athrow, 1) := by decide +kernel
theorem dX11_hill_53 : decode cX11_hill 53 = .ok (.aload_n 0, 1) := by decide +kernel
theorem dX11_hill_54 : decode cX11_hill 54 = .ok (.getfield 27, 3) := by decide +kernel
theorem dX11_hill_57 : decode cX11_hill 57 = .ok (.bipush 12, 2) := by decide +kernel
theorem dX11_hill_59 : decode cX11_hill 59 = .ok (.if_icmp .lt 11, 3) := by decide +kernel
theorem dX11_hill_62 : decode cX11_hill 62 = .ok (.new 130, 3) := by decide +kernel
theorem dX11_hill_65 : decode cX11_hill 65 = .ok (.dup, 1) := by decide +kernel
theorem dX11_hill_66 : decode cX11_hill 66 = .ok (.invokespecial 132, 3) := by decide +kernel
theorem dX11_hill_69 : decode cX11_hill 69 = .ok (.athrow, 1) := by decide +kernel
theorem dX11_hill_70 : decode cX11_hill 70 = .ok (.aload_n 0, 1) := by decide +kernel
theorem dX11_hill_71 : decode cX11_hill 71 = .ok (.dup, 1) := by decide +kernel
theorem dX11_hill_72 : decode cX11_hill 72 = .ok (.getfield 27, 3) := by decide +kernel
theorem dX11_hill_75 : decode cX11_hill 75 = .ok (.iconst 1, 1) := by decide +kernel
theorem dX11_hill_76 : decode cX11_hill 76 = .ok (.iadd, 1) := by decide +kernel
theorem dX11_hill_77 : decode cX11_hill 77 = .ok (.putfield 27, 3) := by decide +kernel
theorem dX11_hill_80 : decode cX11_hill 80 = .ok (.aload_n 0, 1) := by decide +kernel
theorem dX11_hill_81 : decode cX11_hill 81 = .ok (.getfield 51, 3) := by decide +kernel
theorem dX11_hill_84 : decode cX11_hill 84 = .ok (.invokevirtual 133, 3) := by decide +kernel
theorem dX11_hill_87 : decode cX11_hill 87 = .ok (.aload_n 0, 1) := by decide +kernel
theorem dX11_hill_88 : decode cX11_hill 88 = .ok (.getfield 33, 3) := by decide +kernel
theorem dX11_hill_91 : decode cX11_hill 91 = .ok (.aload_n 0, 1) := by decide +kernel
theorem dX11_hill_92 : decode cX11_hill 92 = .ok (.getfield 51, 3) := by decide +kernel
theorem dX11_hill_95 : decode cX11_hill 95 = .ok (.invokevirtual 120, 3) := by decide +kernel
theorem dX11_hill_98 : decode cX11_hill 98 = .ok (.aload_n 0, 1) := by decide +kernel
theorem dX11_hill_99 : decode cX11_hill 99 = .ok (.getfield 88, 3) := by decide +kernel
theorem dX11_hill_102 : decode cX11_hill 102 = .ok (.invokevirtual 136, 3) := by decide +kernel
theorem dX11_hill_105 : decode cX11_hill 105 = .ok (.aload_n 0, 1) := by decide +kernel
theorem dX11_hill_106 : decode cX11_hill 106 = .ok (.getfield 27, 3) := by decide +kernel
theorem dX11_hill_109 : decode cX11_hill 109 = .ok (.ireturn, 1) := by decide +kernel
set_option maxRecDepth 20000 in
theorem ggX11_law_X11_useTapeUp : GoodIn wsX11_law wsX11_useTapeUp := goodIn_r _ [15, 16, 266, 267, 268, 269, 270, 271, 272, 273, 274, 275, 276, 277, 278, 279, 280, 281, 282, 283, 284, 285] (by decide +kernel) (by decide +kernel)
set_option maxRecDepth 20000 in
theorem gX11_law_X11_useTapeUp : GoodIn wsX11_law (wsV RX11 112 RX11 yX11_useTapeUp wsX11_useTapeUp) := goodIn_app (goodIn_of _ (by decide +kernel)) ggX11_law_X11_useTapeUp
set_option maxRecDepth 20000 in
theorem ggX11_law_X10_split : GoodIn wsX11_law wsX10_split := goodIn_r _ [21, 22, 23, 24, 20, 25, 26, 27, 28, 29, 30, 31, 32, 33, 34, 35, 36, 37, 38, 39, 40, 41, 42, 43, 44, 45, 46, 47, 48, 49, 50, 51, 52, 53, 54, 55, 56, 57, 58, 59, 60, 61, 62, 63, 64, 65, 66, 67, 68, 69, 70, 71, 72, 73, 74, 75, 76, 77, 78, 79, 80, 81, 82, 83, 84, 85, 86, 87, 88, 89, 90, 91, 92, 93, 94, 95, 96, 293, 294, 295, 296] (by decide +kernel) (by decide +kernel)
set_option maxRecDepth 20000 in
theorem gX11_law_X10_split : GoodIn wsX11_law (wsV RX11 116 RX10 yX10_split wsX10_split) := goodIn_app (goodIn_of _ (by decide +kernel)) ggX11_law_X10_split
set_option maxRecDepth 20000 in
theorem ggX11_law_X5_clear : GoodIn wsX11_law wsX5_clear := goodIn_r _ [101, 102, 103, 286, 287, 288, 289, 290, 291, 292] (by decide +kernel) (by decide +kernel)
set_option maxRecDepth 20000 in
theorem gX11_law_X5_clear : GoodIn wsX11_law (wsV RX11 139 RX5 yX5_clear wsX5_clear) := goodIn_app (goodIn_of _ (by decide +kernel)) ggX11_law_X5_clear
set_option maxRecDepth 20000 in
theorem ggX11_law_X9_read : GoodIn wsX11_law wsX9_read := goodIn_r _ [109, 110, 111, 112, 113, 114, 115, 20, 116, 22, 85, 117, 118, 119, 120, 121, 122, 123, 124, 125, 126, 127, 128, 129, 130, 131, 132, 133, 134, 135, 136, 137, 108, 138, 139, 140, 141, 142, 86, 143, 144, 145, 146, 147, 148, 149, 150, 151, 152, 153, 154, 155, 156, 157, 158, 159, 160, 161, 162, 163, 164, 165, 166, 167, 168, 169, 170, 171, 172, 173, 174, 175, 176, 177, 178, 179, 180, 181, 182, 183, 184, 185, 186, 187, 188, 189, 190, 191, 192, 193, 194, 195, 196, 197, 198, 199, 200, 201, 202, 203, 204, 205, 206, 207, 208, 209, 210, 211, 212, 213, 214, 215, 216, 217, 218, 219, 220, 100, 221, 103, 222, 223, 224, 225, 226, 227, 228, 229, 230, 231, 232, 233, 234, 235, 236, 237, 238, 239, 240, 102, 241, 242, 243, 244, 245, 246, 247, 87, 248, 249, 250, 251, 297, 298, 299, 300, 301, 302, 303, 304, 293, 294, 295, 296, 305, 306, 307, 308, 309, 310, 311, 312, 313, 314, 315, 316, 317, 318, 319, 320, 321, 322, 323, 324, 286, 287, 288, 289, 290, 291, 292] (by decide +kernel) (by decide +kernel)
set_option maxRecDepth 20000 in
theorem gX11_law_X9_read_u142X6 : GoodIn wsX11_law (va_wsU RX11 142 RX6 "SeeSawHill$TextReader" ⟨"SeeSawHill$LawReader", "read", "()I"⟩ yX9_read wsX9_read) := goodIn_app (goodIn_of _ (by decide +kernel)) ggX11_law_X9_read
set_option maxRecDepth 20000 in
theorem ggX11_law_X5_copyFrom : GoodIn wsX11_law wsX5_copyFrom := goodIn_r _ [255, 102, 103, 241, 256, 257, 258, 259, 242, 243, 222, 286, 287, 288, 289, 290, 291, 292] (by decide +kernel) (by decide +kernel)
set_option maxRecDepth 20000 in
theorem gX11_law_X5_copyFrom : GoodIn wsX11_law (wsV RX11 143 RX5 yX5_copyFrom wsX5_copyFrom) := goodIn_app (goodIn_of _ (by decide +kernel)) ggX11_law_X5_copyFrom
set_option maxRecDepth 20000 in
theorem ggX11_law_X8_forget : GoodIn wsX11_law wsX8_forget := goodIn_r _ [264, 265, 325, 326, 327, 328] (by decide +kernel) (by decide +kernel)
set_option maxRecDepth 20000 in
theorem gX11_law_X8_forget : GoodIn wsX11_law (wsV RX11 136 RX8 yX8_forget wsX8_forget) := goodIn_app (goodIn_of _ (by decide +kernel)) ggX11_law_X8_forget
theorem dX11_law_0 : decode cX11_law 0 = .ok (.aload_n 0, 1) := by decide +kernel
theorem dX11_law_1 : decode cX11_law 1 = .ok (.getfield 23, 3) := by decide +kernel
theorem dX11_law_4 : decode cX11_law 4 = .ok (.aload_n 0, 1) := by decide +kernel
theorem dX11_law_5 : decode cX11_law 5 = .ok (.getfield 9, 3) := by decide +kernel
theorem dX11_law_8 : decode cX11_law 8 = .ok (.aload_n 0, 1) := by decide +kernel
theorem dX11_law_9 : decode cX11_law 9 = .ok (.invokevirtual 112, 3) := by decide +kernel
theorem dX11_law_12 : decode cX11_law 12 = .ok (.invokevirtual 116, 3) := by decide +kernel
theorem dX11_law_15 : decode cX11_law 15 = .ok (.aload_n 0, 1) := by decide +kernel
theorem dX11_law_16 : decode cX11_law 16 = .ok (.getfield 54, 3) := by decide +kernel
theorem dX11_law_19 : decode cX11_law 19 = .ok (.invokevirtual 139, 3) := by decide +kernel
theorem dX11_law_22 : decode cX11_law 22 = .ok (.aload_n 0, 1) := by decide +kernel
theorem dX11_law_23 : decode cX11_law 23 = .ok (.aload_n 0, 1) := by decide +kernel
theorem dX11_law_24 : decode cX11_law 24 = .ok (.getfield 74, 3) := by decide +kernel
theorem dX11_law_27 : decode cX11_law 27 = .ok (.invokevirtual 142, 3) := by decide +kernel
theorem dX11_law_30 : decode cX11_law 30 = .ok (.putfield 17, 3) := by decide +kernel
theorem dX11_law_33 : decode cX11_law 33 = .ok (.aload_n 0, 1) := by decide +kernel
theorem dX11_law_34 : decode cX11_law 34 = .ok (.getfield 17, 3) := by decide +kernel
theorem dX11_law_37 : decode cX11_law 37 = .ok (.iconst (-1), 1) := by decide +kernel
theorem dX11_law_38 : decode cX11_law 38 = .ok (.if_icmp .eq 11, 3) := by decide +kernel
theorem dX11_law_41 : decode cX11_law 41 = .ok (.new 127, 3) := by decide +kernel
theorem dX11_law_44 : decode cX11_law 44 = .ok (.dup, 1) := by decide +kernel
theorem dX11_law_45 : decode cX11_law 45 = .ok (.invokespecial 129, 3) := by decide +kernel
theorem dX11_law_48 : decode cX11_law 48 = .ok (.athrow, 1) := by decide +kernel
theorem dX11_law_49 : decode cX11_law 49 = .ok (.aload_n 0, 1) := by decide +kernel
theorem dX11_law_50 : decode cX11_law 50 = .ok (.getfield 40, 3) := by decide +kernel
theorem dX11_law_53 : decode cX11_law 53 = .ok (.aload_n 0, 1) := by decide +kernel
theorem dX11_law_54 : decode cX11_law 54 = .ok (.getfield 54, 3) := by decide +kernel
theorem dX11_law_57 : decode cX11_law 57 = .ok (.invokevirtual 143, 3) := by decide +kernel
theorem dX11_law_60 : decode cX11_law 60 = .ok (.aload_n 0, 1) := by decide +kernel
theorem dX11_law_61 : decode cX11_law 61 = .ok (.getfield 88, 3) := by decide +kernel
theorem dX11_law_64 : decode cX11_law 64 = .ok (.invokevirtual 136, 3) := by decide +kernel
theorem dX11_law_67 : decode cX11_law 67 = .ok (.aload_n 0, 1) := by decide +kernel
theorem dX11_law_68 : decode cX11_law 68 = .ok (.getfield 40, 3) := by decide +kernel
theorem dX11_law_71 : decode cX11_law 71 = .ok (.getfield 146, 3) := by decide +kernel
theorem dX11_law_74 : decode cX11_law 74 = .ok (.ireturn, 1) := by decide +kernel
theorem dX11_fault_0 : decode cX11_fault 0 = .ok (.aload_n 0, 1) := by decide +kernel
theorem dX11_fault_1 : decode cX11_fault 1 = .ok (.getfield 17, 3) := by decide +kernel
theorem dX11_fault_4 : decode cX11_fault 4 = .ok (.ireturn, 1) := by decide +kernel
theorem dX11_checkPlank_0 : decode cX11_checkPlank 0 = .ok (.iload_n 1, 1) := by decide +kernel
theorem dX11_checkPlank_1 : decode cX11_checkPlank 1 = .ok (.ifCond .lt 14, 3) := by decide +kernel
theorem dX11_checkPlank_4 : decode cX11_checkPlank 4 = .ok (.iload_n 1, 1) := by decide +kernel
theorem dX11_checkPlank_5 : decode cX11_checkPlank 5 = .ok (.aload_n 0, 1) := by decide +kernel
theorem dX11_checkPlank_6 : decode cX11_checkPlank 6 = .ok (.getfield 33, 3) := by decide +kernel
theorem dX11_checkPlank_9 : decode cX11_checkPlank 9 = .ok (.getfield 149, 3) := by decide +kernel
theorem dX11_checkPlank_12 : decode cX11_checkPlank 12 = .ok (.if_icmp .lt 11, 3) := by decide +kernel
theorem dX11_checkPlank_15 : decode cX11_checkPlank 15 = .ok (.new 152, 3) := by decide +kernel
theorem dX11_checkPlank_18 : decode cX11_checkPlank 18 = .ok (.dup, 1) := by decide +kernel
theorem dX11_checkPlank_19 : decode cX11_checkPlank 19 = .ok (.invokespecial 154, 3) := by decide +kernel
theorem dX11_checkPlank_22 : decode cX11_checkPlank 22 = .ok (.athrow, 1) := by decide +kernel
theorem dX11_checkPlank_23 : decode cX11_checkPlank 23 = .ok (.return_, 1) := by decide +kernel
set_option maxRecDepth 20000 in
theorem ggX11_checkHouse_X3_houses : GoodIn wsX11_checkHouse wsX3_houses := goodIn_r _ [8, 9, 30, 31, 32, 33, 34, 35, 36, 37, 38, 39, 40, 41, 42, 43, 44, 45, 46, 47, 48, 49] (by decide +kernel) (by decide +kernel)
set_option maxRecDepth 20000 in
theorem gX11_checkHouse_X3_houses : GoodIn wsX11_checkHouse (wsV RX11 155 RX3 yX3_houses wsX3_houses) := goodIn_app (goodIn_of _ (by decide +kernel)) ggX11_checkHouse_X3_houses
theorem dX11_checkHouse_0 : decode cX11_checkHouse 0 = .ok (.iload_n 1, 1) := by decide +kernel
theorem dX11_checkHouse_1 : decode cX11_checkHouse 1 = .ok (.ifCond .lt 14, 3) := by decide +kernel
theorem dX11_checkHouse_4 : decode cX11_checkHouse 4 = .ok (.iload_n 1, 1) := by decide +kernel
theorem dX11_checkHouse_5 : decode cX11_checkHouse 5 = .ok (.aload_n 0, 1) := by decide +kernel
theorem dX11_checkHouse_6 : decode cX11_checkHouse 6 = .ok (.getfield 33, 3) := by decide +kernel
theorem dX11_checkHouse_9 : decode cX11_checkHouse 9 = .ok (.invokevirtual 155, 3) := by decide +kernel
theorem dX11_checkHouse_12 : decode cX11_checkHouse 12 = .ok (.if_icmp .lt 11, 3) := by decide +kernel
theorem dX11_checkHouse_15 : decode cX11_checkHouse 15 = .ok (.new 152, 3) := by decide +kernel
theorem dX11_checkHouse_18 : decode cX11_checkHouse 18 = .ok (.dup, 1) := by decide +kernel
theorem dX11_checkHouse_19 : decode cX11_checkHouse 19 = .ok (.invokespecial 154, 3) := by decide +kernel
theorem dX11_checkHouse_22 : decode cX11_checkHouse 22 = .ok (.athrow, 1) := by decide +kernel
theorem dX11_checkHouse_23 : decode cX11_checkHouse 23 = .ok (.return_, 1) := by decide +kernel
theorem dX11_checkThing_0 : decode cX11_checkThing 0 = .ok (.iload_n 1, 1) := by decide +kernel
theorem dX11_checkThing_1 : decode cX11_checkThing 1 = .ok (.ifCond .lt 14, 3) := by decide +kernel
theorem dX11_checkThing_4 : decode cX11_checkThing 4 = .ok (.iload_n 1, 1) := by decide +kernel
theorem dX11_checkThing_5 : decode cX11_checkThing 5 = .ok (.aload_n 0, 1) := by decide +kernel
theorem dX11_checkThing_6 : decode cX11_checkThing 6 = .ok (.getfield 33, 3) := by decide +kernel
theorem dX11_checkThing_9 : decode cX11_checkThing 9 = .ok (.getfield 158, 3) := by decide +kernel
theorem dX11_checkThing_12 : decode cX11_checkThing 12 = .ok (.if_icmp .lt 11, 3) := by decide +kernel
theorem dX11_checkThing_15 : decode cX11_checkThing 15 = .ok (.new 152, 3) := by decide +kernel
theorem dX11_checkThing_18 : decode cX11_checkThing 18 = .ok (.dup, 1) := by decide +kernel
theorem dX11_checkThing_19 : decode cX11_checkThing 19 = .ok (.invokespecial 154, 3) := by decide +kernel
theorem dX11_checkThing_22 : decode cX11_checkThing 22 = .ok (.athrow, 1) := by decide +kernel
theorem dX11_checkThing_23 : decode cX11_checkThing 23 = .ok (.return_, 1) := by decide +kernel
theorem dX11_checkNumber_0 : decode cX11_checkNumber 0 = .ok (.iload_n 0, 1) := by decide +kernel
theorem dX11_checkNumber_1 : decode cX11_checkNumber 1 = .ok (.iload_n 1, 1) := by decide +kernel
theorem dX11_checkNumber_2 : decode cX11_checkNumber 2 = .ok (.if_icmp .lt 8, 3) := by decide +kernel
theorem dX11_checkNumber_5 : decode cX11_checkNumber 5 = .ok (.iload_n 0, 1) := by decide +kernel
theorem dX11_checkNumber_6 : decode cX11_checkNumber 6 = .ok (.iload_n 2, 1) := by decide +kernel
theorem dX11_checkNumber_7 : decode cX11_checkNumber 7 = .ok (.if_icmp .le 11, 3) := by decide +kernel
theorem dX11_checkNumber_10 : decode cX11_checkNumber 10 = .ok (.new 127, 3) := by decide +kernel
theorem dX11_checkNumber_13 : decode cX11_checkNumber 13 = .ok (.dup, 1) := by decide +kernel
theorem dX11_checkNumber_14 : decode cX11_checkNumber 14 = .ok (.invokespecial 129, 3) := by decide +kernel
theorem dX11_checkNumber_17 : decode cX11_checkNumber 17 = .ok (.athrow, 1) := by decide +kernel
theorem dX11_checkNumber_18 : decode cX11_checkNumber 18 = .ok (.return_, 1) := by decide +kernel
set_option maxRecDepth 20000 in
theorem ggX11_plank_X11_checkPlank : GoodIn wsX11_plank wsX11_checkPlank := goodIn_ca (goodIn_r _ [13, 14, 15, 3, 16, 73, 74, 75, 76, 77, 78, 79, 80, 81, 82, 83, 84, 85, 86, 87, 88, 89, 90, 91, 92, 93, 94, 95, 96, 97, 98, 99, 100, 101, 102, 103, 104, 105, 106, 107, 108, 109, 110, 111, 112] (by decide +kernel) (by decide +kernel)) (goodIn_sub (fun _ h => List.mem_cons_of_mem _ (List.mem_append_right _ h)) (by decide +kernel))
set_option maxRecDepth 20000 in
theorem gX11_plank_X11_checkPlank : GoodIn wsX11_plank (wsV RX11 161 RX11 yX11_checkPlank wsX11_checkPlank) := goodIn_app (goodIn_of _ (by decide +kernel)) ggX11_plank_X11_checkPlank
set_option maxRecDepth 20000 in
theorem ggX11_plank_X3_tiltOf : GoodIn wsX11_plank wsX3_tiltOf := goodIn_r _ [21, 22, 23, 24, 25, 26, 20, 27, 28, 29, 30, 31, 32, 33, 34, 35, 93, 94, 95, 96, 97, 98, 99, 100, 101, 102, 103, 104, 105, 106, 107, 108, 109, 110, 111, 112] (by decide +kernel) (by decide +kernel)
set_option maxRecDepth 20000 in
theorem gX11_plank_X3_tiltOf : GoodIn wsX11_plank (wsV RX11 178 RX3 yX3_tiltOf wsX3_tiltOf) := goodIn_app (goodIn_of _ (by decide +kernel)) ggX11_plank_X3_tiltOf
set_option maxRecDepth 20000 in
theorem ggX11_plank_X3_isLevel : GoodIn wsX11_plank wsX3_isLevel := goodIn_r _ [39, 40, 93, 94, 95, 96, 97, 98, 99, 100, 101, 102, 103, 104, 105, 106, 107, 108, 109, 110, 111, 112] (by decide +kernel) (by decide +kernel)
set_option maxRecDepth 20000 in
theorem gX11_plank_X3_isLevel : GoodIn wsX11_plank (wsV RX11 182 RX3 yX3_isLevel wsX3_isLevel) := goodIn_app (goodIn_of _ (by decide +kernel)) ggX11_plank_X3_isLevel
set_option maxRecDepth 20000 in
theorem ggX11_plank_X3_agesBy : GoodIn wsX11_plank wsX3_agesBy := goodIn_r _ [44, 45, 46, 47, 48, 49, 50, 51, 52, 53, 54, 55, 56, 57, 58, 59, 60, 61, 62, 63, 64, 65, 66, 67, 68, 20, 69, 40, 23, 70, 71, 72, 113, 114, 115, 116, 117, 118, 119, 93, 94, 95, 96, 97, 98, 99, 100, 101, 102, 103, 104, 105, 106, 107, 108, 109, 110, 111, 112] (by decide +kernel) (by decide +kernel)
set_option maxRecDepth 20000 in
theorem gX11_plank_X3_agesBy : GoodIn wsX11_plank (wsV RX11 186 RX3 yX3_agesBy wsX3_agesBy) := goodIn_app (goodIn_of _ (by decide +kernel)) ggX11_plank_X3_agesBy
theorem dX11_plank_0 : decode cX11_plank 0 = .ok (.aload_n 0, 1) := by decide +kernel
theorem dX11_plank_1 : decode cX11_plank 1 = .ok (.iload_n 1, 1) := by decide +kernel
theorem dX11_plank_2 : decode cX11_plank 2 = .ok (.invokevirtual 161, 3) := by decide +kernel
theorem dX11_plank_5 : decode cX11_plank 5 = .ok (.iload_n 2, 1) := by decide +kernel
theorem dX11_plank_6 : decode cX11_plank 6 = .ok (.tableswitch 139 0 6 #[42, 52, 62, 80, 98, 109, 126], 42) := by decide +kernel
theorem dX11_plank_48 : decode cX11_plank 48 = .ok (.aload_n 0, 1) := by decide +kernel
theorem dX11_plank_49 : decode cX11_plank 49 = .ok (.getfield 33, 3) := by decide +kernel
theorem dX11_plank_52 : decode cX11_plank 52 = .ok (.getfield 164, 3) := by decide +kernel
theorem dX11_plank_55 : decode cX11_plank 55 = .ok (.iload_n 1, 1) := by decide +kernel
theorem dX11_plank_56 : decode cX11_plank 56 = .ok (.iaload, 1) := by decide +kernel
theorem dX11_plank_57 : decode cX11_plank 57 = .ok (.ireturn, 1) := by decide +kernel
theorem dX11_plank_58 : decode cX11_plank 58 = .ok (.aload_n 0, 1) := by decide +kernel
theorem dX11_plank_59 : decode cX11_plank 59 = .ok (.getfield 33, 3) := by decide +kernel
theorem dX11_plank_62 : decode cX11_plank 62 = .ok (.getfield 168, 3) := by decide +kernel
theorem dX11_plank_65 : decode cX11_plank 65 = .ok (.iload_n 1, 1) := by decide +kernel
theorem dX11_plank_66 : decode cX11_plank 66 = .ok (.iaload, 1) := by decide +kernel
theorem dX11_plank_67 : decode cX11_plank 67 = .ok (.ireturn, 1) := by decide +kernel
theorem dX11_plank_68 : decode cX11_plank 68 = .ok (.aload_n 0, 1) := by decide +kernel
theorem dX11_plank_69 : decode cX11_plank 69 = .ok (.getfield 33, 3) := by decide +kernel
theorem dX11_plank_72 : decode cX11_plank 72 = .ok (.getfield 171, 3) := by decide +kernel
theorem dX11_plank_75 : decode cX11_plank 75 = .ok (.iload_n 1, 1) := by decide +kernel
theorem dX11_plank_76 : decode cX11_plank 76 = .ok (.baload, 1) := by decide +kernel
theorem dX11_plank_77 : decode cX11_plank 77 = .ok (.ifCond .eq 7, 3) := by decide +kernel
theorem dX11_plank_80 : decode cX11_plank 80 = .ok (.iconst 1, 1) := by decide +kernel
theorem dX11_plank_81 : decode cX11_plank 81 = .ok (.goto 4, 3) := by decide +kernel
theorem dX11_plank_84 : decode cX11_plank 84 = .ok (.iconst 0, 1) := by decide +kernel
theorem dX11_plank_85 : decode cX11_plank 85 = .ok (.ireturn, 1) := by decide +kernel
theorem dX11_plank_86 : decode cX11_plank 86 = .ok (.aload_n 0, 1) := by decide +kernel
theorem dX11_plank_87 : decode cX11_plank 87 = .ok (.getfield 33, 3) := by decide +kernel
theorem dX11_plank_90 : decode cX11_plank 90 = .ok (.getfield 175, 3) := by decide +kernel
theorem dX11_plank_93 : decode cX11_plank 93 = .ok (.iload_n 1, 1) := by decide +kernel
theorem dX11_plank_94 : decode cX11_plank 94 = .ok (.baload, 1) := by decide +kernel
theorem dX11_plank_95 : decode cX11_plank 95 = .ok (.ifCond .eq 7, 3) := by decide +kernel
theorem dX11_plank_98 : decode cX11_plank 98 = .ok (.iconst 1, 1) := by decide +kernel
theorem dX11_plank_99 : decode cX11_plank 99 = .ok (.goto 4, 3) := by decide +kernel
theorem dX11_plank_102 : decode cX11_plank 102 = .ok (.iconst 0, 1) := by decide +kernel
theorem dX11_plank_103 : decode cX11_plank 103 = .ok (.ireturn, 1) := by decide +kernel
theorem dX11_plank_104 : decode cX11_plank 104 = .ok (.aload_n 0, 1) := by decide +kernel
theorem dX11_plank_105 : decode cX11_plank 105 = .ok (.getfield 33, 3) := by decide +kernel
theorem dX11_plank_108 : decode cX11_plank 108 = .ok (.iload_n 1, 1) := by decide +kernel
theorem dX11_plank_109 : decode cX11_plank 109 = .ok (.invokevirtual 178, 3) := by decide +kernel
theorem dX11_plank_112 : decode cX11_plank 112 = .ok (.iconst 5, 1) := by decide +kernel
theorem dX11_plank_113 : decode cX11_plank 113 = .ok (.iadd, 1) := by decide +kernel
theorem dX11_plank_114 : decode cX11_plank 114 = .ok (.ireturn, 1) := by decide +kernel
theorem dX11_plank_115 : decode cX11_plank 115 = .ok (.aload_n 0, 1) := by decide +kernel
theorem dX11_plank_116 : decode cX11_plank 116 = .ok (.getfield 33, 3) := by decide +kernel
theorem dX11_plank_119 : decode cX11_plank 119 = .ok (.iload_n 1, 1) := by decide +kernel
theorem dX11_plank_120 : decode cX11_plank 120 = .ok (.invokevirtual 182, 3) := by decide +kernel
theorem dX11_plank_123 : decode cX11_plank 123 = .ok (.ifCond .eq 7, 3) := by decide +kernel
theorem dX11_plank_126 : decode cX11_plank 126 = .ok (.iconst 1, 1) := by decide +kernel
theorem dX11_plank_127 : decode cX11_plank 127 = .ok (.goto 4, 3) := by decide +kernel
theorem dX11_plank_130 : decode cX11_plank 130 = .ok (.iconst 0, 1) := by decide +kernel
theorem dX11_plank_131 : decode cX11_plank 131 = .ok (.ireturn, 1) := by decide +kernel
theorem dX11_plank_132 : decode cX11_plank 132 = .ok (.aload_n 0, 1) := by decide +kernel
theorem dX11_plank_133 : decode cX11_plank 133 = .ok (.getfield 33, 3) := by decide +kernel
theorem dX11_plank_136 : decode cX11_plank 136 = .ok (.aload_n 0, 1) := by decide +kernel
theorem dX11_plank_137 : decode cX11_plank 137 = .ok (.getfield 40, 3) := by decide +kernel
theorem dX11_plank_140 : decode cX11_plank 140 = .ok (.iload_n 1, 1) := by decide +kernel
theorem dX11_plank_141 : decode cX11_plank 141 = .ok (.invokevirtual 186, 3) := by decide +kernel
theorem dX11_plank_144 : decode cX11_plank 144 = .ok (.ireturn, 1) := by decide +kernel
theorem dX11_plank_145 : decode cX11_plank 145 = .ok (.new 190, 3) := by decide +kernel
theorem dX11_plank_148 : decode cX11_plank 148 = .ok (.dup, 1) := by decide +kernel
theorem dX11_plank_149 : decode cX11_plank 149 = .ok (.invokespecial 192, 3) := by decide +kernel
theorem dX11_plank_152 : decode cX11_plank 152 = .ok (.athrow, 1) := by decide +kernel
set_option maxRecDepth 20000 in
theorem ggX11_house_X11_checkHouse : GoodIn wsX11_house wsX11_checkHouse := goodIn_ca (goodIn_r _ [13, 14, 15, 3, 16, 17, 18, 19, 20, 21, 96, 97, 98, 99, 100, 101, 102, 103, 104, 105, 106, 107, 108, 109, 110, 111, 112, 113, 114, 115, 116, 117, 118, 119, 120, 121, 122, 123, 124, 125, 126, 127, 128, 129, 130, 131, 132, 133, 134, 135] (by decide +kernel) (by decide +kernel)) (goodIn_sub (fun _ h => List.mem_cons_of_mem _ (List.mem_append_right _ h)) (by decide +kernel))
set_option maxRecDepth 20000 in
theorem gX11_house_X11_checkHouse : GoodIn wsX11_house (wsV RX11 193 RX11 yX11_checkHouse wsX11_checkHouse) := goodIn_app (goodIn_of _ (by decide +kernel)) ggX11_house_X11_checkHouse
set_option maxRecDepth 20000 in
theorem ggX11_house_X3_thingsIn : GoodIn wsX11_house wsX3_thingsIn := goodIn_r _ [25, 26, 27, 116, 117, 118, 119, 120, 121, 122, 123, 124, 125, 126, 127, 128, 129, 130, 131, 132, 133, 134, 135] (by decide +kernel) (by decide +kernel)
set_option maxRecDepth 20000 in
theorem gX11_house_X3_thingsIn : GoodIn wsX11_house (wsV RX11 208 RX3 yX3_thingsIn wsX3_thingsIn) := goodIn_app (goodIn_of _ (by decide +kernel)) ggX11_house_X3_thingsIn
set_option maxRecDepth 20000 in
theorem ggX11_house_X3_paysBy : GoodIn wsX11_house wsX3_paysBy := goodIn_r _ [31, 32, 33, 34, 35, 36, 37, 38, 39, 40, 41, 42, 43, 44, 45, 46, 47, 48, 49, 50, 51, 52, 53, 54, 55, 56, 57, 19, 58, 59, 60, 61, 62, 116, 117, 118, 119, 120, 121, 122, 123, 124, 125, 126, 127, 128, 129, 130, 131, 132, 133, 134, 135, 136, 137, 138, 139, 140, 141, 142] (by decide +kernel) (by decide +kernel)
set_option maxRecDepth 20000 in
theorem gX11_house_X3_paysBy : GoodIn wsX11_house (wsV RX11 211 RX3 yX3_paysBy wsX3_paysBy) := goodIn_app (goodIn_of _ (by decide +kernel)) ggX11_house_X3_paysBy
set_option maxRecDepth 20000 in
theorem ggX11_house_X3_luresBy : GoodIn wsX11_house wsX3_luresBy := goodIn_r _ [66, 34, 35, 36, 37, 38, 39, 40, 41, 42, 43, 44, 45, 46, 47, 48, 49, 50, 51, 52, 53, 54, 55, 56, 57, 19, 58, 33, 59, 60, 61, 62, 67, 68, 69, 70, 26, 27, 71, 136, 137, 138, 139, 140, 141, 142, 116, 117, 118, 119, 120, 121, 122, 123, 124, 125, 126, 127, 128, 129, 130, 131, 132, 133, 134, 135] (by decide +kernel) (by decide +kernel)
set_option maxRecDepth 20000 in
theorem gX11_house_X3_luresBy : GoodIn wsX11_house (wsV RX11 214 RX3 yX3_luresBy wsX3_luresBy) := goodIn_app (goodIn_of _ (by decide +kernel)) ggX11_house_X3_luresBy
set_option maxRecDepth 20000 in
theorem ggX11_house_X3_shareOf : GoodIn wsX11_house wsX3_shareOf := goodIn_r _ [75, 33, 76, 77, 78, 79, 80, 17, 18, 19, 20, 21, 116, 117, 118, 119, 120, 121, 122, 123, 124, 125, 126, 127, 128, 129, 130, 131, 132, 133, 134, 135] (by decide +kernel) (by decide +kernel)
set_option maxRecDepth 20000 in
theorem gX11_house_X3_shareOf : GoodIn wsX11_house (wsV RX11 217 RX3 yX3_shareOf wsX3_shareOf) := goodIn_app (goodIn_of _ (by decide +kernel)) ggX11_house_X3_shareOf
set_option maxRecDepth 20000 in
theorem ggX11_house_X3_corkOf : GoodIn wsX11_house wsX3_corkOf := goodIn_r _ [84, 85, 86, 87, 59, 88, 89, 90, 19, 91, 92, 93, 94, 78, 95, 76, 77, 79, 116, 117, 118, 119, 120, 121, 122, 123, 124, 125, 126, 127, 128, 129, 130, 131, 132, 133, 134, 135] (by decide +kernel) (by decide +kernel)
set_option maxRecDepth 20000 in
theorem gX11_house_X3_corkOf : GoodIn wsX11_house (wsV RX11 220 RX3 yX3_corkOf wsX3_corkOf) := goodIn_app (goodIn_of _ (by decide +kernel)) ggX11_house_X3_corkOf
theorem dX11_house_0 : decode cX11_house 0 = .ok (.aload_n 0, 1) := by decide +kernel
theorem dX11_house_1 : decode cX11_house 1 = .ok (.iload_n 1, 1) := by decide +kernel
theorem dX11_house_2 : decode cX11_house 2 = .ok (.invokevirtual 193, 3) := by decide +kernel
theorem dX11_house_5 : decode cX11_house 5 = .ok (.iload_n 2, 1) := by decide +kernel
theorem dX11_house_6 : decode cX11_house 6 = .ok (.tableswitch 143 0 8 #[50, 60, 70, 80, 90, 99, 112, 125, 134], 50) := by decide +kernel
theorem dX11_house_56 : decode cX11_house 56 = .ok (.aload_n 0, 1) := by decide +kernel
theorem dX11_house_57 : decode cX11_house 57 = .ok (.getfield 33, 3) := by decide +kernel
theorem dX11_house_60 : decode cX11_house 60 = .ok (.getfield 196, 3) := by decide +kernel
theorem dX11_house_63 : decode cX11_house 63 = .ok (.iload_n 1, 1) := by decide +kernel
theorem dX11_house_64 : decode cX11_house 64 = .ok (.iaload, 1) := by decide +kernel
theorem dX11_house_65 : decode cX11_house 65 = .ok (.ireturn, 1) := by decide +kernel
theorem dX11_house_66 : decode cX11_house 66 = .ok (.aload_n 0, 1) := by decide +kernel
theorem dX11_house_67 : decode cX11_house 67 = .ok (.getfield 33, 3) := by decide +kernel
theorem dX11_house_70 : decode cX11_house 70 = .ok (.getfield 199, 3) := by decide +kernel
theorem dX11_house_73 : decode cX11_house 73 = .ok (.iload_n 1, 1) := by decide +kernel
theorem dX11_house_74 : decode cX11_house 74 = .ok (.iaload, 1) := by decide +kernel
theorem dX11_house_75 : decode cX11_house 75 = .ok (.ireturn, 1) := by decide +kernel
theorem dX11_house_76 : decode cX11_house 76 = .ok (.aload_n 0, 1) := by decide +kernel
theorem dX11_house_77 : decode cX11_house 77 = .ok (.getfield 33, 3) := by decide +kernel
theorem dX11_house_80 : decode cX11_house 80 = .ok (.getfield 202, 3) := by decide +kernel
theorem dX11_house_83 : decode cX11_house 83 = .ok (.iload_n 1, 1) := by decide +kernel
theorem dX11_house_84 : decode cX11_house 84 = .ok (.iaload, 1) := by decide +kernel
theorem dX11_house_85 : decode cX11_house 85 = .ok (.ireturn, 1) := by decide +kernel
theorem dX11_house_86 : decode cX11_house 86 = .ok (.aload_n 0, 1) := by decide +kernel
theorem dX11_house_87 : decode cX11_house 87 = .ok (.getfield 33, 3) := by decide +kernel
theorem dX11_house_90 : decode cX11_house 90 = .ok (.getfield 205, 3) := by decide +kernel
theorem dX11_house_93 : decode cX11_house 93 = .ok (.iload_n 1, 1) := by decide +kernel
theorem dX11_house_94 : decode cX11_house 94 = .ok (.iaload, 1) := by decide +kernel
