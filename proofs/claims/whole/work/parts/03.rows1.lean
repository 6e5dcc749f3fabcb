theorem dX7_becomeProduct_58 : decode cX7_becomeProduct 58 = .ok (.iload 6, 2) := by decide +kernel
theorem dX7_becomeProduct_60 : decode cX7_becomeProduct 60 = .ok (.invokevirtual 43, 3) := by decide +kernel
theorem dX7_becomeProduct_63 : decode cX7_becomeProduct 63 = .ok (.iload 4, 2) := by decide +kernel
theorem dX7_becomeProduct_65 : decode cX7_becomeProduct 65 = .ok (.iload_n 3, 1) := by decide +kernel
theorem dX7_becomeProduct_66 : decode cX7_becomeProduct 66 = .ok (.imul, 1) := by decide +kernel
theorem dX7_becomeProduct_67 : decode cX7_becomeProduct 67 = .ok (.iload 5, 2) := by decide +kernel
theorem dX7_becomeProduct_69 : decode cX7_becomeProduct 69 = .ok (.iload_n 3, 1) := by decide +kernel
theorem dX7_becomeProduct_70 : decode cX7_becomeProduct 70 = .ok (.imul, 1) := by decide +kernel
theorem dX7_becomeProduct_71 : decode cX7_becomeProduct 71 = .ok (.iload 6, 2) := by decide +kernel
theorem dX7_becomeProduct_73 : decode cX7_becomeProduct 73 = .ok (.iload_n 3, 1) := by decide +kernel
theorem dX7_becomeProduct_74 : decode cX7_becomeProduct 74 = .ok (.imul, 1) := by decide +kernel
theorem dX7_becomeProduct_75 : decode cX7_becomeProduct 75 = .ok (.invokevirtual 46, 3) := by decide +kernel
theorem dX7_becomeProduct_78 : decode cX7_becomeProduct 78 = .ok (.ifCond .ne 5, 3) := by decide +kernel
theorem dX7_becomeProduct_81 : decode cX7_becomeProduct 81 = .ok (.iconst 0, 1) := by decide +kernel
theorem dX7_becomeProduct_82 : decode cX7_becomeProduct 82 = .ok (.ireturn, 1) := by decide +kernel
theorem dX7_becomeProduct_83 : decode cX7_becomeProduct 83 = .ok (.iinc 6 1, 3) := by decide +kernel
theorem dX7_becomeProduct_86 : decode cX7_becomeProduct 86 = .ok (.goto (-44), 3) := by decide +kernel
theorem dX7_becomeProduct_89 : decode cX7_becomeProduct 89 = .ok (.iinc 5 1, 3) := by decide +kernel
theorem dX7_becomeProduct_92 : decode cX7_becomeProduct 92 = .ok (.goto (-62), 3) := by decide +kernel
theorem dX7_becomeProduct_95 : decode cX7_becomeProduct 95 = .ok (.iinc 4 1, 3) := by decide +kernel
theorem dX7_becomeProduct_98 : decode cX7_becomeProduct 98 = .ok (.goto (-80), 3) := by decide +kernel
theorem dX7_becomeProduct_101 : decode cX7_becomeProduct 101 = .ok (.iconst 1, 1) := by decide +kernel
theorem dX7_becomeProduct_102 : decode cX7_becomeProduct 102 = .ok (.ireturn, 1) := by decide +kernel
set_option maxRecDepth 20000 in
theorem ggX7_placeBlock_X7_number : GoodIn wsX7_placeBlock wsX7_number := goodIn_r _ [6, 7, 8, 9, 5, 10, 15, 16] (by decide +kernel) (by decide +kernel)
set_option maxRecDepth 20000 in
theorem gX7_placeBlock_X7_number : GoodIn wsX7_placeBlock (wsV RX7 43 RX7 yX7_number wsX7_number) := goodIn_app (goodIn_of _ (by decide +kernel)) ggX7_placeBlock_X7_number
set_option maxRecDepth 20000 in
theorem ggX7_placeBlock_X7_setNumber : GoodIn wsX7_placeBlock wsX7_setNumber := goodIn_r _ [14, 7, 8, 9, 5, 10, 15, 16] (by decide +kernel) (by decide +kernel)
set_option maxRecDepth 20000 in
theorem gX7_placeBlock_X7_setNumber : GoodIn wsX7_placeBlock (wsV RX7 33 RX7 yX7_setNumber wsX7_setNumber) := goodIn_app (goodIn_of _ (by decide +kernel)) ggX7_placeBlock_X7_setNumber
theorem dX7_placeBlock_0 : decode cX7_placeBlock 0 = .ok (.iconst 0, 1) := by decide +kernel
theorem dX7_placeBlock_1 : decode cX7_placeBlock 1 = .ok (.istore 6, 2) := by decide +kernel
theorem dX7_placeBlock_3 : decode cX7_placeBlock 3 = .ok (.iload 6, 2) := by decide +kernel
theorem dX7_placeBlock_5 : decode cX7_placeBlock 5 = .ok (.aload_n 1, 1) := by decide +kernel
theorem dX7_placeBlock_6 : decode cX7_placeBlock 6 = .ok (.getfield 19, 3) := by decide +kernel
theorem dX7_placeBlock_9 : decode cX7_placeBlock 9 = .ok (.if_icmp .ge 88, 3) := by decide +kernel
theorem dX7_placeBlock_12 : decode cX7_placeBlock 12 = .ok (.iconst 0, 1) := by decide +kernel
theorem dX7_placeBlock_13 : decode cX7_placeBlock 13 = .ok (.istore 7, 2) := by decide +kernel
theorem dX7_placeBlock_15 : decode cX7_placeBlock 15 = .ok (.iload 7, 2) := by decide +kernel
theorem dX7_placeBlock_17 : decode cX7_placeBlock 17 = .ok (.aload_n 1, 1) := by decide +kernel
theorem dX7_placeBlock_18 : decode cX7_placeBlock 18 = .ok (.getfield 19, 3) := by decide +kernel
theorem dX7_placeBlock_21 : decode cX7_placeBlock 21 = .ok (.if_icmp .ge 70, 3) := by decide +kernel
theorem dX7_placeBlock_24 : decode cX7_placeBlock 24 = .ok (.iconst 0, 1) := by decide +kernel
theorem dX7_placeBlock_25 : decode cX7_placeBlock 25 = .ok (.istore 8, 2) := by decide +kernel
theorem dX7_placeBlock_27 : decode cX7_placeBlock 27 = .ok (.iload 8, 2) := by decide +kernel
theorem dX7_placeBlock_29 : decode cX7_placeBlock 29 = .ok (.aload_n 1, 1) := by decide +kernel
theorem dX7_placeBlock_30 : decode cX7_placeBlock 30 = .ok (.getfield 19, 3) := by decide +kernel
theorem dX7_placeBlock_33 : decode cX7_placeBlock 33 = .ok (.if_icmp .ge 52, 3) := by decide +kernel
theorem dX7_placeBlock_36 : decode cX7_placeBlock 36 = .ok (.iload_n 2, 1) := by decide +kernel
theorem dX7_placeBlock_37 : decode cX7_placeBlock 37 = .ok (.aload_n 1, 1) := by decide +kernel
theorem dX7_placeBlock_38 : decode cX7_placeBlock 38 = .ok (.iload 6, 2) := by decide +kernel
theorem dX7_placeBlock_40 : decode cX7_placeBlock 40 = .ok (.iload 7, 2) := by decide +kernel
theorem dX7_placeBlock_42 : decode cX7_placeBlock 42 = .ok (.iload 8, 2) := by decide +kernel
theorem dX7_placeBlock_44 : decode cX7_placeBlock 44 = .ok (.invokevirtual 43, 3) := by decide +kernel
theorem dX7_placeBlock_47 : decode cX7_placeBlock 47 = .ok (.imul, 1) := by decide +kernel
theorem dX7_placeBlock_48 : decode cX7_placeBlock 48 = .ok (.istore 9, 2) := by decide +kernel
theorem dX7_placeBlock_50 : decode cX7_placeBlock 50 = .ok (.iload 9, 2) := by decide +kernel
theorem dX7_placeBlock_52 : decode cX7_placeBlock 52 = .ok (.bipush 9, 2) := by decide +kernel
theorem dX7_placeBlock_54 : decode cX7_placeBlock 54 = .ok (.if_icmp .le 5, 3) := by decide +kernel
theorem dX7_placeBlock_57 : decode cX7_placeBlock 57 = .ok (.iconst 0, 1) := by decide +kernel
theorem dX7_placeBlock_58 : decode cX7_placeBlock 58 = .ok (.ireturn, 1) := by decide +kernel
theorem dX7_placeBlock_59 : decode cX7_placeBlock 59 = .ok (.aload_n 0, 1) := by decide +kernel
theorem dX7_placeBlock_60 : decode cX7_placeBlock 60 = .ok (.iload_n 3, 1) := by decide +kernel
theorem dX7_placeBlock_61 : decode cX7_placeBlock 61 = .ok (.iload 6, 2) := by decide +kernel
theorem dX7_placeBlock_63 : decode cX7_placeBlock 63 = .ok (.iadd, 1) := by decide +kernel
theorem dX7_placeBlock_64 : decode cX7_placeBlock 64 = .ok (.iload 4, 2) := by decide +kernel
theorem dX7_placeBlock_66 : decode cX7_placeBlock 66 = .ok (.iload 7, 2) := by decide +kernel
theorem dX7_placeBlock_68 : decode cX7_placeBlock 68 = .ok (.iadd, 1) := by decide +kernel
theorem dX7_placeBlock_69 : decode cX7_placeBlock 69 = .ok (.iload 5, 2) := by decide +kernel
theorem dX7_placeBlock_71 : decode cX7_placeBlock 71 = .ok (.iload 8, 2) := by decide +kernel
theorem dX7_placeBlock_73 : decode cX7_placeBlock 73 = .ok (.iadd, 1) := by decide +kernel
theorem dX7_placeBlock_74 : decode cX7_placeBlock 74 = .ok (.iload 9, 2) := by decide +kernel
theorem dX7_placeBlock_76 : decode cX7_placeBlock 76 = .ok (.invokevirtual 33, 3) := by decide +kernel
theorem dX7_placeBlock_79 : decode cX7_placeBlock 79 = .ok (.iinc 8 1, 3) := by decide +kernel
theorem dX7_placeBlock_82 : decode cX7_placeBlock 82 = .ok (.goto (-55), 3) := by decide +kernel
theorem dX7_placeBlock_85 : decode cX7_placeBlock 85 = .ok (.iinc 7 1, 3) := by decide +kernel
theorem dX7_placeBlock_88 : decode cX7_placeBlock 88 = .ok (.goto (-73), 3) := by decide +kernel
theorem dX7_placeBlock_91 : decode cX7_placeBlock 91 = .ok (.iinc 6 1, 3) := by decide +kernel
theorem dX7_placeBlock_94 : decode cX7_placeBlock 94 = .ok (.goto (-91), 3) := by decide +kernel
theorem dX7_placeBlock_97 : decode cX7_placeBlock 97 = .ok (.iconst 1, 1) := by decide +kernel
theorem dX7_placeBlock_98 : decode cX7_placeBlock 98 = .ok (.ireturn, 1) := by decide +kernel
set_option maxRecDepth 20000 in
theorem ggX7_mixInto_X7_number : GoodIn wsX7_mixInto wsX7_number := goodIn_r _ [7, 8, 9, 10, 6, 11, 12, 13] (by decide +kernel) (by decide +kernel)
set_option maxRecDepth 20000 in
theorem gX7_mixInto_X7_number : GoodIn wsX7_mixInto (wsV RX7 43 RX7 yX7_number wsX7_number) := goodIn_app (goodIn_of _ (by decide +kernel)) ggX7_mixInto_X7_number
theorem dX7_mixInto_0 : decode cX7_mixInto 0 = .ok (.ldc2_w 50, 3) := by decide +kernel
theorem dX7_mixInto_3 : decode cX7_mixInto 3 = .ok (.lload_n 1, 1) := by decide +kernel
theorem dX7_mixInto_4 : decode cX7_mixInto 4 = .ok (.lmul, 1) := by decide +kernel
theorem dX7_mixInto_5 : decode cX7_mixInto 5 = .ok (.aload_n 0, 1) := by decide +kernel
theorem dX7_mixInto_6 : decode cX7_mixInto 6 = .ok (.getfield 19, 3) := by decide +kernel
theorem dX7_mixInto_9 : decode cX7_mixInto 9 = .ok (.i2l, 1) := by decide +kernel
theorem dX7_mixInto_10 : decode cX7_mixInto 10 = .ok (.ladd, 1) := by decide +kernel
theorem dX7_mixInto_11 : decode cX7_mixInto 11 = .ok (.lstore_n 3, 1) := by decide +kernel
theorem dX7_mixInto_12 : decode cX7_mixInto 12 = .ok (.iconst 0, 1) := by decide +kernel
theorem dX7_mixInto_13 : decode cX7_mixInto 13 = .ok (.istore 5, 2) := by decide +kernel
theorem dX7_mixInto_15 : decode cX7_mixInto 15 = .ok (.iload 5, 2) := by decide +kernel
theorem dX7_mixInto_17 : decode cX7_mixInto 17 = .ok (.aload_n 0, 1) := by decide +kernel
theorem dX7_mixInto_18 : decode cX7_mixInto 18 = .ok (.getfield 19, 3) := by decide +kernel
theorem dX7_mixInto_21 : decode cX7_mixInto 21 = .ok (.if_icmp .ge 63, 3) := by decide +kernel
theorem dX7_mixInto_24 : decode cX7_mixInto 24 = .ok (.iconst 0, 1) := by decide +kernel
theorem dX7_mixInto_25 : decode cX7_mixInto 25 = .ok (.istore 6, 2) := by decide +kernel
theorem dX7_mixInto_27 : decode cX7_mixInto 27 = .ok (.iload 6, 2) := by decide +kernel
theorem dX7_mixInto_29 : decode cX7_mixInto 29 = .ok (.aload_n 0, 1) := by decide +kernel
theorem dX7_mixInto_30 : decode cX7_mixInto 30 = .ok (.getfield 19, 3) := by decide +kernel
theorem dX7_mixInto_33 : decode cX7_mixInto 33 = .ok (.if_icmp .ge 45, 3) := by decide +kernel
theorem dX7_mixInto_36 : decode cX7_mixInto 36 = .ok (.iconst 0, 1) := by decide +kernel
theorem dX7_mixInto_37 : decode cX7_mixInto 37 = .ok (.istore 7, 2) := by decide +kernel
theorem dX7_mixInto_39 : decode cX7_mixInto 39 = .ok (.iload 7, 2) := by decide +kernel
theorem dX7_mixInto_41 : decode cX7_mixInto 41 = .ok (.aload_n 0, 1) := by decide +kernel
theorem dX7_mixInto_42 : decode cX7_mixInto 42 = .ok (.getfield 19, 3) := by decide +kernel
theorem dX7_mixInto_45 : decode cX7_mixInto 45 = .ok (.if_icmp .ge 27, 3) := by decide +kernel
theorem dX7_mixInto_48 : decode cX7_mixInto 48 = .ok (.ldc2_w 50, 3) := by decide +kernel
theorem dX7_mixInto_51 : decode cX7_mixInto 51 = .ok (.lload_n 3, 1) := by decide +kernel
theorem dX7_mixInto_52 : decode cX7_mixInto 52 = .ok (.lmul, 1) := by decide +kernel
theorem dX7_mixInto_53 : decode cX7_mixInto 53 = .ok (.aload_n 0, 1) := by decide +kernel
theorem dX7_mixInto_54 : decode cX7_mixInto 54 = .ok (.iload 5, 2) := by decide +kernel
theorem dX7_mixInto_56 : decode cX7_mixInto 56 = .ok (.iload 6, 2) := by decide +kernel
theorem dX7_mixInto_58 : decode cX7_mixInto 58 = .ok (.iload 7, 2) := by decide +kernel
theorem dX7_mixInto_60 : decode cX7_mixInto 60 = .ok (.invokevirtual 43, 3) := by decide +kernel
theorem dX7_mixInto_63 : decode cX7_mixInto 63 = .ok (.i2l, 1) := by decide +kernel
theorem dX7_mixInto_64 : decode cX7_mixInto 64 = .ok (.ladd, 1) := by decide +kernel
theorem dX7_mixInto_65 : decode cX7_mixInto 65 = .ok (.lstore_n 3, 1) := by decide +kernel
theorem dX7_mixInto_66 : decode cX7_mixInto 66 = .ok (.iinc 7 1, 3) := by decide +kernel
theorem dX7_mixInto_69 : decode cX7_mixInto 69 = .ok (.goto (-30), 3) := by decide +kernel
theorem dX7_mixInto_72 : decode cX7_mixInto 72 = .ok (.iinc 6 1, 3) := by decide +kernel
theorem dX7_mixInto_75 : decode cX7_mixInto 75 = .ok (.goto (-48), 3) := by decide +kernel
theorem dX7_mixInto_78 : decode cX7_mixInto 78 = .ok (.iinc 5 1, 3) := by decide +kernel
theorem dX7_mixInto_81 : decode cX7_mixInto 81 = .ok (.goto (-66), 3) := by decide +kernel
theorem dX7_mixInto_84 : decode cX7_mixInto 84 = .ok (.lload_n 3, 1) := by decide +kernel
theorem dX7_mixInto_85 : decode cX7_mixInto 85 = .ok (.lreturn, 1) := by decide +kernel
set_option maxRecDepth 20000 in
theorem ggX8_init_X7_init : GoodIn wsX8_init wsX7_init := goodIn_r _ [37, 38, 2, 3, 33, 39, 40, 41, 42, 7, 43, 44, 45, 46, 47, 48, 49, 50, 51, 52, 53, 54, 55, 101, 102] (by decide +kernel) (by decide +kernel)
set_option maxRecDepth 20000 in
theorem gX8_init_X7_init : GoodIn wsX8_init (wsX7_init) := ggX8_init_X7_init
set_option maxRecDepth 20000 in
theorem ggX8_init_X1_init : GoodIn wsX8_init wsX1_init := goodIn_r _ [57, 58, 2, 3, 33, 59, 60, 103, 104, 105] (by decide +kernel) (by decide +kernel)
set_option maxRecDepth 20000 in
theorem gX8_init_X1_init_n22 : GoodIn wsX8_init (wsX1_init) := ggX8_init_X1_init
set_option maxRecDepth 20000 in
theorem ggX8_init_X6_init : GoodIn wsX8_init wsX6_init := goodIn_r _ [62, 63, 2, 3, 64, 65, 66, 106, 107] (by decide +kernel) (by decide +kernel)
set_option maxRecDepth 20000 in
theorem gX8_init_X6_init_n29 : GoodIn wsX8_init (wsX6_init) := ggX8_init_X6_init
set_option maxRecDepth 20000 in
theorem ggX8_init_X2_init : GoodIn wsX8_init wsX2_init := goodIn_r _ [68, 69, 2, 3, 33, 70, 71, 72, 73, 6, 7, 74, 75, 10, 11, 76, 77, 36, 37, 38, 39, 40, 41, 42, 43, 44, 45, 46, 47, 48, 49, 50, 51, 52, 53, 54, 55, 56, 57, 58, 59, 60, 108, 109, 110, 111, 112, 113, 114, 115, 116, 117, 101, 102, 103, 104, 105] (by decide +kernel) (by decide +kernel)
set_option maxRecDepth 20000 in
theorem gX8_init_X2_init_n36 : GoodIn wsX8_init (wsX2_init) := ggX8_init_X2_init
set_option maxRecDepth 20000 in
theorem ggX8_init_X3_init : GoodIn wsX8_init wsX3_init := goodIn_r _ [79, 80, 2, 3, 33, 81, 118] (by decide +kernel) (by decide +kernel)
set_option maxRecDepth 20000 in
theorem gX8_init_X3_init_n43 : GoodIn wsX8_init (wsX3_init) := ggX8_init_X3_init
set_option maxRecDepth 20000 in
theorem ggX8_init_X4_init : GoodIn wsX8_init wsX4_init := goodIn_r _ [83, 84, 2, 3, 33, 85, 119, 120] (by decide +kernel) (by decide +kernel)
set_option maxRecDepth 20000 in
theorem gX8_init_X4_init_n50 : GoodIn wsX8_init (wsX4_init) := ggX8_init_X4_init
set_option maxRecDepth 20000 in
theorem ggX8_init_X0_init : GoodIn wsX8_init wsX0_init := goodIn_r _ [87, 88, 2, 3, 33, 89, 64, 90, 121, 122] (by decide +kernel) (by decide +kernel)
set_option maxRecDepth 20000 in
theorem gX8_init_X0_init_n57 : GoodIn wsX8_init (wsX0_init) := ggX8_init_X0_init
theorem dX8_init_0 : decode cX8_init 0 = .ok (.aload_n 0, 1) := by decide +kernel
theorem dX8_init_1 : decode cX8_init 1 = .ok (.invokespecial 1, 3) := by decide +kernel
theorem dX8_init_4 : decode cX8_init 4 = .ok (.aload_n 0, 1) := by decide +kernel
theorem dX8_init_5 : decode cX8_init 5 = .ok (.bipush 6, 2) := by decide +kernel
theorem dX8_init_7 : decode cX8_init 7 = .ok (.anewarray 9, 3) := by decide +kernel
theorem dX8_init_10 : decode cX8_init 10 = .ok (.putfield 11, 3) := by decide +kernel
theorem dX8_init_13 : decode cX8_init 13 = .ok (.aload_n 0, 1) := by decide +kernel
theorem dX8_init_14 : decode cX8_init 14 = .ok (.new 9, 3) := by decide +kernel
theorem dX8_init_17 : decode cX8_init 17 = .ok (.dup, 1) := by decide +kernel
theorem dX8_init_18 : decode cX8_init 18 = .ok (.invokespecial 15, 3) := by decide +kernel
theorem dX8_init_21 : decode cX8_init 21 = .ok (.putfield 16, 3) := by decide +kernel
theorem dX8_init_24 : decode cX8_init 24 = .ok (.aload_n 0, 1) := by decide +kernel
theorem dX8_init_25 : decode cX8_init 25 = .ok (.new 20, 3) := by decide +kernel
theorem dX8_init_28 : decode cX8_init 28 = .ok (.dup, 1) := by decide +kernel
theorem dX8_init_29 : decode cX8_init 29 = .ok (.invokespecial 22, 3) := by decide +kernel
theorem dX8_init_32 : decode cX8_init 32 = .ok (.putfield 23, 3) := by decide +kernel
theorem dX8_init_35 : decode cX8_init 35 = .ok (.aload_n 0, 1) := by decide +kernel
theorem dX8_init_36 : decode cX8_init 36 = .ok (.new 27, 3) := by decide +kernel
theorem dX8_init_39 : decode cX8_init 39 = .ok (.dup, 1) := by decide +kernel
theorem dX8_init_40 : decode cX8_init 40 = .ok (.invokespecial 29, 3) := by decide +kernel
theorem dX8_init_43 : decode cX8_init 43 = .ok (.putfield 30, 3) := by decide +kernel
theorem dX8_init_46 : decode cX8_init 46 = .ok (.aload_n 0, 1) := by decide +kernel
theorem dX8_init_47 : decode cX8_init 47 = .ok (.new 34, 3) := by decide +kernel
theorem dX8_init_50 : decode cX8_init 50 = .ok (.dup, 1) := by decide +kernel
theorem dX8_init_51 : decode cX8_init 51 = .ok (.invokespecial 36, 3) := by decide +kernel
theorem dX8_init_54 : decode cX8_init 54 = .ok (.putfield 37, 3) := by decide +kernel
theorem dX8_init_57 : decode cX8_init 57 = .ok (.aload_n 0, 1) := by decide +kernel
theorem dX8_init_58 : decode cX8_init 58 = .ok (.new 41, 3) := by decide +kernel
theorem dX8_init_61 : decode cX8_init 61 = .ok (.dup, 1) := by decide +kernel
theorem dX8_init_62 : decode cX8_init 62 = .ok (.invokespecial 43, 3) := by decide +kernel
theorem dX8_init_65 : decode cX8_init 65 = .ok (.putfield 44, 3) := by decide +kernel
theorem dX8_init_68 : decode cX8_init 68 = .ok (.aload_n 0, 1) := by decide +kernel
theorem dX8_init_69 : decode cX8_init 69 = .ok (.new 48, 3) := by decide +kernel
theorem dX8_init_72 : decode cX8_init 72 = .ok (.dup, 1) := by decide +kernel
theorem dX8_init_73 : decode cX8_init 73 = .ok (.invokespecial 50, 3) := by decide +kernel
theorem dX8_init_76 : decode cX8_init 76 = .ok (.putfield 51, 3) := by decide +kernel
theorem dX8_init_79 : decode cX8_init 79 = .ok (.aload_n 0, 1) := by decide +kernel
theorem dX8_init_80 : decode cX8_init 80 = .ok (.new 55, 3) := by decide +kernel
theorem dX8_init_83 : decode cX8_init 83 = .ok (.dup, 1) := by decide +kernel
theorem dX8_init_84 : decode cX8_init 84 = .ok (.invokespecial 57, 3) := by decide +kernel
theorem dX8_init_87 : decode cX8_init 87 = .ok (.putfield 58, 3) := by decide +kernel
theorem dX8_init_90 : decode cX8_init 90 = .ok (.aload_n 0, 1) := by decide +kernel
theorem dX8_init_91 : decode cX8_init 91 = .ok (.bipush 14, 2) := by decide +kernel
theorem dX8_init_93 : decode cX8_init 93 = .ok (.newarray .int, 2) := by decide +kernel
theorem dX8_init_95 : decode cX8_init 95 = .ok (.putfield 62, 3) := by decide +kernel
theorem dX8_init_98 : decode cX8_init 98 = .ok (.iconst 0, 1) := by decide +kernel
theorem dX8_init_99 : decode cX8_init 99 = .ok (.istore_n 1, 1) := by decide +kernel
theorem dX8_init_100 : decode cX8_init 100 = .ok (.iload_n 1, 1) := by decide +kernel
theorem dX8_init_101 : decode cX8_init 101 = .ok (.bipush 6, 2) := by decide +kernel
theorem dX8_init_103 : decode cX8_init 103 = .ok (.if_icmp .ge 22, 3) := by decide +kernel
theorem dX8_init_106 : decode cX8_init 106 = .ok (.aload_n 0, 1) := by decide +kernel
theorem dX8_init_107 : decode cX8_init 107 = .ok (.getfield 11, 3) := by decide +kernel
theorem dX8_init_110 : decode cX8_init 110 = .ok (.iload_n 1, 1) := by decide +kernel
theorem dX8_init_111 : decode cX8_init 111 = .ok (.new 9, 3) := by decide +kernel
theorem dX8_init_114 : decode cX8_init 114 = .ok (.dup, 1) := by decide +kernel
theorem dX8_init_115 : decode cX8_init 115 = .ok (.invokespecial 15, 3) := by decide +kernel
theorem dX8_init_118 : decode cX8_init 118 = .ok (.aastore, 1) := by decide +kernel
theorem dX8_init_119 : decode cX8_init 119 = .ok (.iinc 1 1, 3) := by decide +kernel
theorem dX8_init_122 : decode cX8_init 122 = .ok (.goto (-22), 3) := by decide +kernel
theorem dX8_init_125 : decode cX8_init 125 = .ok (.return_, 1) := by decide +kernel
set_option maxRecDepth 20000 in
theorem ggX8_rank_X8_isTable : GoodIn wsX8_rank wsX8_isTable := goodIn_r _ [5] (by decide +kernel) (by decide +kernel)
set_option maxRecDepth 20000 in
theorem gX8_rank_X8_isTable : GoodIn wsX8_rank (va_wsS RX8 66 yX8_isTable wsX8_isTable) := goodIn_app (goodIn_of _ (by decide +kernel)) ggX8_rank_X8_isTable
set_option maxRecDepth 20000 in
theorem ggX8_rank_X7_reset : GoodIn wsX8_rank wsX7_reset := goodIn_r _ [10, 11, 12, 13, 14, 15, 16, 17, 18, 19, 9, 20, 21, 22, 23, 34, 35] (by decide +kernel) (by decide +kernel)
set_option maxRecDepth 20000 in
theorem gX8_rank_X7_reset : GoodIn wsX8_rank (wsV RX8 70 RX7 yX7_reset wsX7_reset) := goodIn_app (goodIn_of _ (by decide +kernel)) ggX8_rank_X7_reset
theorem dX8_rank_0 : decode cX8_rank 0 = .ok (.iload_n 1, 1) := by decide +kernel
theorem dX8_rank_1 : decode cX8_rank 1 = .ok (.invokestatic 66, 3) := by decide +kernel
theorem dX8_rank_4 : decode cX8_rank 4 = .ok (.ifCond .eq 13, 3) := by decide +kernel
theorem dX8_rank_7 : decode cX8_rank 7 = .ok (.iload_n 2, 1) := by decide +kernel
theorem dX8_rank_8 : decode cX8_rank 8 = .ok (.iconst 1, 1) := by decide +kernel
theorem dX8_rank_9 : decode cX8_rank 9 = .ok (.if_icmp .lt 8, 3) := by decide +kernel
theorem dX8_rank_12 : decode cX8_rank 12 = .ok (.iload_n 2, 1) := by decide +kernel
theorem dX8_rank_13 : decode cX8_rank 13 = .ok (.iconst 5, 1) := by decide +kernel
theorem dX8_rank_14 : decode cX8_rank 14 = .ok (.if_icmp .le 6, 3) := by decide +kernel
theorem dX8_rank_17 : decode cX8_rank 17 = .ok (.bipush (-2), 2) := by decide +kernel
theorem dX8_rank_19 : decode cX8_rank 19 = .ok (.ireturn, 1) := by decide +kernel
theorem dX8_rank_20 : decode cX8_rank 20 = .ok (.aload_n 0, 1) := by decide +kernel
theorem dX8_rank_21 : decode cX8_rank 21 = .ok (.getfield 11, 3) := by decide +kernel
theorem dX8_rank_24 : decode cX8_rank 24 = .ok (.iload_n 1, 1) := by decide +kernel
theorem dX8_rank_25 : decode cX8_rank 25 = .ok (.aaload, 1) := by decide +kernel
theorem dX8_rank_26 : decode cX8_rank 26 = .ok (.iload_n 2, 1) := by decide +kernel
theorem dX8_rank_27 : decode cX8_rank 27 = .ok (.invokevirtual 70, 3) := by decide +kernel
theorem dX8_rank_30 : decode cX8_rank 30 = .ok (.iconst 1, 1) := by decide +kernel
theorem dX8_rank_31 : decode cX8_rank 31 = .ok (.ireturn, 1) := by decide +kernel
set_option maxRecDepth 20000 in
theorem ggX8_put_X8_isPlace : GoodIn wsX8_put wsX8_isPlace := goodIn_r _ [6, 1, 7, 8, 9, 5, 10, 11, 12, 13, 14, 15, 16, 17, 18, 19, 32, 33, 34, 35, 36, 37, 38, 39, 40, 41, 42, 43] (by decide +kernel) (by decide +kernel)
set_option maxRecDepth 20000 in
theorem gX8_put_X8_isPlace : GoodIn wsX8_put (wsV RX8 74 RX8 yX8_isPlace wsX8_isPlace) := goodIn_app (goodIn_of _ (by decide +kernel)) ggX8_put_X8_isPlace
set_option maxRecDepth 20000 in
theorem ggX8_put_X7_number : GoodIn wsX8_put wsX7_number := goodIn_r _ [23, 24, 25, 26, 17, 27, 42, 43] (by decide +kernel) (by decide +kernel)
set_option maxRecDepth 20000 in
theorem gX8_put_X7_number : GoodIn wsX8_put (wsV RX8 78 RX7 yX7_number wsX7_number) := goodIn_app (goodIn_of _ (by decide +kernel)) ggX8_put_X7_number
set_option maxRecDepth 20000 in
theorem ggX8_put_X7_setNumber : GoodIn wsX8_put wsX7_setNumber := goodIn_r _ [31, 24, 25, 26, 17, 27, 42, 43] (by decide +kernel) (by decide +kernel)
set_option maxRecDepth 20000 in
theorem gX8_put_X7_setNumber : GoodIn wsX8_put (wsV RX8 82 RX7 yX7_setNumber wsX7_setNumber) := goodIn_app (goodIn_of _ (by decide +kernel)) ggX8_put_X7_setNumber
theorem dX8_put_0 : decode cX8_put 0 = .ok (.aload_n 0, 1) := by decide +kernel
theorem dX8_put_1 : decode cX8_put 1 = .ok (.iload_n 1, 1) := by decide +kernel
theorem dX8_put_2 : decode cX8_put 2 = .ok (.iload_n 2, 1) := by decide +kernel
theorem dX8_put_3 : decode cX8_put 3 = .ok (.iload_n 3, 1) := by decide +kernel
theorem dX8_put_4 : decode cX8_put 4 = .ok (.iload 4, 2) := by decide +kernel
theorem dX8_put_6 : decode cX8_put 6 = .ok (.invokevirtual 74, 3) := by decide +kernel
theorem dX8_put_9 : decode cX8_put 9 = .ok (.ifCond .eq 15, 3) := by decide +kernel
theorem dX8_put_12 : decode cX8_put 12 = .ok (.iload 5, 2) := by decide +kernel
theorem dX8_put_14 : decode cX8_put 14 = .ok (.ifCond .lt 10, 3) := by decide +kernel
theorem dX8_put_17 : decode cX8_put 17 = .ok (.iload 5, 2) := by decide +kernel
theorem dX8_put_19 : decode cX8_put 19 = .ok (.bipush 9, 2) := by decide +kernel
theorem dX8_put_21 : decode cX8_put 21 = .ok (.if_icmp .le 6, 3) := by decide +kernel
theorem dX8_put_24 : decode cX8_put 24 = .ok (.bipush (-2), 2) := by decide +kernel
theorem dX8_put_26 : decode cX8_put 26 = .ok (.ireturn, 1) := by decide +kernel
theorem dX8_put_27 : decode cX8_put 27 = .ok (.aload_n 0, 1) := by decide +kernel
theorem dX8_put_28 : decode cX8_put 28 = .ok (.getfield 11, 3) := by decide +kernel
theorem dX8_put_31 : decode cX8_put 31 = .ok (.iload_n 1, 1) := by decide +kernel
theorem dX8_put_32 : decode cX8_put 32 = .ok (.aaload, 1) := by decide +kernel
theorem dX8_put_33 : decode cX8_put 33 = .ok (.iload_n 2, 1) := by decide +kernel
theorem dX8_put_34 : decode cX8_put 34 = .ok (.iload_n 3, 1) := by decide +kernel
theorem dX8_put_35 : decode cX8_put 35 = .ok (.iload 4, 2) := by decide +kernel
theorem dX8_put_37 : decode cX8_put 37 = .ok (.invokevirtual 78, 3) := by decide +kernel
theorem dX8_put_40 : decode cX8_put 40 = .ok (.istore 6, 2) := by decide +kernel
theorem dX8_put_42 : decode cX8_put 42 = .ok (.aload_n 0, 1) := by decide +kernel
theorem dX8_put_43 : decode cX8_put 43 = .ok (.getfield 11, 3) := by decide +kernel
theorem dX8_put_46 : decode cX8_put 46 = .ok (.iload_n 1, 1) := by decide +kernel
theorem dX8_put_47 : decode cX8_put 47 = .ok (.aaload, 1) := by decide +kernel
theorem dX8_put_48 : decode cX8_put 48 = .ok (.iload_n 2, 1) := by decide +kernel
theorem dX8_put_49 : decode cX8_put 49 = .ok (.iload_n 3, 1) := by decide +kernel
theorem dX8_put_50 : decode cX8_put 50 = .ok (.iload 4, 2) := by decide +kernel
theorem dX8_put_52 : decode cX8_put 52 = .ok (.iload 5, 2) := by decide +kernel
theorem dX8_put_54 : decode cX8_put 54 = .ok (.invokevirtual 82, 3) := by decide +kernel
theorem dX8_put_57 : decode cX8_put 57 = .ok (.iload 6, 2) := by decide +kernel
theorem dX8_put_59 : decode cX8_put 59 = .ok (.ireturn, 1) := by decide +kernel
set_option maxRecDepth 20000 in
theorem ggX8_at_X8_isPlace : GoodIn wsX8_at wsX8_isPlace := goodIn_r _ [6, 1, 7, 8, 9, 5, 10, 11, 12, 13, 14, 15, 16, 17, 18, 19, 28, 29, 30, 31, 32, 33, 34, 35, 36, 37, 38, 39] (by decide +kernel) (by decide +kernel)
set_option maxRecDepth 20000 in
theorem gX8_at_X8_isPlace : GoodIn wsX8_at (wsV RX8 74 RX8 yX8_isPlace wsX8_isPlace) := goodIn_app (goodIn_of _ (by decide +kernel)) ggX8_at_X8_isPlace
set_option maxRecDepth 20000 in
theorem ggX8_at_X7_number : GoodIn wsX8_at wsX7_number := goodIn_r _ [23, 24, 25, 26, 17, 27, 38, 39] (by decide +kernel) (by decide +kernel)
set_option maxRecDepth 20000 in
theorem gX8_at_X7_number : GoodIn wsX8_at (wsV RX8 78 RX7 yX7_number wsX7_number) := goodIn_app (goodIn_of _ (by decide +kernel)) ggX8_at_X7_number
theorem dX8_at_0 : decode cX8_at 0 = .ok (.aload_n 0, 1) := by decide +kernel
theorem dX8_at_1 : decode cX8_at 1 = .ok (.iload_n 1, 1) := by decide +kernel
theorem dX8_at_2 : decode cX8_at 2 = .ok (.iload_n 2, 1) := by decide +kernel
theorem dX8_at_3 : decode cX8_at 3 = .ok (.iload_n 3, 1) := by decide +kernel
theorem dX8_at_4 : decode cX8_at 4 = .ok (.iload 4, 2) := by decide +kernel
theorem dX8_at_6 : decode cX8_at 6 = .ok (.invokevirtual 74, 3) := by decide +kernel
theorem dX8_at_9 : decode cX8_at 9 = .ok (.ifCond .eq 19, 3) := by decide +kernel
theorem dX8_at_12 : decode cX8_at 12 = .ok (.aload_n 0, 1) := by decide +kernel
theorem dX8_at_13 : decode cX8_at 13 = .ok (.getfield 11, 3) := by decide +kernel
theorem dX8_at_16 : decode cX8_at 16 = .ok (.iload_n 1, 1) := by decide +kernel
theorem dX8_at_17 : decode cX8_at 17 = .ok (.aaload, 1) := by decide +kernel
theorem dX8_at_18 : decode cX8_at 18 = .ok (.iload_n 2, 1) := by decide +kernel
theorem dX8_at_19 : decode cX8_at 19 = .ok (.iload_n 3, 1) := by decide +kernel
theorem dX8_at_20 : decode cX8_at 20 = .ok (.iload 4, 2) := by decide +kernel
theorem dX8_at_22 : decode cX8_at 22 = .ok (.invokevirtual 78, 3) := by decide +kernel
theorem dX8_at_25 : decode cX8_at 25 = .ok (.goto 5, 3) := by decide +kernel
theorem dX8_at_28 : decode cX8_at 28 = .ok (.bipush (-2), 2) := by decide +kernel
theorem dX8_at_30 : decode cX8_at 30 = .ok (.ireturn, 1) := by decide +kernel
set_option maxRecDepth 20000 in
theorem ggX8_fault_X8_isTable : GoodIn wsX8_fault wsX8_isTable := goodIn_r _ [8] (by decide +kernel) (by decide +kernel)
set_option maxRecDepth 20000 in
theorem gX8_fault_X8_isTable : GoodIn wsX8_fault (va_wsS RX8 66 yX8_isTable wsX8_isTable) := goodIn_app (goodIn_of _ (by decide +kernel)) ggX8_fault_X8_isTable
set_option maxRecDepth 20000 in
theorem ggX8_fault_X1_allHold : GoodIn wsX8_fault wsX1_allHold := goodIn_r _ [13, 14, 15, 16, 17, 18, 19, 20, 21, 22, 12, 23, 24, 25, 26, 27, 28, 29, 30, 31, 32, 33, 34, 35, 36, 37, 38, 39, 40, 41, 42, 43, 44, 45, 46, 47, 48, 49, 50, 51, 52, 53, 54, 55, 56, 57, 68, 69, 70, 71, 72] (by decide +kernel) (by decide +kernel)
set_option maxRecDepth 20000 in
theorem gX8_fault_X1_allHold : GoodIn wsX8_fault (wsV RX8 86 RX1 yX1_allHold wsX1_allHold) := goodIn_app (goodIn_of _ (by decide +kernel)) ggX8_fault_X1_allHold
theorem dX8_fault_0 : decode cX8_fault 0 = .ok (.iload_n 1, 1) := by decide +kernel
theorem dX8_fault_1 : decode cX8_fault 1 = .ok (.invokestatic 66, 3) := by decide +kernel
theorem dX8_fault_4 : decode cX8_fault 4 = .ok (.ifCond .eq 12, 3) := by decide +kernel
theorem dX8_fault_7 : decode cX8_fault 7 = .ok (.iload_n 2, 1) := by decide +kernel
theorem dX8_fault_8 : decode cX8_fault 8 = .ok (.ifCond .lt 8, 3) := by decide +kernel
theorem dX8_fault_11 : decode cX8_fault 11 = .ok (.iload_n 2, 1) := by decide +kernel
theorem dX8_fault_12 : decode cX8_fault 12 = .ok (.iconst 4, 1) := by decide +kernel
theorem dX8_fault_13 : decode cX8_fault 13 = .ok (.if_icmp .le 6, 3) := by decide +kernel
theorem dX8_fault_16 : decode cX8_fault 16 = .ok (.bipush (-2), 2) := by decide +kernel
theorem dX8_fault_18 : decode cX8_fault 18 = .ok (.ireturn, 1) := by decide +kernel
theorem dX8_fault_19 : decode cX8_fault 19 = .ok (.aload_n 0, 1) := by decide +kernel
theorem dX8_fault_20 : decode cX8_fault 20 = .ok (.getfield 23, 3) := by decide +kernel
theorem dX8_fault_23 : decode cX8_fault 23 = .ok (.aload_n 0, 1) := by decide +kernel
theorem dX8_fault_24 : decode cX8_fault 24 = .ok (.getfield 11, 3) := by decide +kernel
theorem dX8_fault_27 : decode cX8_fault 27 = .ok (.iload_n 1, 1) := by decide +kernel
theorem dX8_fault_28 : decode cX8_fault 28 = .ok (.aaload, 1) := by decide +kernel
theorem dX8_fault_29 : decode cX8_fault 29 = .ok (.invokevirtual 86, 3) := by decide +kernel
theorem dX8_fault_32 : decode cX8_fault 32 = .ok (.pop, 1) := by decide +kernel
theorem dX8_fault_33 : decode cX8_fault 33 = .ok (.iload_n 2, 1) := by decide +kernel
theorem dX8_fault_34 : decode cX8_fault 34 = .ok (.ifCond .ne 13, 3) := by decide +kernel
theorem dX8_fault_37 : decode cX8_fault 37 = .ok (.aload_n 0, 1) := by decide +kernel
theorem dX8_fault_38 : decode cX8_fault 38 = .ok (.getfield 23, 3) := by decide +kernel
theorem dX8_fault_41 : decode cX8_fault 41 = .ok (.getfield 90, 3) := by decide +kernel
theorem dX8_fault_44 : decode cX8_fault 44 = .ok (.goto 14, 3) := by decide +kernel
theorem dX8_fault_47 : decode cX8_fault 47 = .ok (.aload_n 0, 1) := by decide +kernel
theorem dX8_fault_48 : decode cX8_fault 48 = .ok (.getfield 23, 3) := by decide +kernel
theorem dX8_fault_51 : decode cX8_fault 51 = .ok (.getfield 94, 3) := by decide +kernel
theorem dX8_fault_54 : decode cX8_fault 54 = .ok (.iload_n 2, 1) := by decide +kernel
theorem dX8_fault_55 : decode cX8_fault 55 = .ok (.iconst 1, 1) := by decide +kernel
theorem dX8_fault_56 : decode cX8_fault 56 = .ok (.isub, 1) := by decide +kernel
theorem dX8_fault_57 : decode cX8_fault 57 = .ok (.iaload, 1) := by decide +kernel
theorem dX8_fault_58 : decode cX8_fault 58 = .ok (.ireturn, 1) := by decide +kernel
set_option maxRecDepth 20000 in
theorem ggX8_partner_X8_isKind : GoodIn wsX8_partner wsX8_isKind := goodIn_r _ [7, 8, 9, 10, 6, 11, 12, 13, 14, 15, 16, 17, 70, 71, 72, 73, 74, 75, 76, 77, 78, 79, 83, 84] (by decide +kernel) (by decide +kernel)
set_option maxRecDepth 20000 in
theorem gX8_partner_X8_isKind : GoodIn wsX8_partner (wsV RX8 97 RX8 yX8_isKind wsX8_isKind) := goodIn_app (goodIn_of _ (by decide +kernel)) ggX8_partner_X8_isKind
set_option maxRecDepth 20000 in
theorem ggX8_partner_X8_isRight : GoodIn wsX8_partner wsX8_isRight := goodIn_r _ [21, 1, 8, 22, 23, 24, 25, 26, 27, 28, 29, 30, 31, 32, 33, 34, 35, 36, 37, 38, 39, 40, 15, 41, 42, 43, 44, 45, 46, 47, 48, 49, 50, 51, 52, 53, 54, 55, 56, 57, 58, 59, 60, 61, 62, 63, 64, 65, 66, 67, 68, 69, 70, 71, 72, 73, 74, 75, 76, 77, 78, 79, 80, 81, 82, 83, 84] (by decide +kernel) (by decide +kernel)
set_option maxRecDepth 20000 in
theorem gX8_partner_X8_isRight : GoodIn wsX8_partner (wsV RX8 101 RX8 yX8_isRight wsX8_isRight) := goodIn_app (goodIn_of _ (by decide +kernel)) ggX8_partner_X8_isRight
theorem dX8_partner_0 : decode cX8_partner 0 = .ok (.aload_n 0, 1) := by decide +kernel
theorem dX8_partner_1 : decode cX8_partner 1 = .ok (.iload_n 1, 1) := by decide +kernel
theorem dX8_partner_2 : decode cX8_partner 2 = .ok (.iload_n 2, 1) := by decide +kernel
theorem dX8_partner_3 : decode cX8_partner 3 = .ok (.invokevirtual 97, 3) := by decide +kernel
theorem dX8_partner_6 : decode cX8_partner 6 = .ok (.ifCond .ne 6, 3) := by decide +kernel
theorem dX8_partner_9 : decode cX8_partner 9 = .ok (.bipush (-2), 2) := by decide +kernel
theorem dX8_partner_11 : decode cX8_partner 11 = .ok (.ireturn, 1) := by decide +kernel
theorem dX8_partner_12 : decode cX8_partner 12 = .ok (.aload_n 0, 1) := by decide +kernel
theorem dX8_partner_13 : decode cX8_partner 13 = .ok (.iload_n 1, 1) := by decide +kernel
theorem dX8_partner_14 : decode cX8_partner 14 = .ok (.invokevirtual 101, 3) := by decide +kernel
theorem dX8_partner_17 : decode cX8_partner 17 = .ok (.ifCond .eq 15, 3) := by decide +kernel
theorem dX8_partner_20 : decode cX8_partner 20 = .ok (.aload_n 0, 1) := by decide +kernel
theorem dX8_partner_21 : decode cX8_partner 21 = .ok (.getfield 23, 3) := by decide +kernel
theorem dX8_partner_24 : decode cX8_partner 24 = .ok (.getfield 104, 3) := by decide +kernel
theorem dX8_partner_27 : decode cX8_partner 27 = .ok (.iload_n 2, 1) := by decide +kernel
theorem dX8_partner_28 : decode cX8_partner 28 = .ok (.iaload, 1) := by decide +kernel
theorem dX8_partner_29 : decode cX8_partner 29 = .ok (.goto 5, 3) := by decide +kernel
theorem dX8_partner_32 : decode cX8_partner 32 = .ok (.bipush (-3), 2) := by decide +kernel
theorem dX8_partner_34 : decode cX8_partner 34 = .ok (.ireturn, 1) := by decide +kernel
set_option maxRecDepth 20000 in
theorem ggX8_copy_X8_isTable : GoodIn wsX8_copy wsX8_isTable := goodIn_r _ [6] (by decide +kernel) (by decide +kernel)
set_option maxRecDepth 20000 in
theorem gX8_copy_X8_isTable : GoodIn wsX8_copy (va_wsS RX8 66 yX8_isTable wsX8_isTable) := goodIn_app (goodIn_of _ (by decide +kernel)) ggX8_copy_X8_isTable
set_option maxRecDepth 20000 in
theorem ggX8_copy_X7_become : GoodIn wsX8_copy wsX7_become := goodIn_r _ [11, 12, 13, 14, 15, 16, 17, 28, 29] (by decide +kernel) (by decide +kernel)
set_option maxRecDepth 20000 in
theorem gX8_copy_X7_become : GoodIn wsX8_copy (wsV RX8 107 RX7 yX7_become wsX7_become) := goodIn_app (goodIn_of _ (by decide +kernel)) ggX8_copy_X7_become
theorem dX8_copy_0 : decode cX8_copy 0 = .ok (.iload_n 1, 1) := by decide +kernel
theorem dX8_copy_1 : decode cX8_copy 1 = .ok (.invokestatic 66, 3) := by decide +kernel
theorem dX8_copy_4 : decode cX8_copy 4 = .ok (.ifCond .eq 10, 3) := by decide +kernel
theorem dX8_copy_7 : decode cX8_copy 7 = .ok (.iload_n 2, 1) := by decide +kernel
theorem dX8_copy_8 : decode cX8_copy 8 = .ok (.invokestatic 66, 3) := by decide +kernel
theorem dX8_copy_11 : decode cX8_copy 11 = .ok (.ifCond .ne 6, 3) := by decide +kernel
theorem dX8_copy_14 : decode cX8_copy 14 = .ok (.bipush (-2), 2) := by decide +kernel
theorem dX8_copy_16 : decode cX8_copy 16 = .ok (.ireturn, 1) := by decide +kernel
theorem dX8_copy_17 : decode cX8_copy 17 = .ok (.aload_n 0, 1) := by decide +kernel
theorem dX8_copy_18 : decode cX8_copy 18 = .ok (.getfield 11, 3) := by decide +kernel
theorem dX8_copy_21 : decode cX8_copy 21 = .ok (.iload_n 2, 1) := by decide +kernel
theorem dX8_copy_22 : decode cX8_copy 22 = .ok (.aaload, 1) := by decide +kernel
theorem dX8_copy_23 : decode cX8_copy 23 = .ok (.aload_n 0, 1) := by decide +kernel
theorem dX8_copy_24 : decode cX8_copy 24 = .ok (.getfield 11, 3) := by decide +kernel
theorem dX8_copy_27 : decode cX8_copy 27 = .ok (.iload_n 1, 1) := by decide +kernel
theorem dX8_copy_28 : decode cX8_copy 28 = .ok (.aaload, 1) := by decide +kernel
theorem dX8_copy_29 : decode cX8_copy 29 = .ok (.invokevirtual 107, 3) := by decide +kernel
theorem dX8_copy_32 : decode cX8_copy 32 = .ok (.aload_n 0, 1) := by decide +kernel
theorem dX8_copy_33 : decode cX8_copy 33 = .ok (.getfield 11, 3) := by decide +kernel
theorem dX8_copy_36 : decode cX8_copy 36 = .ok (.iload_n 2, 1) := by decide +kernel
theorem dX8_copy_37 : decode cX8_copy 37 = .ok (.aaload, 1) := by decide +kernel
theorem dX8_copy_38 : decode cX8_copy 38 = .ok (.getfield 111, 3) := by decide +kernel
theorem dX8_copy_41 : decode cX8_copy 41 = .ok (.ireturn, 1) := by decide +kernel
set_option maxRecDepth 20000 in
theorem ggX8_group_X8_isTable : GoodIn wsX8_group wsX8_isTable := goodIn_r _ [5] (by decide +kernel) (by decide +kernel)
set_option maxRecDepth 20000 in
theorem gX8_group_X8_isTable : GoodIn wsX8_group (va_wsS RX8 66 yX8_isTable wsX8_isTable) := goodIn_app (goodIn_of _ (by decide +kernel)) ggX8_group_X8_isTable
set_option maxRecDepth 20000 in
theorem ggX8_group_X7_reset : GoodIn wsX8_group wsX7_reset := goodIn_r _ [10, 11, 12, 13, 14, 15, 16, 17, 18, 19, 9, 20, 21, 22, 23, 38, 39] (by decide +kernel) (by decide +kernel)
set_option maxRecDepth 20000 in
theorem gX8_group_X7_reset : GoodIn wsX8_group (wsV RX8 70 RX7 yX7_reset wsX7_reset) := goodIn_app (goodIn_of _ (by decide +kernel)) ggX8_group_X7_reset
set_option maxRecDepth 20000 in
theorem ggX8_group_X7_fuseAsGroup : GoodIn wsX8_group wsX7_fuseAsGroup := goodIn_r _ [27, 17, 18, 19, 9, 20, 11, 21, 22, 23, 38, 39] (by decide +kernel) (by decide +kernel)
set_option maxRecDepth 20000 in
theorem gX8_group_X7_fuseAsGroup : GoodIn wsX8_group (wsV RX8 114 RX7 yX7_fuseAsGroup wsX7_fuseAsGroup) := goodIn_app (goodIn_of _ (by decide +kernel)) ggX8_group_X7_fuseAsGroup
theorem dX8_group_0 : decode cX8_group 0 = .ok (.iload_n 1, 1) := by decide +kernel
theorem dX8_group_1 : decode cX8_group 1 = .ok (.invokestatic 66, 3) := by decide +kernel
theorem dX8_group_4 : decode cX8_group 4 = .ok (.ifCond .eq 13, 3) := by decide +kernel
theorem dX8_group_7 : decode cX8_group 7 = .ok (.iload_n 2, 1) := by decide +kernel
theorem dX8_group_8 : decode cX8_group 8 = .ok (.iconst 1, 1) := by decide +kernel
theorem dX8_group_9 : decode cX8_group 9 = .ok (.if_icmp .lt 8, 3) := by decide +kernel
theorem dX8_group_12 : decode cX8_group 12 = .ok (.iload_n 2, 1) := by decide +kernel
theorem dX8_group_13 : decode cX8_group 13 = .ok (.iconst 5, 1) := by decide +kernel
theorem dX8_group_14 : decode cX8_group 14 = .ok (.if_icmp .le 6, 3) := by decide +kernel
theorem dX8_group_17 : decode cX8_group 17 = .ok (.bipush (-2), 2) := by decide +kernel
theorem dX8_group_19 : decode cX8_group 19 = .ok (.ireturn, 1) := by decide +kernel
theorem dX8_group_20 : decode cX8_group 20 = .ok (.aload_n 0, 1) := by decide +kernel
theorem dX8_group_21 : decode cX8_group 21 = .ok (.getfield 11, 3) := by decide +kernel
theorem dX8_group_24 : decode cX8_group 24 = .ok (.iload_n 1, 1) := by decide +kernel
theorem dX8_group_25 : decode cX8_group 25 = .ok (.aaload, 1) := by decide +kernel
theorem dX8_group_26 : decode cX8_group 26 = .ok (.iload_n 2, 1) := by decide +kernel
theorem dX8_group_27 : decode cX8_group 27 = .ok (.invokevirtual 70, 3) := by decide +kernel
theorem dX8_group_30 : decode cX8_group 30 = .ok (.aload_n 0, 1) := by decide +kernel
theorem dX8_group_31 : decode cX8_group 31 = .ok (.getfield 11, 3) := by decide +kernel
theorem dX8_group_34 : decode cX8_group 34 = .ok (.iload_n 1, 1) := by decide +kernel
theorem dX8_group_35 : decode cX8_group 35 = .ok (.aaload, 1) := by decide +kernel
theorem dX8_group_36 : decode cX8_group 36 = .ok (.iload_n 2, 1) := by decide +kernel
theorem dX8_group_37 : decode cX8_group 37 = .ok (.invokevirtual 114, 3) := by decide +kernel
theorem dX8_group_40 : decode cX8_group 40 = .ok (.iconst 1, 1) := by decide +kernel
theorem dX8_group_41 : decode cX8_group 41 = .ok (.ireturn, 1) := by decide +kernel
set_option maxRecDepth 20000 in
theorem ggX8_near_X8_isTable : GoodIn wsX8_near wsX8_isTable := goodIn_r _ [5] (by decide +kernel) (by decide +kernel)
set_option maxRecDepth 20000 in
theorem gX8_near_X8_isTable : GoodIn wsX8_near (va_wsS RX8 66 yX8_isTable wsX8_isTable) := goodIn_app (goodIn_of _ (by decide +kernel)) ggX8_near_X8_isTable
set_option maxRecDepth 20000 in
theorem ggX8_near_X7_reset : GoodIn wsX8_near wsX7_reset := goodIn_r _ [10, 11, 12, 13, 14, 15, 16, 17, 18, 19, 9, 20, 21, 22, 23, 39, 40] (by decide +kernel) (by decide +kernel)
set_option maxRecDepth 20000 in
theorem gX8_near_X7_reset : GoodIn wsX8_near (wsV RX8 70 RX7 yX7_reset wsX7_reset) := goodIn_app (goodIn_of _ (by decide +kernel)) ggX8_near_X7_reset
set_option maxRecDepth 20000 in
theorem ggX8_near_X7_fuseAsGroup : GoodIn wsX8_near wsX7_fuseAsGroup := goodIn_r _ [27, 17, 18, 19, 9, 20, 11, 21, 22, 23, 39, 40] (by decide +kernel) (by decide +kernel)
set_option maxRecDepth 20000 in
theorem gX8_near_X7_fuseAsGroup : GoodIn wsX8_near (wsV RX8 114 RX7 yX7_fuseAsGroup wsX7_fuseAsGroup) := goodIn_app (goodIn_of _ (by decide +kernel)) ggX8_near_X7_fuseAsGroup
set_option maxRecDepth 20000 in
theorem ggX8_near_X7_setNumber : GoodIn wsX8_near wsX7_setNumber := goodIn_r _ [20, 11, 21, 22, 9, 23, 39, 40] (by decide +kernel) (by decide +kernel)
set_option maxRecDepth 20000 in
theorem gX8_near_X7_setNumber : GoodIn wsX8_near (wsV RX8 82 RX7 yX7_setNumber wsX7_setNumber) := goodIn_app (goodIn_of _ (by decide +kernel)) ggX8_near_X7_setNumber
theorem dX8_near_0 : decode cX8_near 0 = .ok (.iload_n 1, 1) := by decide +kernel
theorem dX8_near_1 : decode cX8_near 1 = .ok (.invokestatic 66, 3) := by decide +kernel
theorem dX8_near_4 : decode cX8_near 4 = .ok (.ifCond .eq 23, 3) := by decide +kernel
theorem dX8_near_7 : decode cX8_near 7 = .ok (.iload_n 2, 1) := by decide +kernel
theorem dX8_near_8 : decode cX8_near 8 = .ok (.iconst 1, 1) := by decide +kernel
theorem dX8_near_9 : decode cX8_near 9 = .ok (.if_icmp .lt 18, 3) := by decide +kernel
theorem dX8_near_12 : decode cX8_near 12 = .ok (.iload_n 2, 1) := by decide +kernel
theorem dX8_near_13 : decode cX8_near 13 = .ok (.iconst 5, 1) := by decide +kernel
theorem dX8_near_14 : decode cX8_near 14 = .ok (.if_icmp .ge 13, 3) := by decide +kernel
theorem dX8_near_17 : decode cX8_near 17 = .ok (.iload_n 3, 1) := by decide +kernel
theorem dX8_near_18 : decode cX8_near 18 = .ok (.ifCond .lt 9, 3) := by decide +kernel
theorem dX8_near_21 : decode cX8_near 21 = .ok (.iload_n 3, 1) := by decide +kernel
theorem dX8_near_22 : decode cX8_near 22 = .ok (.bipush 9, 2) := by decide +kernel
theorem dX8_near_24 : decode cX8_near 24 = .ok (.if_icmp .le 6, 3) := by decide +kernel
theorem dX8_near_27 : decode cX8_near 27 = .ok (.bipush (-2), 2) := by decide +kernel
theorem dX8_near_29 : decode cX8_near 29 = .ok (.ireturn, 1) := by decide +kernel
theorem dX8_near_30 : decode cX8_near 30 = .ok (.aload_n 0, 1) := by decide +kernel
theorem dX8_near_31 : decode cX8_near 31 = .ok (.getfield 11, 3) := by decide +kernel
theorem dX8_near_34 : decode cX8_near 34 = .ok (.iload_n 1, 1) := by decide +kernel
theorem dX8_near_35 : decode cX8_near 35 = .ok (.aaload, 1) := by decide +kernel
theorem dX8_near_36 : decode cX8_near 36 = .ok (.iload_n 2, 1) := by decide +kernel
theorem dX8_near_37 : decode cX8_near 37 = .ok (.iconst 1, 1) := by decide +kernel
theorem dX8_near_38 : decode cX8_near 38 = .ok (.iadd, 1) := by decide +kernel
theorem dX8_near_39 : decode cX8_near 39 = .ok (.invokevirtual 70, 3) := by decide +kernel
theorem dX8_near_42 : decode cX8_near 42 = .ok (.aload_n 0, 1) := by decide +kernel
theorem dX8_near_43 : decode cX8_near 43 = .ok (.getfield 11, 3) := by decide +kernel
theorem dX8_near_46 : decode cX8_near 46 = .ok (.iload_n 1, 1) := by decide +kernel
theorem dX8_near_47 : decode cX8_near 47 = .ok (.aaload, 1) := by decide +kernel
theorem dX8_near_48 : decode cX8_near 48 = .ok (.iload_n 2, 1) := by decide +kernel
theorem dX8_near_49 : decode cX8_near 49 = .ok (.invokevirtual 114, 3) := by decide +kernel
theorem dX8_near_52 : decode cX8_near 52 = .ok (.iconst 0, 1) := by decide +kernel
theorem dX8_near_53 : decode cX8_near 53 = .ok (.istore 4, 2) := by decide +kernel
theorem dX8_near_55 : decode cX8_near 55 = .ok (.iload 4, 2) := by decide +kernel
theorem dX8_near_57 : decode cX8_near 57 = .ok (.iload_n 2, 1) := by decide +kernel
theorem dX8_near_58 : decode cX8_near 58 = .ok (.if_icmp .ge 51, 3) := by decide +kernel
theorem dX8_near_61 : decode cX8_near 61 = .ok (.aload_n 0, 1) := by decide +kernel
theorem dX8_near_62 : decode cX8_near 62 = .ok (.getfield 11, 3) := by decide +kernel
theorem dX8_near_65 : decode cX8_near 65 = .ok (.iload_n 1, 1) := by decide +kernel
theorem dX8_near_66 : decode cX8_near 66 = .ok (.aaload, 1) := by decide +kernel
theorem dX8_near_67 : decode cX8_near 67 = .ok (.iload_n 2, 1) := by decide +kernel
theorem dX8_near_68 : decode cX8_near 68 = .ok (.iload 4, 2) := by decide +kernel
theorem dX8_near_70 : decode cX8_near 70 = .ok (.iload_n 2, 1) := by decide +kernel
theorem dX8_near_71 : decode cX8_near 71 = .ok (.iconst 1, 1) := by decide +kernel
theorem dX8_near_72 : decode cX8_near 72 = .ok (.invokevirtual 82, 3) := by decide +kernel
theorem dX8_near_75 : decode cX8_near 75 = .ok (.aload_n 0, 1) := by decide +kernel
theorem dX8_near_76 : decode cX8_near 76 = .ok (.getfield 11, 3) := by decide +kernel
theorem dX8_near_79 : decode cX8_near 79 = .ok (.iload_n 1, 1) := by decide +kernel
theorem dX8_near_80 : decode cX8_near 80 = .ok (.aaload, 1) := by decide +kernel
theorem dX8_near_81 : decode cX8_near 81 = .ok (.iload 4, 2) := by decide +kernel
theorem dX8_near_83 : decode cX8_near 83 = .ok (.iload_n 2, 1) := by decide +kernel
theorem dX8_near_84 : decode cX8_near 84 = .ok (.iload_n 2, 1) := by decide +kernel
theorem dX8_near_85 : decode cX8_near 85 = .ok (.iconst 1, 1) := by decide +kernel
theorem dX8_near_86 : decode cX8_near 86 = .ok (.invokevirtual 82, 3) := by decide +kernel
theorem dX8_near_89 : decode cX8_near 89 = .ok (.aload_n 0, 1) := by decide +kernel
theorem dX8_near_90 : decode cX8_near 90 = .ok (.getfield 11, 3) := by decide +kernel
theorem dX8_near_93 : decode cX8_near 93 = .ok (.iload_n 1, 1) := by decide +kernel
theorem dX8_near_94 : decode cX8_near 94 = .ok (.aaload, 1) := by decide +kernel
theorem dX8_near_95 : decode cX8_near 95 = .ok (.iload_n 2, 1) := by decide +kernel
theorem dX8_near_96 : decode cX8_near 96 = .ok (.iload_n 2, 1) := by decide +kernel
theorem dX8_near_97 : decode cX8_near 97 = .ok (.iload 4, 2) := by decide +kernel
theorem dX8_near_99 : decode cX8_near 99 = .ok (.iconst 1, 1) := by decide +kernel
theorem dX8_near_100 : decode cX8_near 100 = .ok (.invokevirtual 82, 3) := by decide +kernel
theorem dX8_near_103 : decode cX8_near 103 = .ok (.iinc 4 1, 3) := by decide +kernel
theorem dX8_near_106 : decode cX8_near 106 = .ok (.goto (-51), 3) := by decide +kernel
theorem dX8_near_109 : decode cX8_near 109 = .ok (.aload_n 0, 1) := by decide +kernel
theorem dX8_near_110 : decode cX8_near 110 = .ok (.getfield 11, 3) := by decide +kernel
theorem dX8_near_113 : decode cX8_near 113 = .ok (.iload_n 1, 1) := by decide +kernel
theorem dX8_near_114 : decode cX8_near 114 = .ok (.aaload, 1) := by decide +kernel
theorem dX8_near_115 : decode cX8_near 115 = .ok (.iload_n 2, 1) := by decide +kernel
theorem dX8_near_116 : decode cX8_near 116 = .ok (.iload_n 2, 1) := by decide +kernel
theorem dX8_near_117 : decode cX8_near 117 = .ok (.iload_n 2, 1) := by decide +kernel
theorem dX8_near_118 : decode cX8_near 118 = .ok (.iload_n 3, 1) := by decide +kernel
theorem dX8_near_119 : decode cX8_near 119 = .ok (.invokevirtual 82, 3) := by decide +kernel
theorem dX8_near_122 : decode cX8_near 122 = .ok (.iconst 1, 1) := by decide +kernel
theorem dX8_near_123 : decode cX8_near 123 = .ok (.ireturn, 1) := by decide +kernel
set_option maxRecDepth 20000 in
theorem ggX8_together_X8_isTable : GoodIn wsX8_together wsX8_isTable := goodIn_r _ [7] (by decide +kernel) (by decide +kernel)
set_option maxRecDepth 20000 in
theorem gX8_together_X8_isTable : GoodIn wsX8_together (va_wsS RX8 66 yX8_isTable wsX8_isTable) := goodIn_app (goodIn_of _ (by decide +kernel)) ggX8_together_X8_isTable
set_option maxRecDepth 20000 in
theorem ggX8_together_X7_becomeProduct : GoodIn wsX8_together wsX7_becomeProduct := goodIn_r _ [12, 13, 14, 15, 16, 11, 17, 18, 19, 20, 21, 22, 23, 24, 25, 26, 27, 28, 29, 30, 31, 32, 33, 34, 35, 36, 37, 56, 57] (by decide +kernel) (by decide +kernel)
set_option maxRecDepth 20000 in
theorem gX8_together_X7_becomeProduct : GoodIn wsX8_together (wsV RX8 117 RX7 yX7_becomeProduct wsX7_becomeProduct) := goodIn_app (goodIn_of _ (by decide +kernel)) ggX8_together_X7_becomeProduct
set_option maxRecDepth 20000 in
theorem ggX8_together_X7_become : GoodIn wsX8_together wsX7_become := goodIn_r _ [41, 13, 18, 42, 43, 44, 45, 56, 57] (by decide +kernel) (by decide +kernel)
set_option maxRecDepth 20000 in
theorem gX8_together_X7_become : GoodIn wsX8_together (wsV RX8 107 RX7 yX7_become wsX7_become) := goodIn_app (goodIn_of _ (by decide +kernel)) ggX8_together_X7_become
theorem dX8_together_0 : decode cX8_together 0 = .ok (.iload_n 1, 1) := by decide +kernel
theorem dX8_together_1 : decode cX8_together 1 = .ok (.invokestatic 66, 3) := by decide +kernel
theorem dX8_together_4 : decode cX8_together 4 = .ok (.ifCond .eq 17, 3) := by decide +kernel
theorem dX8_together_7 : decode cX8_together 7 = .ok (.iload_n 2, 1) := by decide +kernel
theorem dX8_together_8 : decode cX8_together 8 = .ok (.invokestatic 66, 3) := by decide +kernel
theorem dX8_together_11 : decode cX8_together 11 = .ok (.ifCond .eq 10, 3) := by decide +kernel
theorem dX8_together_14 : decode cX8_together 14 = .ok (.iload_n 3, 1) := by decide +kernel
theorem dX8_together_15 : decode cX8_together 15 = .ok (.invokestatic 66, 3) := by decide +kernel
theorem dX8_together_18 : decode cX8_together 18 = .ok (.ifCond .ne 6, 3) := by decide +kernel
theorem dX8_together_21 : decode cX8_together 21 = .ok (.bipush (-2), 2) := by decide +kernel
theorem dX8_together_23 : decode cX8_together 23 = .ok (.ireturn, 1) := by decide +kernel
theorem dX8_together_24 : decode cX8_together 24 = .ok (.aload_n 0, 1) := by decide +kernel
theorem dX8_together_25 : decode cX8_together 25 = .ok (.getfield 11, 3) := by decide +kernel
theorem dX8_together_28 : decode cX8_together 28 = .ok (.iload_n 1, 1) := by decide +kernel
theorem dX8_together_29 : decode cX8_together 29 = .ok (.aaload, 1) := by decide +kernel
theorem dX8_together_30 : decode cX8_together 30 = .ok (.getfield 111, 3) := by decide +kernel
theorem dX8_together_33 : decode cX8_together 33 = .ok (.aload_n 0, 1) := by decide +kernel
theorem dX8_together_34 : decode cX8_together 34 = .ok (.getfield 11, 3) := by decide +kernel
theorem dX8_together_37 : decode cX8_together 37 = .ok (.iload_n 2, 1) := by decide +kernel
theorem dX8_together_38 : decode cX8_together 38 = .ok (.aaload, 1) := by decide +kernel
theorem dX8_together_39 : decode cX8_together 39 = .ok (.getfield 111, 3) := by decide +kernel
theorem dX8_together_42 : decode cX8_together 42 = .ok (.imul, 1) := by decide +kernel
theorem dX8_together_43 : decode cX8_together 43 = .ok (.iconst 5, 1) := by decide +kernel
theorem dX8_together_44 : decode cX8_together 44 = .ok (.if_icmp .le 6, 3) := by decide +kernel
theorem dX8_together_47 : decode cX8_together 47 = .ok (.bipush (-3), 2) := by decide +kernel
theorem dX8_together_49 : decode cX8_together 49 = .ok (.ireturn, 1) := by decide +kernel
theorem dX8_together_50 : decode cX8_together 50 = .ok (.aload_n 0, 1) := by decide +kernel
theorem dX8_together_51 : decode cX8_together 51 = .ok (.getfield 16, 3) := by decide +kernel
theorem dX8_together_54 : decode cX8_together 54 = .ok (.aload_n 0, 1) := by decide +kernel
theorem dX8_together_55 : decode cX8_together 55 = .ok (.getfield 11, 3) := by decide +kernel
theorem dX8_together_58 : decode cX8_together 58 = .ok (.iload_n 1, 1) := by decide +kernel
theorem dX8_together_59 : decode cX8_together 59 = .ok (.aaload, 1) := by decide +kernel
theorem dX8_together_60 : decode cX8_together 60 = .ok (.aload_n 0, 1) := by decide +kernel
theorem dX8_together_61 : decode cX8_together 61 = .ok (.getfield 11, 3) := by decide +kernel
theorem dX8_together_64 : decode cX8_together 64 = .ok (.iload_n 2, 1) := by decide +kernel
theorem dX8_together_65 : decode cX8_together 65 = .ok (.aaload, 1) := by decide +kernel
theorem dX8_together_66 : decode cX8_together 66 = .ok (.invokevirtual 117, 3) := by decide +kernel
theorem dX8_together_69 : decode cX8_together 69 = .ok (.ifCond .ne 6, 3) := by decide +kernel
theorem dX8_together_72 : decode cX8_together 72 = .ok (.bipush (-3), 2) := by decide +kernel
theorem dX8_together_74 : decode cX8_together 74 = .ok (.ireturn, 1) := by decide +kernel
theorem dX8_together_75 : decode cX8_together 75 = .ok (.aload_n 0, 1) := by decide +kernel
theorem dX8_together_76 : decode cX8_together 76 = .ok (.getfield 11, 3) := by decide +kernel
theorem dX8_together_79 : decode cX8_together 79 = .ok (.iload_n 3, 1) := by decide +kernel
theorem dX8_together_80 : decode cX8_together 80 = .ok (.aaload, 1) := by decide +kernel
theorem dX8_together_81 : decode cX8_together 81 = .ok (.aload_n 0, 1) := by decide +kernel
theorem dX8_together_82 : decode cX8_together 82 = .ok (.getfield 16, 3) := by decide +kernel
theorem dX8_together_85 : decode cX8_together 85 = .ok (.invokevirtual 107, 3) := by decide +kernel
theorem dX8_together_88 : decode cX8_together 88 = .ok (.aload_n 0, 1) := by decide +kernel
theorem dX8_together_89 : decode cX8_together 89 = .ok (.getfield 16, 3) := by decide +kernel
theorem dX8_together_92 : decode cX8_together 92 = .ok (.getfield 111, 3) := by decide +kernel
theorem dX8_together_95 : decode cX8_together 95 = .ok (.ireturn, 1) := by decide +kernel
set_option maxRecDepth 20000 in
theorem ggX8_list_X8_isListed : GoodIn wsX8_list wsX8_isListed := goodIn_r _ [5] (by decide +kernel) (by decide +kernel)
set_option maxRecDepth 20000 in
theorem gX8_list_X8_isListed : GoodIn wsX8_list (va_wsS RX8 121 yX8_isListed wsX8_isListed) := goodIn_app (goodIn_of _ (by decide +kernel)) ggX8_list_X8_isListed
set_option maxRecDepth 20000 in
theorem ggX8_list_X2_howMany : GoodIn wsX8_list wsX2_howMany := goodIn_r _ [10, 11, 12, 13, 14, 15, 16, 17, 9, 18, 19, 20, 21, 22, 23, 24, 25, 26, 27, 28, 29, 30, 31, 32, 33, 34, 35, 36, 37, 38, 39, 40, 41, 42, 43, 44, 45, 46, 47, 48, 49, 50, 51, 52, 53, 54, 55, 56, 57, 58, 59, 60, 61, 62, 63, 64, 65, 66, 67, 68, 69, 70, 71, 72, 73, 74, 75, 76, 77, 78, 79, 80, 81, 82, 83, 84, 85, 86, 87, 88, 99, 100, 101, 102, 103, 104, 105, 106, 107, 108, 109, 110, 111, 112, 113] (by decide +kernel) (by decide +kernel)
set_option maxRecDepth 20000 in
theorem gX8_list_X2_howMany : GoodIn wsX8_list (wsV RX8 125 RX2 yX2_howMany wsX2_howMany) := goodIn_app (goodIn_of _ (by decide +kernel)) ggX8_list_X2_howMany
theorem dX8_list_0 : decode cX8_list 0 = .ok (.iload_n 1, 1) := by decide +kernel
theorem dX8_list_1 : decode cX8_list 1 = .ok (.iload_n 2, 1) := by decide +kernel
theorem dX8_list_2 : decode cX8_list 2 = .ok (.iload_n 3, 1) := by decide +kernel
theorem dX8_list_3 : decode cX8_list 3 = .ok (.invokestatic 121, 3) := by decide +kernel
theorem dX8_list_6 : decode cX8_list 6 = .ok (.ifCond .eq 16, 3) := by decide +kernel
theorem dX8_list_9 : decode cX8_list 9 = .ok (.aload_n 0, 1) := by decide +kernel
theorem dX8_list_10 : decode cX8_list 10 = .ok (.getfield 37, 3) := by decide +kernel
theorem dX8_list_13 : decode cX8_list 13 = .ok (.iload_n 1, 1) := by decide +kernel
theorem dX8_list_14 : decode cX8_list 14 = .ok (.iload_n 2, 1) := by decide +kernel
theorem dX8_list_15 : decode cX8_list 15 = .ok (.iload_n 3, 1) := by decide +kernel
theorem dX8_list_16 : decode cX8_list 16 = .ok (.invokevirtual 125, 3) := by decide +kernel
theorem dX8_list_19 : decode cX8_list 19 = .ok (.goto 5, 3) := by decide +kernel
theorem dX8_list_22 : decode cX8_list 22 = .ok (.bipush (-2), 2) := by decide +kernel
theorem dX8_list_24 : decode cX8_list 24 = .ok (.ireturn, 1) := by decide +kernel
set_option maxRecDepth 20000 in
theorem ggX8_take_X8_isTable : GoodIn wsX8_take wsX8_isTable := goodIn_r _ [6] (by decide +kernel) (by decide +kernel)
set_option maxRecDepth 20000 in
theorem gX8_take_X8_isTable : GoodIn wsX8_take (va_wsS RX8 66 yX8_isTable wsX8_isTable) := goodIn_app (goodIn_of _ (by decide +kernel)) ggX8_take_X8_isTable
set_option maxRecDepth 20000 in
theorem ggX8_take_X8_isListed : GoodIn wsX8_take wsX8_isListed := goodIn_r _ [9] (by decide +kernel) (by decide +kernel)
set_option maxRecDepth 20000 in
theorem gX8_take_X8_isListed : GoodIn wsX8_take (va_wsS RX8 121 yX8_isListed wsX8_isListed) := goodIn_app (goodIn_of _ (by decide +kernel)) ggX8_take_X8_isListed
set_option maxRecDepth 20000 in
theorem ggX8_take_X2_howMany : GoodIn wsX8_take wsX2_howMany := goodIn_r _ [14, 15, 16, 17, 18, 19, 20, 21, 13, 22, 23, 24, 25, 26, 27, 28, 29, 30, 31, 32, 33, 34, 35, 36, 37, 38, 39, 40, 41, 42, 43, 44, 45, 46, 47, 48, 49, 50, 51, 52, 53, 54, 55, 56, 57, 58, 59, 60, 61, 62, 63, 64, 65, 66, 67, 68, 69, 70, 71, 72, 73, 74, 75, 76, 77, 78, 79, 80, 81, 82, 83, 84, 85, 86, 87, 88, 89, 90, 91, 92, 115, 116, 117, 118, 119, 120, 121, 122, 123, 124, 125, 126, 127, 128, 129] (by decide +kernel) (by decide +kernel)
set_option maxRecDepth 20000 in
theorem gX8_take_X2_howMany : GoodIn wsX8_take (wsV RX8 125 RX2 yX2_howMany wsX2_howMany) := goodIn_app (goodIn_of _ (by decide +kernel)) ggX8_take_X2_howMany
set_option maxRecDepth 20000 in
theorem ggX8_take_X2_write : GoodIn wsX8_take wsX2_write := goodIn_r _ [96, 18, 48, 24, 45, 47, 49, 50, 51, 13, 52, 15, 23, 53, 54, 55, 31, 56, 57, 58, 59, 26, 27, 28, 60, 61, 62, 63, 64, 30, 32, 37, 38, 39, 40, 17, 65, 29, 97, 98, 99, 100, 101, 102, 103, 104, 115, 116, 117, 118, 119, 120, 121, 122, 123, 124, 125, 126] (by decide +kernel) (by decide +kernel)
set_option maxRecDepth 20000 in
theorem gX8_take_X2_write : GoodIn wsX8_take (wsV RX8 128 RX2 yX2_write wsX2_write) := goodIn_app (goodIn_of _ (by decide +kernel)) ggX8_take_X2_write
theorem dX8_take_0 : decode cX8_take 0 = .ok (.iload_n 1, 1) := by decide +kernel
theorem dX8_take_1 : decode cX8_take 1 = .ok (.invokestatic 66, 3) := by decide +kernel
theorem dX8_take_4 : decode cX8_take 4 = .ok (.ifCond .eq 18, 3) := by decide +kernel
theorem dX8_take_7 : decode cX8_take 7 = .ok (.iload_n 2, 1) := by decide +kernel
theorem dX8_take_8 : decode cX8_take 8 = .ok (.iload_n 3, 1) := by decide +kernel
theorem dX8_take_9 : decode cX8_take 9 = .ok (.iload 4, 2) := by decide +kernel
theorem dX8_take_11 : decode cX8_take 11 = .ok (.invokestatic 121, 3) := by decide +kernel
theorem dX8_take_14 : decode cX8_take 14 = .ok (.ifCond .eq 8, 3) := by decide +kernel
theorem dX8_take_17 : decode cX8_take 17 = .ok (.iload 5, 2) := by decide +kernel
theorem dX8_take_19 : decode cX8_take 19 = .ok (.ifCond .ge 6, 3) := by decide +kernel
theorem dX8_take_22 : decode cX8_take 22 = .ok (.bipush (-2), 2) := by decide +kernel
theorem dX8_take_24 : decode cX8_take 24 = .ok (.ireturn, 1) := by decide +kernel
theorem dX8_take_25 : decode cX8_take 25 = .ok (.iload 5, 2) := by decide +kernel
theorem dX8_take_27 : decode cX8_take 27 = .ok (.aload_n 0, 1) := by decide +kernel
theorem dX8_take_28 : decode cX8_take 28 = .ok (.getfield 37, 3) := by decide +kernel
theorem dX8_take_31 : decode cX8_take 31 = .ok (.iload_n 2, 1) := by decide +kernel
theorem dX8_take_32 : decode cX8_take 32 = .ok (.iload_n 3, 1) := by decide +kernel
theorem dX8_take_33 : decode cX8_take 33 = .ok (.iload 4, 2) := by decide +kernel
theorem dX8_take_35 : decode cX8_take 35 = .ok (.invokevirtual 125, 3) := by decide +kernel
theorem dX8_take_38 : decode cX8_take 38 = .ok (.if_icmp .lt 6, 3) := by decide +kernel
theorem dX8_take_41 : decode cX8_take 41 = .ok (.bipush (-3), 2) := by decide +kernel
theorem dX8_take_43 : decode cX8_take 43 = .ok (.ireturn, 1) := by decide +kernel
theorem dX8_take_44 : decode cX8_take 44 = .ok (.aload_n 0, 1) := by decide +kernel
theorem dX8_take_45 : decode cX8_take 45 = .ok (.getfield 37, 3) := by decide +kernel
theorem dX8_take_48 : decode cX8_take 48 = .ok (.aload_n 0, 1) := by decide +kernel
theorem dX8_take_49 : decode cX8_take 49 = .ok (.getfield 11, 3) := by decide +kernel
theorem dX8_take_52 : decode cX8_take 52 = .ok (.iload_n 1, 1) := by decide +kernel
theorem dX8_take_53 : decode cX8_take 53 = .ok (.aaload, 1) := by decide +kernel
theorem dX8_take_54 : decode cX8_take 54 = .ok (.iload 5, 2) := by decide +kernel
theorem dX8_take_56 : decode cX8_take 56 = .ok (.invokevirtual 128, 3) := by decide +kernel
theorem dX8_take_59 : decode cX8_take 59 = .ok (.iconst 1, 1) := by decide +kernel
theorem dX8_take_60 : decode cX8_take 60 = .ok (.ireturn, 1) := by decide +kernel
theorem dX8_letter_0 : decode cX8_letter 0 = .ok (.iload_n 1, 1) := by decide +kernel
theorem dX8_letter_1 : decode cX8_letter 1 = .ok (.ifCond .lt 8, 3) := by decide +kernel
theorem dX8_letter_4 : decode cX8_letter 4 = .ok (.iload_n 1, 1) := by decide +kernel
theorem dX8_letter_5 : decode cX8_letter 5 = .ok (.iconst 5, 1) := by decide +kernel
theorem dX8_letter_6 : decode cX8_letter 6 = .ok (.if_icmp .lt 6, 3) := by decide +kernel
theorem dX8_letter_9 : decode cX8_letter 9 = .ok (.bipush (-2), 2) := by decide +kernel
theorem dX8_letter_11 : decode cX8_letter 11 = .ok (.ireturn, 1) := by decide +kernel
theorem dX8_letter_12 : decode cX8_letter 12 = .ok (.aload_n 0, 1) := by decide +kernel
theorem dX8_letter_13 : decode cX8_letter 13 = .ok (.getfield 132, 3) := by decide +kernel
theorem dX8_letter_16 : decode cX8_letter 16 = .ok (.bipush 14, 2) := by decide +kernel
theorem dX8_letter_18 : decode cX8_letter 18 = .ok (.if_icmp .lt 6, 3) := by decide +kernel
theorem dX8_letter_21 : decode cX8_letter 21 = .ok (.bipush (-3), 2) := by decide +kernel
theorem dX8_letter_23 : decode cX8_letter 23 = .ok (.ireturn, 1) := by decide +kernel
theorem dX8_letter_24 : decode cX8_letter 24 = .ok (.aload_n 0, 1) := by decide +kernel
theorem dX8_letter_25 : decode cX8_letter 25 = .ok (.getfield 62, 3) := by decide +kernel
theorem dX8_letter_28 : decode cX8_letter 28 = .ok (.aload_n 0, 1) := by decide +kernel
theorem dX8_letter_29 : decode cX8_letter 29 = .ok (.getfield 132, 3) := by decide +kernel
theorem dX8_letter_32 : decode cX8_letter 32 = .ok (.iload_n 1, 1) := by decide +kernel
theorem dX8_letter_33 : decode cX8_letter 33 = .ok (.iastore, 1) := by decide +kernel
theorem dX8_letter_34 : decode cX8_letter 34 = .ok (.aload_n 0, 1) := by decide +kernel
theorem dX8_letter_35 : decode cX8_letter 35 = .ok (.dup, 1) := by decide +kernel
theorem dX8_letter_36 : decode cX8_letter 36 = .ok (.getfield 132, 3) := by decide +kernel
theorem dX8_letter_39 : decode cX8_letter 39 = .ok (.iconst 1, 1) := by decide +kernel
theorem dX8_letter_40 : decode cX8_letter 40 = .ok (.iadd, 1) := by decide +kernel
theorem dX8_letter_41 : decode cX8_letter 41 = .ok (.putfield 132, 3) := by decide +kernel
theorem dX8_letter_44 : decode cX8_letter 44 = .ok (.aload_n 0, 1) := by decide +kernel
theorem dX8_letter_45 : decode cX8_letter 45 = .ok (.getfield 132, 3) := by decide +kernel
theorem dX8_letter_48 : decode cX8_letter 48 = .ok (.ireturn, 1) := by decide +kernel
theorem dX8_empty_0 : decode cX8_empty 0 = .ok (.aload_n 0, 1) := by decide +kernel
theorem dX8_empty_1 : decode cX8_empty 1 = .ok (.getfield 132, 3) := by decide +kernel
theorem dX8_empty_4 : decode cX8_empty 4 = .ok (.istore_n 1, 1) := by decide +kernel
theorem dX8_empty_5 : decode cX8_empty 5 = .ok (.aload_n 0, 1) := by decide +kernel
theorem dX8_empty_6 : decode cX8_empty 6 = .ok (.iconst 0, 1) := by decide +kernel
theorem dX8_empty_7 : decode cX8_empty 7 = .ok (.putfield 132, 3) := by decide +kernel
theorem dX8_empty_10 : decode cX8_empty 10 = .ok (.iload_n 1, 1) := by decide +kernel
theorem dX8_empty_11 : decode cX8_empty 11 = .ok (.ireturn, 1) := by decide +kernel
set_option maxRecDepth 20000 in
theorem ggX8_fused_X8_isKind : GoodIn wsX8_fused wsX8_isKind := goodIn_r _ [11, 1, 12, 13, 10, 14, 15, 16, 17, 18, 19, 20, 53, 54, 55, 56, 57, 58, 59, 60, 61, 62, 65, 66] (by decide +kernel) (by decide +kernel)
set_option maxRecDepth 20000 in
theorem gX8_fused_X8_isKind : GoodIn wsX8_fused (wsV RX8 97 RX8 yX8_isKind wsX8_isKind) := goodIn_app (goodIn_of _ (by decide +kernel)) ggX8_fused_X8_isKind
set_option maxRecDepth 20000 in
theorem ggX8_fused_X8_hasWord : GoodIn wsX8_fused wsX8_hasWord := goodIn_r _ [24, 4, 5, 15, 16, 17, 18, 19, 20, 53, 54, 55, 56, 57, 58, 59, 60, 61, 62, 65, 66] (by decide +kernel) (by decide +kernel)
set_option maxRecDepth 20000 in
theorem gX8_fused_X8_hasWord : GoodIn wsX8_fused (wsV RX8 135 RX8 yX8_hasWord wsX8_hasWord) := goodIn_app (goodIn_of _ (by decide +kernel)) ggX8_fused_X8_hasWord
set_option maxRecDepth 20000 in
theorem ggX8_fused_X6_begin : GoodIn wsX8_fused wsX6_begin := goodIn_r _ [29, 30, 31, 32, 33, 34, 63, 64] (by decide +kernel) (by decide +kernel)
set_option maxRecDepth 20000 in
theorem gX8_fused_X6_begin : GoodIn wsX8_fused (wsV RX8 140 RX6 yX6_begin wsX6_begin) := goodIn_app (goodIn_of _ (by decide +kernel)) ggX8_fused_X6_begin
set_option maxRecDepth 20000 in
theorem ggX8_fused_X6_fuseWith : GoodIn wsX8_fused wsX6_fuseWith := goodIn_r _ [38, 39, 40, 30, 41, 42, 43, 44, 45, 46, 47, 18, 48, 49, 50, 51, 52, 65, 66, 63, 64] (by decide +kernel) (by decide +kernel)
set_option maxRecDepth 20000 in
theorem gX8_fused_X6_fuseWith : GoodIn wsX8_fused (wsV RX8 143 RX6 yX6_fuseWith wsX6_fuseWith) := goodIn_app (goodIn_of _ (by decide +kernel)) ggX8_fused_X6_fuseWith
theorem dX8_fused_0 : decode cX8_fused 0 = .ok (.aload_n 0, 1) := by decide +kernel
theorem dX8_fused_1 : decode cX8_fused 1 = .ok (.iload_n 1, 1) := by decide +kernel
theorem dX8_fused_2 : decode cX8_fused 2 = .ok (.iload_n 2, 1) := by decide +kernel
theorem dX8_fused_3 : decode cX8_fused 3 = .ok (.invokevirtual 97, 3) := by decide +kernel
theorem dX8_fused_6 : decode cX8_fused 6 = .ok (.ifCond .eq 16, 3) := by decide +kernel
theorem dX8_fused_9 : decode cX8_fused 9 = .ok (.aload_n 0, 1) := by decide +kernel
theorem dX8_fused_10 : decode cX8_fused 10 = .ok (.aload_n 0, 1) := by decide +kernel
theorem dX8_fused_11 : decode cX8_fused 11 = .ok (.getfield 11, 3) := by decide +kernel
theorem dX8_fused_14 : decode cX8_fused 14 = .ok (.iload_n 1, 1) := by decide +kernel
theorem dX8_fused_15 : decode cX8_fused 15 = .ok (.aaload, 1) := by decide +kernel
theorem dX8_fused_16 : decode cX8_fused 16 = .ok (.invokevirtual 135, 3) := by decide +kernel
theorem dX8_fused_19 : decode cX8_fused 19 = .ok (.ifCond .ne 7, 3) := by decide +kernel
theorem dX8_fused_22 : decode cX8_fused 22 = .ok (.ldc2_w 138, 3) := by decide +kernel
theorem dX8_fused_25 : decode cX8_fused 25 = .ok (.lreturn, 1) := by decide +kernel
theorem dX8_fused_26 : decode cX8_fused 26 = .ok (.aload_n 0, 1) := by decide +kernel
theorem dX8_fused_27 : decode cX8_fused 27 = .ok (.getfield 30, 3) := by decide +kernel
theorem dX8_fused_30 : decode cX8_fused 30 = .ok (.iconst 0, 1) := by decide +kernel
theorem dX8_fused_31 : decode cX8_fused 31 = .ok (.invokevirtual 140, 3) := by decide +kernel
theorem dX8_fused_34 : decode cX8_fused 34 = .ok (.iconst 0, 1) := by decide +kernel
theorem dX8_fused_35 : decode cX8_fused 35 = .ok (.istore_n 3, 1) := by decide +kernel
theorem dX8_fused_36 : decode cX8_fused 36 = .ok (.iload_n 3, 1) := by decide +kernel
theorem dX8_fused_37 : decode cX8_fused 37 = .ok (.aload_n 0, 1) := by decide +kernel
theorem dX8_fused_38 : decode cX8_fused 38 = .ok (.getfield 132, 3) := by decide +kernel
theorem dX8_fused_41 : decode cX8_fused 41 = .ok (.if_icmp .ge 28, 3) := by decide +kernel
theorem dX8_fused_44 : decode cX8_fused 44 = .ok (.aload_n 0, 1) := by decide +kernel
theorem dX8_fused_45 : decode cX8_fused 45 = .ok (.getfield 30, 3) := by decide +kernel
theorem dX8_fused_48 : decode cX8_fused 48 = .ok (.aload_n 0, 1) := by decide +kernel
theorem dX8_fused_49 : decode cX8_fused 49 = .ok (.getfield 11, 3) := by decide +kernel
theorem dX8_fused_52 : decode cX8_fused 52 = .ok (.iload_n 1, 1) := by decide +kernel
theorem dX8_fused_53 : decode cX8_fused 53 = .ok (.aaload, 1) := by decide +kernel
theorem dX8_fused_54 : decode cX8_fused 54 = .ok (.aload_n 0, 1) := by decide +kernel
theorem dX8_fused_55 : decode cX8_fused 55 = .ok (.getfield 62, 3) := by decide +kernel
theorem dX8_fused_58 : decode cX8_fused 58 = .ok (.iload_n 3, 1) := by decide +kernel
theorem dX8_fused_59 : decode cX8_fused 59 = .ok (.iaload, 1) := by decide +kernel
theorem dX8_fused_60 : decode cX8_fused 60 = .ok (.invokevirtual 143, 3) := by decide +kernel
theorem dX8_fused_63 : decode cX8_fused 63 = .ok (.iinc 3 1, 3) := by decide +kernel
theorem dX8_fused_66 : decode cX8_fused 66 = .ok (.goto (-30), 3) := by decide +kernel
theorem dX8_fused_69 : decode cX8_fused 69 = .ok (.aload_n 0, 1) := by decide +kernel
theorem dX8_fused_70 : decode cX8_fused 70 = .ok (.getfield 30, 3) := by decide +kernel
theorem dX8_fused_73 : decode cX8_fused 73 = .ok (.getfield 146, 3) := by decide +kernel
theorem dX8_fused_76 : decode cX8_fused 76 = .ok (.iload_n 2, 1) := by decide +kernel
theorem dX8_fused_77 : decode cX8_fused 77 = .ok (.laload, 1) := by decide +kernel
theorem dX8_fused_78 : decode cX8_fused 78 = .ok (.lreturn, 1) := by decide +kernel
set_option maxRecDepth 20000 in
theorem ggX8_ways_X8_isPlace : GoodIn wsX8_ways wsX8_isPlace := goodIn_r _ [9, 3, 10, 11, 12, 8, 13, 14, 15, 16, 17, 18, 19, 20, 21, 22, 51, 52, 53, 54, 55, 56, 57, 58, 59, 60, 63, 64] (by decide +kernel) (by decide +kernel)
set_option maxRecDepth 20000 in
theorem gX8_ways_X8_isPlace : GoodIn wsX8_ways (wsV RX8 74 RX8 yX8_isPlace wsX8_isPlace) := goodIn_app (goodIn_of _ (by decide +kernel)) ggX8_ways_X8_isPlace
set_option maxRecDepth 20000 in
theorem ggX8_ways_X6_begin : GoodIn wsX8_ways wsX6_begin := goodIn_r _ [27, 28, 29, 30, 31, 32, 61, 62] (by decide +kernel) (by decide +kernel)
set_option maxRecDepth 20000 in
theorem gX8_ways_X6_begin : GoodIn wsX8_ways (wsV RX8 140 RX6 yX6_begin wsX6_begin) := goodIn_app (goodIn_of _ (by decide +kernel)) ggX8_ways_X6_begin
set_option maxRecDepth 20000 in
theorem ggX8_ways_X6_fuseWith : GoodIn wsX8_ways wsX6_fuseWith := goodIn_r _ [36, 37, 38, 28, 39, 40, 41, 42, 43, 44, 45, 20, 46, 47, 48, 49, 50, 63, 64, 61, 62] (by decide +kernel) (by decide +kernel)
set_option maxRecDepth 20000 in
theorem gX8_ways_X6_fuseWith : GoodIn wsX8_ways (wsV RX8 143 RX6 yX6_fuseWith wsX6_fuseWith) := goodIn_app (goodIn_of _ (by decide +kernel)) ggX8_ways_X6_fuseWith
theorem dX8_ways_0 : decode cX8_ways 0 = .ok (.aload_n 0, 1) := by decide +kernel
theorem dX8_ways_1 : decode cX8_ways 1 = .ok (.iload_n 1, 1) := by decide +kernel
theorem dX8_ways_2 : decode cX8_ways 2 = .ok (.iload_n 2, 1) := by decide +kernel
theorem dX8_ways_3 : decode cX8_ways 3 = .ok (.iload_n 3, 1) := by decide +kernel
theorem dX8_ways_4 : decode cX8_ways 4 = .ok (.iload 5, 2) := by decide +kernel
theorem dX8_ways_6 : decode cX8_ways 6 = .ok (.invokevirtual 74, 3) := by decide +kernel
theorem dX8_ways_9 : decode cX8_ways 9 = .ok (.ifCond .eq 15, 3) := by decide +kernel
theorem dX8_ways_12 : decode cX8_ways 12 = .ok (.iload 4, 2) := by decide +kernel
theorem dX8_ways_14 : decode cX8_ways 14 = .ok (.ifCond .lt 10, 3) := by decide +kernel
theorem dX8_ways_17 : decode cX8_ways 17 = .ok (.iload 4, 2) := by decide +kernel
theorem dX8_ways_19 : decode cX8_ways 19 = .ok (.bipush 12, 2) := by decide +kernel
theorem dX8_ways_21 : decode cX8_ways 21 = .ok (.if_icmp .le 7, 3) := by decide +kernel
theorem dX8_ways_24 : decode cX8_ways 24 = .ok (.ldc2_w 138, 3) := by decide +kernel
theorem dX8_ways_27 : decode cX8_ways 27 = .ok (.lreturn, 1) := by decide +kernel
theorem dX8_ways_28 : decode cX8_ways 28 = .ok (.aload_n 0, 1) := by decide +kernel
theorem dX8_ways_29 : decode cX8_ways 29 = .ok (.getfield 30, 3) := by decide +kernel
theorem dX8_ways_32 : decode cX8_ways 32 = .ok (.iload_n 2, 1) := by decide +kernel
theorem dX8_ways_33 : decode cX8_ways 33 = .ok (.invokevirtual 140, 3) := by decide +kernel
theorem dX8_ways_36 : decode cX8_ways 36 = .ok (.iconst 0, 1) := by decide +kernel
theorem dX8_ways_37 : decode cX8_ways 37 = .ok (.istore 6, 2) := by decide +kernel
theorem dX8_ways_39 : decode cX8_ways 39 = .ok (.iload 6, 2) := by decide +kernel
theorem dX8_ways_41 : decode cX8_ways 41 = .ok (.iload 4, 2) := by decide +kernel
theorem dX8_ways_43 : decode cX8_ways 43 = .ok (.if_icmp .ge 23, 3) := by decide +kernel
theorem dX8_ways_46 : decode cX8_ways 46 = .ok (.aload_n 0, 1) := by decide +kernel
theorem dX8_ways_47 : decode cX8_ways 47 = .ok (.getfield 30, 3) := by decide +kernel
theorem dX8_ways_50 : decode cX8_ways 50 = .ok (.aload_n 0, 1) := by decide +kernel
theorem dX8_ways_51 : decode cX8_ways 51 = .ok (.getfield 11, 3) := by decide +kernel
theorem dX8_ways_54 : decode cX8_ways 54 = .ok (.iload_n 1, 1) := by decide +kernel
theorem dX8_ways_55 : decode cX8_ways 55 = .ok (.aaload, 1) := by decide +kernel
theorem dX8_ways_56 : decode cX8_ways 56 = .ok (.iload_n 3, 1) := by decide +kernel
theorem dX8_ways_57 : decode cX8_ways 57 = .ok (.invokevirtual 143, 3) := by decide +kernel
theorem dX8_ways_60 : decode cX8_ways 60 = .ok (.iinc 6 1, 3) := by decide +kernel
theorem dX8_ways_63 : decode cX8_ways 63 = .ok (.goto (-24), 3) := by decide +kernel
theorem dX8_ways_66 : decode cX8_ways 66 = .ok (.aload_n 0, 1) := by decide +kernel
theorem dX8_ways_67 : decode cX8_ways 67 = .ok (.getfield 30, 3) := by decide +kernel
theorem dX8_ways_70 : decode cX8_ways 70 = .ok (.getfield 146, 3) := by decide +kernel
theorem dX8_ways_73 : decode cX8_ways 73 = .ok (.iload 5, 2) := by decide +kernel
theorem dX8_ways_75 : decode cX8_ways 75 = .ok (.laload, 1) := by decide +kernel
theorem dX8_ways_76 : decode cX8_ways 76 = .ok (.lreturn, 1) := by decide +kernel
set_option maxRecDepth 20000 in
theorem ggX8_closed_X8_isSet : GoodIn wsX8_closed wsX8_isSet := goodIn_r _ [8, 1, 9, 10, 11, 7, 12, 81, 82, 83, 84, 85, 86, 87, 88, 89, 90, 94, 95] (by decide +kernel) (by decide +kernel)
set_option maxRecDepth 20000 in
theorem gX8_closed_X8_isSet : GoodIn wsX8_closed (wsV RX8 150 RX8 yX8_isSet wsX8_isSet) := goodIn_app (goodIn_of _ (by decide +kernel)) ggX8_closed_X8_isSet
set_option maxRecDepth 20000 in
theorem ggX8_closed_X8_isRight : GoodIn wsX8_closed wsX8_isRight := goodIn_r _ [16, 2, 1, 17, 18, 19, 20, 21, 22, 23, 24, 25, 26, 27, 28, 29, 30, 31, 32, 33, 34, 35, 36, 37, 38, 39, 40, 41, 42, 43, 44, 45, 46, 47, 48, 49, 50, 51, 52, 53, 54, 55, 56, 57, 58, 59, 60, 61, 62, 63, 64, 65, 81, 82, 83, 84, 85, 86, 87, 88, 89, 90, 91, 92, 93, 94, 95] (by decide +kernel) (by decide +kernel)
set_option maxRecDepth 20000 in
theorem gX8_closed_X8_isRight : GoodIn wsX8_closed (wsV RX8 101 RX8 yX8_isRight wsX8_isRight) := goodIn_app (goodIn_of _ (by decide +kernel)) ggX8_closed_X8_isRight
set_option maxRecDepth 20000 in
theorem ggX8_closed_X5_closure : GoodIn wsX8_closed wsX5_closure := goodIn_r _ [69, 70, 71, 72, 68, 73, 74, 75, 76, 77, 78, 79, 80, 34, 35, 36, 37, 38, 39, 40, 41, 94, 95] (by decide +kernel) (by decide +kernel)
set_option maxRecDepth 20000 in
theorem gX8_closed_X5_closure : GoodIn wsX8_closed (va_wsS RX8 153 yX5_closure wsX5_closure) := goodIn_app (goodIn_of _ (by decide +kernel)) ggX8_closed_X5_closure
theorem dX8_closed_0 : decode cX8_closed 0 = .ok (.aload_n 0, 1) := by decide +kernel
theorem dX8_closed_1 : decode cX8_closed 1 = .ok (.iload_n 1, 1) := by decide +kernel
theorem dX8_closed_2 : decode cX8_closed 2 = .ok (.iload_n 2, 1) := by decide +kernel
theorem dX8_closed_3 : decode cX8_closed 3 = .ok (.invokevirtual 150, 3) := by decide +kernel
theorem dX8_closed_6 : decode cX8_closed 6 = .ok (.ifCond .eq 7, 3) := by decide +kernel
theorem dX8_closed_9 : decode cX8_closed 9 = .ok (.iload_n 2, 1) := by decide +kernel
theorem dX8_closed_10 : decode cX8_closed 10 = .ok (.ifCond .ne 6, 3) := by decide +kernel
theorem dX8_closed_13 : decode cX8_closed 13 = .ok (.bipush (-2), 2) := by decide +kernel
theorem dX8_closed_15 : decode cX8_closed 15 = .ok (.ireturn, 1) := by decide +kernel
theorem dX8_closed_16 : decode cX8_closed 16 = .ok (.aload_n 0, 1) := by decide +kernel
theorem dX8_closed_17 : decode cX8_closed 17 = .ok (.iload_n 1, 1) := by decide +kernel
theorem dX8_closed_18 : decode cX8_closed 18 = .ok (.invokevirtual 101, 3) := by decide +kernel
theorem dX8_closed_21 : decode cX8_closed 21 = .ok (.ifCond .ne 6, 3) := by decide +kernel
theorem dX8_closed_24 : decode cX8_closed 24 = .ok (.bipush (-3), 2) := by decide +kernel
theorem dX8_closed_26 : decode cX8_closed 26 = .ok (.ireturn, 1) := by decide +kernel
theorem dX8_closed_27 : decode cX8_closed 27 = .ok (.aload_n 0, 1) := by decide +kernel
theorem dX8_closed_28 : decode cX8_closed 28 = .ok (.getfield 11, 3) := by decide +kernel
theorem dX8_closed_31 : decode cX8_closed 31 = .ok (.iload_n 1, 1) := by decide +kernel
theorem dX8_closed_32 : decode cX8_closed 32 = .ok (.aaload, 1) := by decide +kernel
theorem dX8_closed_33 : decode cX8_closed 33 = .ok (.aload_n 0, 1) := by decide +kernel
theorem dX8_closed_34 : decode cX8_closed 34 = .ok (.getfield 23, 3) := by decide +kernel
theorem dX8_closed_37 : decode cX8_closed 37 = .ok (.getfield 104, 3) := by decide +kernel
theorem dX8_closed_40 : decode cX8_closed 40 = .ok (.iload_n 2, 1) := by decide +kernel
theorem dX8_closed_41 : decode cX8_closed 41 = .ok (.invokestatic 153, 3) := by decide +kernel
theorem dX8_closed_44 : decode cX8_closed 44 = .ok (.iload_n 2, 1) := by decide +kernel
theorem dX8_closed_45 : decode cX8_closed 45 = .ok (.if_icmp .ne 7, 3) := by decide +kernel
theorem dX8_closed_48 : decode cX8_closed 48 = .ok (.iconst 1, 1) := by decide +kernel
theorem dX8_closed_49 : decode cX8_closed 49 = .ok (.goto 4, 3) := by decide +kernel
theorem dX8_closed_52 : decode cX8_closed 52 = .ok (.iconst 0, 1) := by decide +kernel
theorem dX8_closed_53 : decode cX8_closed 53 = .ok (.ireturn, 1) := by decide +kernel
set_option maxRecDepth 20000 in
theorem ggX8_least_X8_isSet : GoodIn wsX8_least wsX8_isSet := goodIn_r _ [8, 1, 9, 10, 11, 7, 12, 81, 82, 83, 84, 85, 86, 87, 88, 89, 90, 94, 95] (by decide +kernel) (by decide +kernel)
set_option maxRecDepth 20000 in
theorem gX8_least_X8_isSet : GoodIn wsX8_least (wsV RX8 150 RX8 yX8_isSet wsX8_isSet) := goodIn_app (goodIn_of _ (by decide +kernel)) ggX8_least_X8_isSet
set_option maxRecDepth 20000 in
theorem ggX8_least_X8_isRight : GoodIn wsX8_least wsX8_isRight := goodIn_r _ [16, 2, 1, 17, 18, 19, 20, 21, 22, 23, 24, 25, 26, 27, 28, 29, 30, 31, 32, 33, 34, 35, 36, 37, 38, 39, 40, 41, 42, 43, 44, 45, 46, 47, 48, 49, 50, 51, 52, 53, 54, 55, 56, 57, 58, 59, 60, 61, 62, 63, 64, 65, 81, 82, 83, 84, 85, 86, 87, 88, 89, 90, 91, 92, 93, 94, 95] (by decide +kernel) (by decide +kernel)
set_option maxRecDepth 20000 in
theorem gX8_least_X8_isRight : GoodIn wsX8_least (wsV RX8 101 RX8 yX8_isRight wsX8_isRight) := goodIn_app (goodIn_of _ (by decide +kernel)) ggX8_least_X8_isRight
set_option maxRecDepth 20000 in
theorem ggX8_least_X5_closure : GoodIn wsX8_least wsX5_closure := goodIn_r _ [69, 70, 71, 72, 68, 73, 74, 75, 76, 77, 78, 79, 80, 34, 35, 36, 37, 38, 39, 40, 41, 94, 95] (by decide +kernel) (by decide +kernel)
set_option maxRecDepth 20000 in
theorem gX8_least_X5_closure : GoodIn wsX8_least (va_wsS RX8 153 yX5_closure wsX5_closure) := goodIn_app (goodIn_of _ (by decide +kernel)) ggX8_least_X5_closure
theorem dX8_least_0 : decode cX8_least 0 = .ok (.aload_n 0, 1) := by decide +kernel
theorem dX8_least_1 : decode cX8_least 1 = .ok (.iload_n 1, 1) := by decide +kernel
theorem dX8_least_2 : decode cX8_least 2 = .ok (.iload_n 2, 1) := by decide +kernel
theorem dX8_least_3 : decode cX8_least 3 = .ok (.invokevirtual 150, 3) := by decide +kernel
theorem dX8_least_6 : decode cX8_least 6 = .ok (.ifCond .ne 6, 3) := by decide +kernel
theorem dX8_least_9 : decode cX8_least 9 = .ok (.bipush (-2), 2) := by decide +kernel
theorem dX8_least_11 : decode cX8_least 11 = .ok (.ireturn, 1) := by decide +kernel
theorem dX8_least_12 : decode cX8_least 12 = .ok (.aload_n 0, 1) := by decide +kernel
theorem dX8_least_13 : decode cX8_least 13 = .ok (.iload_n 1, 1) := by decide +kernel
theorem dX8_least_14 : decode cX8_least 14 = .ok (.invokevirtual 101, 3) := by decide +kernel
theorem dX8_least_17 : decode cX8_least 17 = .ok (.ifCond .eq 23, 3) := by decide +kernel
theorem dX8_least_20 : decode cX8_least 20 = .ok (.aload_n 0, 1) := by decide +kernel
theorem dX8_least_21 : decode cX8_least 21 = .ok (.getfield 11, 3) := by decide +kernel
theorem dX8_least_24 : decode cX8_least 24 = .ok (.iload_n 1, 1) := by decide +kernel
theorem dX8_least_25 : decode cX8_least 25 = .ok (.aaload, 1) := by decide +kernel
theorem dX8_least_26 : decode cX8_least 26 = .ok (.aload_n 0, 1) := by decide +kernel
theorem dX8_least_27 : decode cX8_least 27 = .ok (.getfield 23, 3) := by decide +kernel
theorem dX8_least_30 : decode cX8_least 30 = .ok (.getfield 104, 3) := by decide +kernel
theorem dX8_least_33 : decode cX8_least 33 = .ok (.iload_n 2, 1) := by decide +kernel
theorem dX8_least_34 : decode cX8_least 34 = .ok (.invokestatic 153, 3) := by decide +kernel
theorem dX8_least_37 : decode cX8_least 37 = .ok (.goto 5, 3) := by decide +kernel
theorem dX8_least_40 : decode cX8_least 40 = .ok (.bipush (-3), 2) := by decide +kernel
theorem dX8_least_42 : decode cX8_least 42 = .ok (.ireturn, 1) := by decide +kernel
set_option maxRecDepth 20000 in
theorem ggX8_core_X8_isTable : GoodIn wsX8_core wsX8_isTable := goodIn_r _ [7] (by decide +kernel) (by decide +kernel)
set_option maxRecDepth 20000 in
theorem gX8_core_X8_isTable : GoodIn wsX8_core (va_wsS RX8 66 yX8_isTable wsX8_isTable) := goodIn_app (goodIn_of _ (by decide +kernel)) ggX8_core_X8_isTable
set_option maxRecDepth 20000 in
theorem ggX8_core_X8_isRight : GoodIn wsX8_core wsX8_isRight := goodIn_r _ [11, 2, 1, 12, 13, 14, 15, 16, 17, 18, 19, 20, 21, 22, 23, 24, 25, 26, 27, 28, 29, 30, 31, 32, 33, 34, 35, 36, 37, 38, 39, 40, 41, 42, 43, 44, 45, 46, 47, 48, 49, 50, 51, 52, 53, 54, 55, 56, 57, 58, 59, 60, 79, 80, 81, 82, 83, 84, 85, 86, 87, 88, 89, 90, 91, 92, 93] (by decide +kernel) (by decide +kernel)
set_option maxRecDepth 20000 in
theorem gX8_core_X8_isRight : GoodIn wsX8_core (wsV RX8 101 RX8 yX8_isRight wsX8_isRight) := goodIn_app (goodIn_of _ (by decide +kernel)) ggX8_core_X8_isRight
set_option maxRecDepth 20000 in
theorem ggX8_core_X5_innermost : GoodIn wsX8_core wsX5_innermost := goodIn_r _ [64, 65, 66, 67, 63, 68, 69, 70, 71, 72, 29, 30, 31, 32, 33, 34, 35, 36, 73, 74, 75, 76, 77, 78, 92, 93] (by decide +kernel) (by decide +kernel)
set_option maxRecDepth 20000 in
theorem gX8_core_X5_innermost : GoodIn wsX8_core (va_wsS RX8 159 yX5_innermost wsX5_innermost) := goodIn_app (goodIn_of _ (by decide +kernel)) ggX8_core_X5_innermost
theorem dX8_core_0 : decode cX8_core 0 = .ok (.iload_n 1, 1) := by decide +kernel
theorem dX8_core_1 : decode cX8_core 1 = .ok (.invokestatic 66, 3) := by decide +kernel
theorem dX8_core_4 : decode cX8_core 4 = .ok (.ifCond .ne 6, 3) := by decide +kernel
theorem dX8_core_7 : decode cX8_core 7 = .ok (.bipush (-2), 2) := by decide +kernel
theorem dX8_core_9 : decode cX8_core 9 = .ok (.ireturn, 1) := by decide +kernel
theorem dX8_core_10 : decode cX8_core 10 = .ok (.aload_n 0, 1) := by decide +kernel
theorem dX8_core_11 : decode cX8_core 11 = .ok (.iload_n 1, 1) := by decide +kernel
theorem dX8_core_12 : decode cX8_core 12 = .ok (.invokevirtual 101, 3) := by decide +kernel
theorem dX8_core_15 : decode cX8_core 15 = .ok (.ifCond .eq 22, 3) := by decide +kernel
theorem dX8_core_18 : decode cX8_core 18 = .ok (.aload_n 0, 1) := by decide +kernel
theorem dX8_core_19 : decode cX8_core 19 = .ok (.getfield 11, 3) := by decide +kernel
theorem dX8_core_22 : decode cX8_core 22 = .ok (.iload_n 1, 1) := by decide +kernel
theorem dX8_core_23 : decode cX8_core 23 = .ok (.aaload, 1) := by decide +kernel
theorem dX8_core_24 : decode cX8_core 24 = .ok (.aload_n 0, 1) := by decide +kernel
theorem dX8_core_25 : decode cX8_core 25 = .ok (.getfield 23, 3) := by decide +kernel
theorem dX8_core_28 : decode cX8_core 28 = .ok (.getfield 104, 3) := by decide +kernel
theorem dX8_core_31 : decode cX8_core 31 = .ok (.invokestatic 159, 3) := by decide +kernel
theorem dX8_core_34 : decode cX8_core 34 = .ok (.goto 5, 3) := by decide +kernel
theorem dX8_core_37 : decode cX8_core 37 = .ok (.bipush (-3), 2) := by decide +kernel
theorem dX8_core_39 : decode cX8_core 39 = .ok (.ireturn, 1) := by decide +kernel
set_option maxRecDepth 20000 in
theorem ggX8_grade_X8_isKind : GoodIn wsX8_grade wsX8_isKind := goodIn_r _ [8, 1, 9, 10, 7, 11, 12, 13, 14, 15, 16, 17, 92, 93, 94, 95, 96, 97, 98, 99, 100, 101, 105, 106] (by decide +kernel) (by decide +kernel)
set_option maxRecDepth 20000 in
theorem gX8_grade_X8_isKind : GoodIn wsX8_grade (wsV RX8 97 RX8 yX8_isKind wsX8_isKind) := goodIn_app (goodIn_of _ (by decide +kernel)) ggX8_grade_X8_isKind
set_option maxRecDepth 20000 in
theorem ggX8_grade_X8_isRight : GoodIn wsX8_grade wsX8_isRight := goodIn_r _ [21, 2, 1, 22, 23, 24, 25, 26, 27, 28, 29, 30, 31, 32, 33, 34, 35, 36, 37, 38, 39, 40, 15, 41, 42, 43, 44, 45, 46, 47, 48, 49, 50, 51, 52, 53, 54, 55, 56, 57, 58, 59, 60, 61, 62, 63, 64, 65, 66, 67, 68, 69, 92, 93, 94, 95, 96, 97, 98, 99, 100, 101, 102, 103, 104, 105, 106] (by decide +kernel) (by decide +kernel)
set_option maxRecDepth 20000 in
theorem gX8_grade_X8_isRight : GoodIn wsX8_grade (wsV RX8 101 RX8 yX8_isRight wsX8_isRight) := goodIn_app (goodIn_of _ (by decide +kernel)) ggX8_grade_X8_isRight
set_option maxRecDepth 20000 in
theorem ggX8_grade_X5_innermost : GoodIn wsX8_grade wsX5_innermost := goodIn_r _ [73, 74, 75, 76, 72, 77, 78, 79, 80, 81, 39, 40, 15, 41, 42, 43, 44, 45, 82, 83, 84, 85, 86, 87, 105, 106] (by decide +kernel) (by decide +kernel)
set_option maxRecDepth 20000 in
theorem gX8_grade_X5_innermost : GoodIn wsX8_grade (va_wsS RX8 159 yX5_innermost wsX5_innermost) := goodIn_app (goodIn_of _ (by decide +kernel)) ggX8_grade_X5_innermost
set_option maxRecDepth 20000 in
theorem ggX8_grade_X5_fusedWithAny : GoodIn wsX8_grade wsX5_fusedWithAny := goodIn_r _ [77, 74, 78, 79, 72, 80, 81, 39, 40, 15, 41, 42, 43, 44, 45, 105, 106] (by decide +kernel) (by decide +kernel)
set_option maxRecDepth 20000 in
theorem gX8_grade_X5_fusedWithAny : GoodIn wsX8_grade (va_wsS RX8 163 yX5_fusedWithAny wsX5_fusedWithAny) := goodIn_app (goodIn_of _ (by decide +kernel)) ggX8_grade_X5_fusedWithAny
set_option maxRecDepth 20000 in
theorem ggX8_grade_X5_firstOf : GoodIn wsX8_grade wsX5_firstOf := goodIn_r _ [91, 78, 79, 72, 80] (by decide +kernel) (by decide +kernel)
set_option maxRecDepth 20000 in
theorem gX8_grade_X5_firstOf : GoodIn wsX8_grade (va_wsS RX8 167 yX5_firstOf wsX5_firstOf) := goodIn_app (goodIn_of _ (by decide +kernel)) ggX8_grade_X5_firstOf
theorem dX8_grade_0 : decode cX8_grade 0 = .ok (.aload_n 0, 1) := by decide +kernel
theorem dX8_grade_1 : decode cX8_grade 1 = .ok (.iload_n 1, 1) := by decide +kernel
theorem dX8_grade_2 : decode cX8_grade 2 = .ok (.iload_n 2, 1) := by decide +kernel
theorem dX8_grade_3 : decode cX8_grade 3 = .ok (.invokevirtual 97, 3) := by decide +kernel
theorem dX8_grade_6 : decode cX8_grade 6 = .ok (.ifCond .ne 6, 3) := by decide +kernel
theorem dX8_grade_9 : decode cX8_grade 9 = .ok (.bipush (-2), 2) := by decide +kernel
theorem dX8_grade_11 : decode cX8_grade 11 = .ok (.ireturn, 1) := by decide +kernel
theorem dX8_grade_12 : decode cX8_grade 12 = .ok (.aload_n 0, 1) := by decide +kernel
theorem dX8_grade_13 : decode cX8_grade 13 = .ok (.iload_n 1, 1) := by decide +kernel
theorem dX8_grade_14 : decode cX8_grade 14 = .ok (.invokevirtual 101, 3) := by decide +kernel
theorem dX8_grade_17 : decode cX8_grade 17 = .ok (.ifCond .ne 6, 3) := by decide +kernel
theorem dX8_grade_20 : decode cX8_grade 20 = .ok (.bipush (-3), 2) := by decide +kernel
theorem dX8_grade_22 : decode cX8_grade 22 = .ok (.ireturn, 1) := by decide +kernel
theorem dX8_grade_23 : decode cX8_grade 23 = .ok (.aload_n 0, 1) := by decide +kernel
theorem dX8_grade_24 : decode cX8_grade 24 = .ok (.getfield 11, 3) := by decide +kernel
theorem dX8_grade_27 : decode cX8_grade 27 = .ok (.iload_n 1, 1) := by decide +kernel
theorem dX8_grade_28 : decode cX8_grade 28 = .ok (.aaload, 1) := by decide +kernel
theorem dX8_grade_29 : decode cX8_grade 29 = .ok (.aload_n 0, 1) := by decide +kernel
theorem dX8_grade_30 : decode cX8_grade 30 = .ok (.getfield 23, 3) := by decide +kernel
theorem dX8_grade_33 : decode cX8_grade 33 = .ok (.getfield 104, 3) := by decide +kernel
theorem dX8_grade_36 : decode cX8_grade 36 = .ok (.invokestatic 159, 3) := by decide +kernel
theorem dX8_grade_39 : decode cX8_grade 39 = .ok (.istore_n 3, 1) := by decide +kernel
theorem dX8_grade_40 : decode cX8_grade 40 = .ok (.aload_n 0, 1) := by decide +kernel
theorem dX8_grade_41 : decode cX8_grade 41 = .ok (.getfield 11, 3) := by decide +kernel
theorem dX8_grade_44 : decode cX8_grade 44 = .ok (.iload_n 1, 1) := by decide +kernel
theorem dX8_grade_45 : decode cX8_grade 45 = .ok (.aaload, 1) := by decide +kernel
theorem dX8_grade_46 : decode cX8_grade 46 = .ok (.iload_n 2, 1) := by decide +kernel
theorem dX8_grade_47 : decode cX8_grade 47 = .ok (.iload_n 3, 1) := by decide +kernel
theorem dX8_grade_48 : decode cX8_grade 48 = .ok (.invokestatic 163, 3) := by decide +kernel
theorem dX8_grade_51 : decode cX8_grade 51 = .ok (.invokestatic 167, 3) := by decide +kernel
theorem dX8_grade_54 : decode cX8_grade 54 = .ok (.ireturn, 1) := by decide +kernel
set_option maxRecDepth 20000 in
theorem ggX8_within_X8_isTable : GoodIn wsX8_within wsX8_isTable := goodIn_r _ [7] (by decide +kernel) (by decide +kernel)
set_option maxRecDepth 20000 in
theorem gX8_within_X8_isTable : GoodIn wsX8_within (va_wsS RX8 66 yX8_isTable wsX8_isTable) := goodIn_app (goodIn_of _ (by decide +kernel)) ggX8_within_X8_isTable
set_option maxRecDepth 20000 in
theorem ggX8_within_X8_isRight : GoodIn wsX8_within wsX8_isRight := goodIn_r _ [11, 2, 1, 12, 13, 14, 15, 16, 17, 18, 19, 20, 21, 22, 23, 24, 25, 26, 27, 28, 29, 30, 31, 32, 33, 34, 35, 36, 37, 38, 39, 40, 41, 42, 43, 44, 45, 46, 47, 48, 49, 50, 51, 52, 53, 54, 55, 56, 57, 58, 59, 60, 76, 77, 78, 79, 80, 81, 82, 83, 84, 85, 86, 87, 88, 89, 90] (by decide +kernel) (by decide +kernel)
set_option maxRecDepth 20000 in
theorem gX8_within_X8_isRight : GoodIn wsX8_within (wsV RX8 101 RX8 yX8_isRight wsX8_isRight) := goodIn_app (goodIn_of _ (by decide +kernel)) ggX8_within_X8_isRight
set_option maxRecDepth 20000 in
theorem ggX8_within_X5_countClosed : GoodIn wsX8_within wsX5_countClosed := goodIn_r _ [64, 65, 66, 67, 63, 68, 69, 70, 71, 72, 73, 74, 75, 29, 30, 31, 32, 33, 34, 35, 36, 89, 90] (by decide +kernel) (by decide +kernel)
set_option maxRecDepth 20000 in
theorem gX8_within_X5_countClosed : GoodIn wsX8_within (va_wsS RX8 171 yX5_countClosed wsX5_countClosed) := goodIn_app (goodIn_of _ (by decide +kernel)) ggX8_within_X5_countClosed
theorem dX8_within_0 : decode cX8_within 0 = .ok (.iload_n 1, 1) := by decide +kernel
theorem dX8_within_1 : decode cX8_within 1 = .ok (.invokestatic 66, 3) := by decide +kernel
theorem dX8_within_4 : decode cX8_within 4 = .ok (.ifCond .ne 6, 3) := by decide +kernel
theorem dX8_within_7 : decode cX8_within 7 = .ok (.bipush (-2), 2) := by decide +kernel
theorem dX8_within_9 : decode cX8_within 9 = .ok (.ireturn, 1) := by decide +kernel
theorem dX8_within_10 : decode cX8_within 10 = .ok (.aload_n 0, 1) := by decide +kernel
theorem dX8_within_11 : decode cX8_within 11 = .ok (.iload_n 1, 1) := by decide +kernel
theorem dX8_within_12 : decode cX8_within 12 = .ok (.invokevirtual 101, 3) := by decide +kernel
theorem dX8_within_15 : decode cX8_within 15 = .ok (.ifCond .eq 22, 3) := by decide +kernel
theorem dX8_within_18 : decode cX8_within 18 = .ok (.aload_n 0, 1) := by decide +kernel
theorem dX8_within_19 : decode cX8_within 19 = .ok (.getfield 11, 3) := by decide +kernel
theorem dX8_within_22 : decode cX8_within 22 = .ok (.iload_n 1, 1) := by decide +kernel
theorem dX8_within_23 : decode cX8_within 23 = .ok (.aaload, 1) := by decide +kernel
theorem dX8_within_24 : decode cX8_within 24 = .ok (.aload_n 0, 1) := by decide +kernel
theorem dX8_within_25 : decode cX8_within 25 = .ok (.getfield 23, 3) := by decide +kernel
theorem dX8_within_28 : decode cX8_within 28 = .ok (.getfield 104, 3) := by decide +kernel
theorem dX8_within_31 : decode cX8_within 31 = .ok (.invokestatic 171, 3) := by decide +kernel
theorem dX8_within_34 : decode cX8_within 34 = .ok (.goto 5, 3) := by decide +kernel
theorem dX8_within_37 : decode cX8_within 37 = .ok (.bipush (-3), 2) := by decide +kernel
theorem dX8_within_39 : decode cX8_within 39 = .ok (.ireturn, 1) := by decide +kernel
set_option maxRecDepth 20000 in
theorem ggX8_like_X8_isTable : GoodIn wsX8_like wsX8_isTable := goodIn_r _ [6] (by decide +kernel) (by decide +kernel)
set_option maxRecDepth 20000 in
theorem gX8_like_X8_isTable : GoodIn wsX8_like (va_wsS RX8 66 yX8_isTable wsX8_isTable) := goodIn_app (goodIn_of _ (by decide +kernel)) ggX8_like_X8_isTable
set_option maxRecDepth 20000 in
theorem ggX8_like_X3_count : GoodIn wsX8_like wsX3_count := goodIn_r _ [11, 12, 13, 14, 15, 10, 16, 17, 18, 19, 20, 21, 22, 23, 24, 25, 26, 27, 28, 39, 40, 41] (by decide +kernel) (by decide +kernel)
set_option maxRecDepth 20000 in
theorem gX8_like_X3_count : GoodIn wsX8_like (wsV RX8 174 RX3 yX3_count wsX3_count) := goodIn_app (goodIn_of _ (by decide +kernel)) ggX8_like_X3_count
theorem dX8_like_0 : decode cX8_like 0 = .ok (.iload_n 1, 1) := by decide +kernel
theorem dX8_like_1 : decode cX8_like 1 = .ok (.invokestatic 66, 3) := by decide +kernel
theorem dX8_like_4 : decode cX8_like 4 = .ok (.ifCond .eq 10, 3) := by decide +kernel
theorem dX8_like_7 : decode cX8_like 7 = .ok (.iload_n 2, 1) := by decide +kernel
theorem dX8_like_8 : decode cX8_like 8 = .ok (.invokestatic 66, 3) := by decide +kernel
theorem dX8_like_11 : decode cX8_like 11 = .ok (.ifCond .ne 6, 3) := by decide +kernel
theorem dX8_like_14 : decode cX8_like 14 = .ok (.bipush (-2), 2) := by decide +kernel
theorem dX8_like_16 : decode cX8_like 16 = .ok (.ireturn, 1) := by decide +kernel
theorem dX8_like_17 : decode cX8_like 17 = .ok (.aload_n 0, 1) := by decide +kernel
theorem dX8_like_18 : decode cX8_like 18 = .ok (.getfield 44, 3) := by decide +kernel
theorem dX8_like_21 : decode cX8_like 21 = .ok (.aload_n 0, 1) := by decide +kernel
theorem dX8_like_22 : decode cX8_like 22 = .ok (.getfield 11, 3) := by decide +kernel
theorem dX8_like_25 : decode cX8_like 25 = .ok (.iload_n 1, 1) := by decide +kernel
theorem dX8_like_26 : decode cX8_like 26 = .ok (.aaload, 1) := by decide +kernel
theorem dX8_like_27 : decode cX8_like 27 = .ok (.aload_n 0, 1) := by decide +kernel
theorem dX8_like_28 : decode cX8_like 28 = .ok (.getfield 11, 3) := by decide +kernel
theorem dX8_like_31 : decode cX8_like 31 = .ok (.iload_n 2, 1) := by decide +kernel
theorem dX8_like_32 : decode cX8_like 32 = .ok (.aaload, 1) := by decide +kernel
theorem dX8_like_33 : decode cX8_like 33 = .ok (.invokevirtual 174, 3) := by decide +kernel
theorem dX8_like_36 : decode cX8_like 36 = .ok (.ireturn, 1) := by decide +kernel
set_option maxRecDepth 20000 in
theorem ggX8_maps_X8_isTable : GoodIn wsX8_maps wsX8_isTable := goodIn_r _ [6] (by decide +kernel) (by decide +kernel)
set_option maxRecDepth 20000 in
theorem gX8_maps_X8_isTable : GoodIn wsX8_maps (va_wsS RX8 66 yX8_isTable wsX8_isTable) := goodIn_app (goodIn_of _ (by decide +kernel)) ggX8_maps_X8_isTable
set_option maxRecDepth 20000 in
theorem ggX8_maps_X8_isPrime : GoodIn wsX8_maps wsX8_isPrime := goodIn_r _ [9, 10] (by decide +kernel) (by decide +kernel)
set_option maxRecDepth 20000 in
theorem gX8_maps_X8_isPrime : GoodIn wsX8_maps (va_wsS RX8 178 yX8_isPrime wsX8_isPrime) := goodIn_app (goodIn_of _ (by decide +kernel)) ggX8_maps_X8_isPrime
set_option maxRecDepth 20000 in
theorem ggX8_maps_X8_isRight : GoodIn wsX8_maps wsX8_isRight := goodIn_r _ [14, 15, 2, 16, 17, 18, 19, 20, 21, 22, 23, 24, 25, 26, 27, 28, 29, 30, 31, 32, 33, 34, 35, 36, 37, 38, 39, 40, 41, 42, 43, 44, 45, 46, 47, 48, 49, 50, 51, 52, 53, 54, 55, 56, 57, 58, 59, 60, 61, 62, 63, 64, 91, 92, 93, 94, 95, 96, 97, 98, 99, 100, 101, 102, 103, 104, 105] (by decide +kernel) (by decide +kernel)
set_option maxRecDepth 20000 in
theorem gX8_maps_X8_isRight : GoodIn wsX8_maps (wsV RX8 101 RX8 yX8_isRight wsX8_isRight) := goodIn_app (goodIn_of _ (by decide +kernel)) ggX8_maps_X8_isRight
set_option maxRecDepth 20000 in
theorem ggX8_maps_X4_count : GoodIn wsX8_maps wsX4_count := goodIn_r _ [69, 70, 71, 72, 73, 68, 74, 75, 76, 77, 24, 25, 26, 78, 79, 80, 81, 82, 83, 84, 85, 86, 33, 34, 35, 36, 37, 38, 39, 40, 87, 88, 89, 90, 106, 107, 104, 105] (by decide +kernel) (by decide +kernel)
set_option maxRecDepth 20000 in
theorem gX8_maps_X4_count : GoodIn wsX8_maps (wsV RX8 181 RX4 yX4_count wsX4_count) := goodIn_app (goodIn_of _ (by decide +kernel)) ggX8_maps_X4_count
theorem dX8_maps_0 : decode cX8_maps 0 = .ok (.iload_n 1, 1) := by decide +kernel
theorem dX8_maps_1 : decode cX8_maps 1 = .ok (.invokestatic 66, 3) := by decide +kernel
theorem dX8_maps_4 : decode cX8_maps 4 = .ok (.ifCond .eq 10, 3) := by decide +kernel
theorem dX8_maps_7 : decode cX8_maps 7 = .ok (.iload_n 2, 1) := by decide +kernel
theorem dX8_maps_8 : decode cX8_maps 8 = .ok (.invokestatic 178, 3) := by decide +kernel
theorem dX8_maps_11 : decode cX8_maps 11 = .ok (.ifCond .ne 6, 3) := by decide +kernel
theorem dX8_maps_14 : decode cX8_maps 14 = .ok (.bipush (-2), 2) := by decide +kernel
theorem dX8_maps_16 : decode cX8_maps 16 = .ok (.ireturn, 1) := by decide +kernel
theorem dX8_maps_17 : decode cX8_maps 17 = .ok (.aload_n 0, 1) := by decide +kernel
theorem dX8_maps_18 : decode cX8_maps 18 = .ok (.iload_n 1, 1) := by decide +kernel
theorem dX8_maps_19 : decode cX8_maps 19 = .ok (.invokevirtual 101, 3) := by decide +kernel
theorem dX8_maps_22 : decode cX8_maps 22 = .ok (.ifCond .eq 20, 3) := by decide +kernel
theorem dX8_maps_25 : decode cX8_maps 25 = .ok (.aload_n 0, 1) := by decide +kernel
theorem dX8_maps_26 : decode cX8_maps 26 = .ok (.getfield 51, 3) := by decide +kernel
theorem dX8_maps_29 : decode cX8_maps 29 = .ok (.aload_n 0, 1) := by decide +kernel
theorem dX8_maps_30 : decode cX8_maps 30 = .ok (.getfield 11, 3) := by decide +kernel
theorem dX8_maps_33 : decode cX8_maps 33 = .ok (.iload_n 1, 1) := by decide +kernel
theorem dX8_maps_34 : decode cX8_maps 34 = .ok (.aaload, 1) := by decide +kernel
theorem dX8_maps_35 : decode cX8_maps 35 = .ok (.iload_n 2, 1) := by decide +kernel
theorem dX8_maps_36 : decode cX8_maps 36 = .ok (.invokevirtual 181, 3) := by decide +kernel
theorem dX8_maps_39 : decode cX8_maps 39 = .ok (.goto 5, 3) := by decide +kernel
theorem dX8_maps_42 : decode cX8_maps 42 = .ok (.bipush (-3), 2) := by decide +kernel
theorem dX8_maps_44 : decode cX8_maps 44 = .ok (.ireturn, 1) := by decide +kernel
set_option maxRecDepth 20000 in
theorem ggX8_map_X8_isKind : GoodIn wsX8_map wsX8_isKind := goodIn_r _ [8, 2, 9, 10, 7, 11, 12, 13, 14, 15, 16, 17, 101, 102, 103, 104, 105, 106, 107, 108, 109, 110, 113, 114] (by decide +kernel) (by decide +kernel)
set_option maxRecDepth 20000 in
theorem gX8_map_X8_isKind : GoodIn wsX8_map (wsV RX8 97 RX8 yX8_isKind wsX8_isKind) := goodIn_app (goodIn_of _ (by decide +kernel)) ggX8_map_X8_isKind
set_option maxRecDepth 20000 in
theorem ggX8_map_X8_isPrime : GoodIn wsX8_map wsX8_isPrime := goodIn_r _ [20, 21] (by decide +kernel) (by decide +kernel)
set_option maxRecDepth 20000 in
theorem gX8_map_X8_isPrime : GoodIn wsX8_map (va_wsS RX8 178 yX8_isPrime wsX8_isPrime) := goodIn_app (goodIn_of _ (by decide +kernel)) ggX8_map_X8_isPrime
set_option maxRecDepth 20000 in
theorem ggX8_map_X8_isRight : GoodIn wsX8_map wsX8_isRight := goodIn_r _ [25, 26, 2, 27, 28, 29, 30, 31, 32, 33, 34, 35, 36, 37, 38, 39, 40, 41, 42, 43, 44, 45, 15, 46, 47, 48, 49, 50, 51, 52, 53, 54, 55, 56, 57, 58, 59, 60, 61, 62, 63, 64, 65, 66, 67, 68, 69, 70, 71, 72, 73, 74, 101, 102, 103, 104, 105, 106, 107, 108, 109, 110, 115, 116, 117, 113, 114] (by decide +kernel) (by decide +kernel)
set_option maxRecDepth 20000 in
theorem gX8_map_X8_isRight : GoodIn wsX8_map (wsV RX8 101 RX8 yX8_isRight wsX8_isRight) := goodIn_app (goodIn_of _ (by decide +kernel)) ggX8_map_X8_isRight
set_option maxRecDepth 20000 in
theorem ggX8_map_X4_find : GoodIn wsX8_map wsX4_find := goodIn_r _ [79, 80, 81, 82, 78, 83, 84, 85, 86, 87, 35, 36, 37, 88, 89, 90, 91, 92, 93, 94, 95, 96, 44, 45, 15, 46, 47, 48, 49, 50, 97, 98, 99, 100, 111, 112, 113, 114] (by decide +kernel) (by decide +kernel)
set_option maxRecDepth 20000 in
theorem gX8_map_X4_find : GoodIn wsX8_map (wsV RX8 184 RX4 yX4_find wsX4_find) := goodIn_app (goodIn_of _ (by decide +kernel)) ggX8_map_X4_find
theorem dX8_map_0 : decode cX8_map 0 = .ok (.aload_n 0, 1) := by decide +kernel
theorem dX8_map_1 : decode cX8_map 1 = .ok (.iload_n 1, 1) := by decide +kernel
theorem dX8_map_2 : decode cX8_map 2 = .ok (.iload 4, 2) := by decide +kernel
theorem dX8_map_4 : decode cX8_map 4 = .ok (.invokevirtual 97, 3) := by decide +kernel
theorem dX8_map_7 : decode cX8_map 7 = .ok (.ifCond .eq 14, 3) := by decide +kernel
theorem dX8_map_10 : decode cX8_map 10 = .ok (.iload_n 2, 1) := by decide +kernel
theorem dX8_map_11 : decode cX8_map 11 = .ok (.invokestatic 178, 3) := by decide +kernel
theorem dX8_map_14 : decode cX8_map 14 = .ok (.ifCond .eq 7, 3) := by decide +kernel
theorem dX8_map_17 : decode cX8_map 17 = .ok (.iload_n 3, 1) := by decide +kernel
theorem dX8_map_18 : decode cX8_map 18 = .ok (.ifCond .ge 6, 3) := by decide +kernel
theorem dX8_map_21 : decode cX8_map 21 = .ok (.bipush (-2), 2) := by decide +kernel
theorem dX8_map_23 : decode cX8_map 23 = .ok (.ireturn, 1) := by decide +kernel
theorem dX8_map_24 : decode cX8_map 24 = .ok (.aload_n 0, 1) := by decide +kernel
theorem dX8_map_25 : decode cX8_map 25 = .ok (.iload_n 1, 1) := by decide +kernel
theorem dX8_map_26 : decode cX8_map 26 = .ok (.invokevirtual 101, 3) := by decide +kernel
theorem dX8_map_29 : decode cX8_map 29 = .ok (.ifCond .ne 6, 3) := by decide +kernel
theorem dX8_map_32 : decode cX8_map 32 = .ok (.bipush (-3), 2) := by decide +kernel
theorem dX8_map_34 : decode cX8_map 34 = .ok (.ireturn, 1) := by decide +kernel
theorem dX8_map_35 : decode cX8_map 35 = .ok (.aload_n 0, 1) := by decide +kernel
theorem dX8_map_36 : decode cX8_map 36 = .ok (.getfield 51, 3) := by decide +kernel
theorem dX8_map_39 : decode cX8_map 39 = .ok (.aload_n 0, 1) := by decide +kernel
theorem dX8_map_40 : decode cX8_map 40 = .ok (.getfield 11, 3) := by decide +kernel
theorem dX8_map_43 : decode cX8_map 43 = .ok (.iload_n 1, 1) := by decide +kernel
theorem dX8_map_44 : decode cX8_map 44 = .ok (.aaload, 1) := by decide +kernel
theorem dX8_map_45 : decode cX8_map 45 = .ok (.iload_n 2, 1) := by decide +kernel
theorem dX8_map_46 : decode cX8_map 46 = .ok (.iload_n 3, 1) := by decide +kernel
theorem dX8_map_47 : decode cX8_map 47 = .ok (.invokevirtual 184, 3) := by decide +kernel
theorem dX8_map_50 : decode cX8_map 50 = .ok (.ifCond .eq 16, 3) := by decide +kernel
theorem dX8_map_53 : decode cX8_map 53 = .ok (.aload_n 0, 1) := by decide +kernel
theorem dX8_map_54 : decode cX8_map 54 = .ok (.getfield 51, 3) := by decide +kernel
theorem dX8_map_57 : decode cX8_map 57 = .ok (.getfield 188, 3) := by decide +kernel
theorem dX8_map_60 : decode cX8_map 60 = .ok (.iload 4, 2) := by decide +kernel
theorem dX8_map_62 : decode cX8_map 62 = .ok (.iaload, 1) := by decide +kernel
theorem dX8_map_63 : decode cX8_map 63 = .ok (.goto 4, 3) := by decide +kernel
theorem dX8_map_66 : decode cX8_map 66 = .ok (.iconst (-1), 1) := by decide +kernel
theorem dX8_map_67 : decode cX8_map 67 = .ok (.ireturn, 1) := by decide +kernel
set_option maxRecDepth 20000 in
theorem ggX8_size_X8_isTable : GoodIn wsX8_size wsX8_isTable := goodIn_r _ [6] (by decide +kernel) (by decide +kernel)
set_option maxRecDepth 20000 in
theorem gX8_size_X8_isTable : GoodIn wsX8_size (va_wsS RX8 66 yX8_isTable wsX8_isTable) := goodIn_app (goodIn_of _ (by decide +kernel)) ggX8_size_X8_isTable
set_option maxRecDepth 20000 in
theorem ggX8_size_X8_isRight : GoodIn wsX8_size wsX8_isRight := goodIn_r _ [10, 11, 2, 12, 13, 14, 15, 16, 17, 18, 19, 20, 21, 22, 23, 24, 25, 26, 27, 28, 29, 30, 31, 32, 33, 34, 35, 36, 37, 38, 39, 40, 41, 42, 43, 44, 45, 46, 47, 48, 49, 50, 51, 52, 53, 54, 55, 56, 57, 58, 59, 60, 94, 95, 96, 97, 98, 99, 100, 101, 102, 103, 104, 105, 106, 107, 108] (by decide +kernel) (by decide +kernel)
set_option maxRecDepth 20000 in
theorem gX8_size_X8_isRight : GoodIn wsX8_size (wsV RX8 101 RX8 yX8_isRight wsX8_isRight) := goodIn_app (goodIn_of _ (by decide +kernel)) ggX8_size_X8_isRight
set_option maxRecDepth 20000 in
theorem ggX8_size_X0_tenths : GoodIn wsX8_size wsX0_tenths := goodIn_r _ [65, 66, 67, 68, 69, 64, 70, 71, 72, 29, 30, 31, 32, 33, 34, 35, 36, 73, 74, 75, 76, 77, 78, 79, 80, 81, 82, 83, 84, 85, 86, 87, 88, 89, 90, 91, 92, 93, 107, 108, 109, 110] (by decide +kernel) (by decide +kernel)
set_option maxRecDepth 20000 in
theorem gX8_size_X0_tenths : GoodIn wsX8_size (wsV RX8 191 RX0 yX0_tenths wsX0_tenths) := goodIn_app (goodIn_of _ (by decide +kernel)) ggX8_size_X0_tenths
theorem dX8_size_0 : decode cX8_size 0 = .ok (.iload_n 1, 1) := by decide +kernel
theorem dX8_size_1 : decode cX8_size 1 = .ok (.invokestatic 66, 3) := by decide +kernel
theorem dX8_size_4 : decode cX8_size 4 = .ok (.ifCond .ne 6, 3) := by decide +kernel
theorem dX8_size_7 : decode cX8_size 7 = .ok (.bipush (-2), 2) := by decide +kernel
theorem dX8_size_9 : decode cX8_size 9 = .ok (.ireturn, 1) := by decide +kernel
theorem dX8_size_10 : decode cX8_size 10 = .ok (.aload_n 0, 1) := by decide +kernel
theorem dX8_size_11 : decode cX8_size 11 = .ok (.iload_n 1, 1) := by decide +kernel
theorem dX8_size_12 : decode cX8_size 12 = .ok (.invokevirtual 101, 3) := by decide +kernel
theorem dX8_size_15 : decode cX8_size 15 = .ok (.ifCond .eq 19, 3) := by decide +kernel
theorem dX8_size_18 : decode cX8_size 18 = .ok (.aload_n 0, 1) := by decide +kernel
theorem dX8_size_19 : decode cX8_size 19 = .ok (.getfield 58, 3) := by decide +kernel
theorem dX8_size_22 : decode cX8_size 22 = .ok (.aload_n 0, 1) := by decide +kernel
theorem dX8_size_23 : decode cX8_size 23 = .ok (.getfield 11, 3) := by decide +kernel
theorem dX8_size_26 : decode cX8_size 26 = .ok (.iload_n 1, 1) := by decide +kernel
theorem dX8_size_27 : decode cX8_size 27 = .ok (.aaload, 1) := by decide +kernel
theorem dX8_size_28 : decode cX8_size 28 = .ok (.invokevirtual 191, 3) := by decide +kernel
theorem dX8_size_31 : decode cX8_size 31 = .ok (.goto 5, 3) := by decide +kernel
theorem dX8_size_34 : decode cX8_size 34 = .ok (.bipush (-3), 2) := by decide +kernel
theorem dX8_size_36 : decode cX8_size 36 = .ok (.ireturn, 1) := by decide +kernel
set_option maxRecDepth 20000 in
theorem ggX8_digest_X7_mixInto : GoodIn wsX8_digest wsX7_mixInto := goodIn_r _ [10, 11, 12, 13, 14, 15, 9, 16, 17, 18, 19, 20, 31, 32] (by decide +kernel) (by decide +kernel)
set_option maxRecDepth 20000 in
theorem gX8_digest_X7_mixInto : GoodIn wsX8_digest (wsV RX8 197 RX7 yX7_mixInto wsX7_mixInto) := goodIn_app (goodIn_of _ (by decide +kernel)) ggX8_digest_X7_mixInto
theorem dX8_digest_0 : decode cX8_digest 0 = .ok (.ldc2_w 195, 3) := by decide +kernel
theorem dX8_digest_3 : decode cX8_digest 3 = .ok (.lstore_n 1, 1) := by decide +kernel
theorem dX8_digest_4 : decode cX8_digest 4 = .ok (.iconst 0, 1) := by decide +kernel
theorem dX8_digest_5 : decode cX8_digest 5 = .ok (.istore_n 3, 1) := by decide +kernel
theorem dX8_digest_6 : decode cX8_digest 6 = .ok (.iload_n 3, 1) := by decide +kernel
theorem dX8_digest_7 : decode cX8_digest 7 = .ok (.bipush 6, 2) := by decide +kernel
theorem dX8_digest_9 : decode cX8_digest 9 = .ok (.if_icmp .ge 20, 3) := by decide +kernel
theorem dX8_digest_12 : decode cX8_digest 12 = .ok (.aload_n 0, 1) := by decide +kernel
theorem dX8_digest_13 : decode cX8_digest 13 = .ok (.getfield 11, 3) := by decide +kernel
theorem dX8_digest_16 : decode cX8_digest 16 = .ok (.iload_n 3, 1) := by decide +kernel
theorem dX8_digest_17 : decode cX8_digest 17 = .ok (.aaload, 1) := by decide +kernel
theorem dX8_digest_18 : decode cX8_digest 18 = .ok (.lload_n 1, 1) := by decide +kernel
theorem dX8_digest_19 : decode cX8_digest 19 = .ok (.invokevirtual 197, 3) := by decide +kernel
theorem dX8_digest_22 : decode cX8_digest 22 = .ok (.lstore_n 1, 1) := by decide +kernel
theorem dX8_digest_23 : decode cX8_digest 23 = .ok (.iinc 3 1, 3) := by decide +kernel
theorem dX8_digest_26 : decode cX8_digest 26 = .ok (.goto (-20), 3) := by decide +kernel
theorem dX8_digest_29 : decode cX8_digest 29 = .ok (.ldc2_w 201, 3) := by decide +kernel
theorem dX8_digest_32 : decode cX8_digest 32 = .ok (.lload_n 1, 1) := by decide +kernel
theorem dX8_digest_33 : decode cX8_digest 33 = .ok (.lmul, 1) := by decide +kernel
theorem dX8_digest_34 : decode cX8_digest 34 = .ok (.aload_n 0, 1) := by decide +kernel
theorem dX8_digest_35 : decode cX8_digest 35 = .ok (.getfield 132, 3) := by decide +kernel
theorem dX8_digest_38 : decode cX8_digest 38 = .ok (.i2l, 1) := by decide +kernel
theorem dX8_digest_39 : decode cX8_digest 39 = .ok (.ladd, 1) := by decide +kernel
theorem dX8_digest_40 : decode cX8_digest 40 = .ok (.lstore_n 1, 1) := by decide +kernel
theorem dX8_digest_41 : decode cX8_digest 41 = .ok (.iconst 0, 1) := by decide +kernel
theorem dX8_digest_42 : decode cX8_digest 42 = .ok (.istore_n 3, 1) := by decide +kernel
theorem dX8_digest_43 : decode cX8_digest 43 = .ok (.iload_n 3, 1) := by decide +kernel
theorem dX8_digest_44 : decode cX8_digest 44 = .ok (.aload_n 0, 1) := by decide +kernel
theorem dX8_digest_45 : decode cX8_digest 45 = .ok (.getfield 132, 3) := by decide +kernel
theorem dX8_digest_48 : decode cX8_digest 48 = .ok (.if_icmp .ge 23, 3) := by decide +kernel
theorem dX8_digest_51 : decode cX8_digest 51 = .ok (.ldc2_w 201, 3) := by decide +kernel
theorem dX8_digest_54 : decode cX8_digest 54 = .ok (.lload_n 1, 1) := by decide +kernel
theorem dX8_digest_55 : decode cX8_digest 55 = .ok (.lmul, 1) := by decide +kernel
theorem dX8_digest_56 : decode cX8_digest 56 = .ok (.aload_n 0, 1) := by decide +kernel
theorem dX8_digest_57 : decode cX8_digest 57 = .ok (.getfield 62, 3) := by decide +kernel
theorem dX8_digest_60 : decode cX8_digest 60 = .ok (.iload_n 3, 1) := by decide +kernel
theorem dX8_digest_61 : decode cX8_digest 61 = .ok (.iaload, 1) := by decide +kernel
theorem dX8_digest_62 : decode cX8_digest 62 = .ok (.i2l, 1) := by decide +kernel
theorem dX8_digest_63 : decode cX8_digest 63 = .ok (.ladd, 1) := by decide +kernel
theorem dX8_digest_64 : decode cX8_digest 64 = .ok (.lstore_n 1, 1) := by decide +kernel
theorem dX8_digest_65 : decode cX8_digest 65 = .ok (.iinc 3 1, 3) := by decide +kernel
theorem dX8_digest_68 : decode cX8_digest 68 = .ok (.goto (-25), 3) := by decide +kernel
theorem dX8_digest_71 : decode cX8_digest 71 = .ok (.lload_n 1, 1) := by decide +kernel
theorem dX8_digest_72 : decode cX8_digest 72 = .ok (.lreturn, 1) := by decide +kernel
theorem dX8_isTable_0 : decode cX8_isTable 0 = .ok (.iload_n 0, 1) := by decide +kernel
theorem dX8_isTable_1 : decode cX8_isTable 1 = .ok (.ifCond .lt 13, 3) := by decide +kernel
theorem dX8_isTable_4 : decode cX8_isTable 4 = .ok (.iload_n 0, 1) := by decide +kernel
theorem dX8_isTable_5 : decode cX8_isTable 5 = .ok (.bipush 6, 2) := by decide +kernel
theorem dX8_isTable_7 : decode cX8_isTable 7 = .ok (.if_icmp .ge 7, 3) := by decide +kernel
theorem dX8_isTable_10 : decode cX8_isTable 10 = .ok (.iconst 1, 1) := by decide +kernel
theorem dX8_isTable_11 : decode cX8_isTable 11 = .ok (.goto 4, 3) := by decide +kernel
theorem dX8_isTable_14 : decode cX8_isTable 14 = .ok (.iconst 0, 1) := by decide +kernel
theorem dX8_isTable_15 : decode cX8_isTable 15 = .ok (.ireturn, 1) := by decide +kernel
set_option maxRecDepth 20000 in
theorem ggX8_isKind_X8_isTable : GoodIn wsX8_isKind wsX8_isTable := goodIn_r _ [5] (by decide +kernel) (by decide +kernel)
set_option maxRecDepth 20000 in
theorem gX8_isKind_X8_isTable : GoodIn wsX8_isKind (va_wsS RX8 66 yX8_isTable wsX8_isTable) := goodIn_app (goodIn_of _ (by decide +kernel)) ggX8_isKind_X8_isTable
set_option maxRecDepth 20000 in
theorem ggX8_isKind_X7_has : GoodIn wsX8_isKind wsX7_has := goodIn_r _ [10, 11, 22, 23] (by decide +kernel) (by decide +kernel)
set_option maxRecDepth 20000 in
theorem gX8_isKind_X7_has : GoodIn wsX8_isKind (wsV RX8 203 RX7 yX7_has wsX7_has) := goodIn_app (goodIn_of _ (by decide +kernel)) ggX8_isKind_X7_has
theorem dX8_isKind_0 : decode cX8_isKind 0 = .ok (.iload_n 1, 1) := by decide +kernel
theorem dX8_isKind_1 : decode cX8_isKind 1 = .ok (.invokestatic 66, 3) := by decide +kernel
theorem dX8_isKind_4 : decode cX8_isKind 4 = .ok (.ifCond .eq 20, 3) := by decide +kernel
theorem dX8_isKind_7 : decode cX8_isKind 7 = .ok (.aload_n 0, 1) := by decide +kernel
theorem dX8_isKind_8 : decode cX8_isKind 8 = .ok (.getfield 11, 3) := by decide +kernel
theorem dX8_isKind_11 : decode cX8_isKind 11 = .ok (.iload_n 1, 1) := by decide +kernel
theorem dX8_isKind_12 : decode cX8_isKind 12 = .ok (.aaload, 1) := by decide +kernel
theorem dX8_isKind_13 : decode cX8_isKind 13 = .ok (.iload_n 2, 1) := by decide +kernel
theorem dX8_isKind_14 : decode cX8_isKind 14 = .ok (.invokevirtual 203, 3) := by decide +kernel
theorem dX8_isKind_17 : decode cX8_isKind 17 = .ok (.ifCond .eq 7, 3) := by decide +kernel
theorem dX8_isKind_20 : decode cX8_isKind 20 = .ok (.iconst 1, 1) := by decide +kernel
theorem dX8_isKind_21 : decode cX8_isKind 21 = .ok (.goto 4, 3) := by decide +kernel
theorem dX8_isKind_24 : decode cX8_isKind 24 = .ok (.iconst 0, 1) := by decide +kernel
theorem dX8_isKind_25 : decode cX8_isKind 25 = .ok (.ireturn, 1) := by decide +kernel
set_option maxRecDepth 20000 in
theorem ggX8_isPlace_X8_isKind : GoodIn wsX8_isPlace wsX8_isKind := goodIn_r _ [6, 1, 7, 8, 5, 9, 10, 11, 12, 13, 14, 15, 16, 17, 18, 19, 20, 21, 22, 23, 24, 25, 26, 27] (by decide +kernel) (by decide +kernel)
set_option maxRecDepth 20000 in
theorem gX8_isPlace_X8_isKind : GoodIn wsX8_isPlace (wsV RX8 97 RX8 yX8_isKind wsX8_isKind) := goodIn_app (goodIn_of _ (by decide +kernel)) ggX8_isPlace_X8_isKind
set_option maxRecDepth 20000 in
theorem ggX8_isPlace_X7_has : GoodIn wsX8_isPlace wsX7_has := goodIn_r _ [14, 15, 26, 27] (by decide +kernel) (by decide +kernel)
set_option maxRecDepth 20000 in
theorem gX8_isPlace_X7_has : GoodIn wsX8_isPlace (wsV RX8 203 RX7 yX7_has wsX7_has) := goodIn_app (goodIn_of _ (by decide +kernel)) ggX8_isPlace_X7_has
theorem dX8_isPlace_0 : decode cX8_isPlace 0 = .ok (.aload_n 0, 1) := by decide +kernel
theorem dX8_isPlace_1 : decode cX8_isPlace 1 = .ok (.iload_n 1, 1) := by decide +kernel
theorem dX8_isPlace_2 : decode cX8_isPlace 2 = .ok (.iload_n 2, 1) := by decide +kernel
theorem dX8_isPlace_3 : decode cX8_isPlace 3 = .ok (.invokevirtual 97, 3) := by decide +kernel
theorem dX8_isPlace_6 : decode cX8_isPlace 6 = .ok (.ifCond .eq 34, 3) := by decide +kernel
theorem dX8_isPlace_9 : decode cX8_isPlace 9 = .ok (.aload_n 0, 1) := by decide +kernel
theorem dX8_isPlace_10 : decode cX8_isPlace 10 = .ok (.getfield 11, 3) := by decide +kernel
theorem dX8_isPlace_13 : decode cX8_isPlace 13 = .ok (.iload_n 1, 1) := by decide +kernel
theorem dX8_isPlace_14 : decode cX8_isPlace 14 = .ok (.aaload, 1) := by decide +kernel
theorem dX8_isPlace_15 : decode cX8_isPlace 15 = .ok (.iload_n 3, 1) := by decide +kernel
theorem dX8_isPlace_16 : decode cX8_isPlace 16 = .ok (.invokevirtual 203, 3) := by decide +kernel
theorem dX8_isPlace_19 : decode cX8_isPlace 19 = .ok (.ifCond .eq 21, 3) := by decide +kernel
theorem dX8_isPlace_22 : decode cX8_isPlace 22 = .ok (.aload_n 0, 1) := by decide +kernel
theorem dX8_isPlace_23 : decode cX8_isPlace 23 = .ok (.getfield 11, 3) := by decide +kernel
theorem dX8_isPlace_26 : decode cX8_isPlace 26 = .ok (.iload_n 1, 1) := by decide +kernel
theorem dX8_isPlace_27 : decode cX8_isPlace 27 = .ok (.aaload, 1) := by decide +kernel
theorem dX8_isPlace_28 : decode cX8_isPlace 28 = .ok (.iload 4, 2) := by decide +kernel
theorem dX8_isPlace_30 : decode cX8_isPlace 30 = .ok (.invokevirtual 203, 3) := by decide +kernel
theorem dX8_isPlace_33 : decode cX8_isPlace 33 = .ok (.ifCond .eq 7, 3) := by decide +kernel
theorem dX8_isPlace_36 : decode cX8_isPlace 36 = .ok (.iconst 1, 1) := by decide +kernel
theorem dX8_isPlace_37 : decode cX8_isPlace 37 = .ok (.goto 4, 3) := by decide +kernel
theorem dX8_isPlace_40 : decode cX8_isPlace 40 = .ok (.iconst 0, 1) := by decide +kernel
theorem dX8_isPlace_41 : decode cX8_isPlace 41 = .ok (.ireturn, 1) := by decide +kernel
set_option maxRecDepth 20000 in
theorem ggX8_isSet_X8_isTable : GoodIn wsX8_isSet wsX8_isTable := goodIn_r _ [6] (by decide +kernel) (by decide +kernel)
set_option maxRecDepth 20000 in
theorem gX8_isSet_X8_isTable : GoodIn wsX8_isSet (va_wsS RX8 66 yX8_isTable wsX8_isTable) := goodIn_app (goodIn_of _ (by decide +kernel)) ggX8_isSet_X8_isTable
theorem dX8_isSet_0 : decode cX8_isSet 0 = .ok (.iload_n 1, 1) := by decide +kernel
theorem dX8_isSet_1 : decode cX8_isSet 1 = .ok (.invokestatic 66, 3) := by decide +kernel
theorem dX8_isSet_4 : decode cX8_isSet 4 = .ok (.ifCond .eq 26, 3) := by decide +kernel
theorem dX8_isSet_7 : decode cX8_isSet 7 = .ok (.iload_n 2, 1) := by decide +kernel
theorem dX8_isSet_8 : decode cX8_isSet 8 = .ok (.ifCond .lt 22, 3) := by decide +kernel
theorem dX8_isSet_11 : decode cX8_isSet 11 = .ok (.iload_n 2, 1) := by decide +kernel
theorem dX8_isSet_12 : decode cX8_isSet 12 = .ok (.iconst 1, 1) := by decide +kernel
theorem dX8_isSet_13 : decode cX8_isSet 13 = .ok (.aload_n 0, 1) := by decide +kernel
theorem dX8_isSet_14 : decode cX8_isSet 14 = .ok (.getfield 11, 3) := by decide +kernel
theorem dX8_isSet_17 : decode cX8_isSet 17 = .ok (.iload_n 1, 1) := by decide +kernel
theorem dX8_isSet_18 : decode cX8_isSet 18 = .ok (.aaload, 1) := by decide +kernel
theorem dX8_isSet_19 : decode cX8_isSet 19 = .ok (.getfield 111, 3) := by decide +kernel
theorem dX8_isSet_22 : decode cX8_isSet 22 = .ok (.ishl, 1) := by decide +kernel
theorem dX8_isSet_23 : decode cX8_isSet 23 = .ok (.if_icmp .ge 7, 3) := by decide +kernel
theorem dX8_isSet_26 : decode cX8_isSet 26 = .ok (.iconst 1, 1) := by decide +kernel
theorem dX8_isSet_27 : decode cX8_isSet 27 = .ok (.goto 4, 3) := by decide +kernel
theorem dX8_isSet_30 : decode cX8_isSet 30 = .ok (.iconst 0, 1) := by decide +kernel
theorem dX8_isSet_31 : decode cX8_isSet 31 = .ok (.ireturn, 1) := by decide +kernel
theorem dX8_isListed_0 : decode cX8_isListed 0 = .ok (.iload_n 0, 1) := by decide +kernel
theorem dX8_isListed_1 : decode cX8_isListed 1 = .ok (.iconst 4, 1) := by decide +kernel
theorem dX8_isListed_2 : decode cX8_isListed 2 = .ok (.if_icmp .ne 7, 3) := by decide +kernel
theorem dX8_isListed_5 : decode cX8_isListed 5 = .ok (.iconst 1, 1) := by decide +kernel
theorem dX8_isListed_6 : decode cX8_isListed 6 = .ok (.goto 4, 3) := by decide +kernel
theorem dX8_isListed_9 : decode cX8_isListed 9 = .ok (.iconst 3, 1) := by decide +kernel
theorem dX8_isListed_10 : decode cX8_isListed 10 = .ok (.istore_n 3, 1) := by decide +kernel
theorem dX8_isListed_11 : decode cX8_isListed 11 = .ok (.iload_n 0, 1) := by decide +kernel
theorem dX8_isListed_12 : decode cX8_isListed 12 = .ok (.iconst 2, 1) := by decide +kernel
theorem dX8_isListed_13 : decode cX8_isListed 13 = .ok (.if_icmp .ne 7, 3) := by decide +kernel
theorem dX8_isListed_16 : decode cX8_isListed 16 = .ok (.iconst 0, 1) := by decide +kernel
theorem dX8_isListed_17 : decode cX8_isListed 17 = .ok (.goto 4, 3) := by decide +kernel
theorem dX8_isListed_20 : decode cX8_isListed 20 = .ok (.iconst 1, 1) := by decide +kernel
theorem dX8_isListed_21 : decode cX8_isListed 21 = .ok (.istore 4, 2) := by decide +kernel
theorem dX8_isListed_23 : decode cX8_isListed 23 = .ok (.iload_n 0, 1) := by decide +kernel
theorem dX8_isListed_24 : decode cX8_isListed 24 = .ok (.iconst 2, 1) := by decide +kernel
theorem dX8_isListed_25 : decode cX8_isListed 25 = .ok (.if_icmp .lt 32, 3) := by decide +kernel
theorem dX8_isListed_28 : decode cX8_isListed 28 = .ok (.iload_n 0, 1) := by decide +kernel
theorem dX8_isListed_29 : decode cX8_isListed 29 = .ok (.iconst 4, 1) := by decide +kernel
theorem dX8_isListed_30 : decode cX8_isListed 30 = .ok (.if_icmp .gt 27, 3) := by decide +kernel
theorem dX8_isListed_33 : decode cX8_isListed 33 = .ok (.iload_n 1, 1) := by decide +kernel
theorem dX8_isListed_34 : decode cX8_isListed 34 = .ok (.iconst 1, 1) := by decide +kernel
theorem dX8_isListed_35 : decode cX8_isListed 35 = .ok (.if_icmp .lt 22, 3) := by decide +kernel
theorem dX8_isListed_38 : decode cX8_isListed 38 = .ok (.iload_n 1, 1) := by decide +kernel
theorem dX8_isListed_39 : decode cX8_isListed 39 = .ok (.iload_n 3, 1) := by decide +kernel
theorem dX8_isListed_40 : decode cX8_isListed 40 = .ok (.if_icmp .gt 17, 3) := by decide +kernel
theorem dX8_isListed_43 : decode cX8_isListed 43 = .ok (.iload_n 2, 1) := by decide +kernel
theorem dX8_isListed_44 : decode cX8_isListed 44 = .ok (.ifCond .lt 13, 3) := by decide +kernel
theorem dX8_isListed_47 : decode cX8_isListed 47 = .ok (.iload_n 2, 1) := by decide +kernel
theorem dX8_isListed_48 : decode cX8_isListed 48 = .ok (.iload 4, 2) := by decide +kernel
theorem dX8_isListed_50 : decode cX8_isListed 50 = .ok (.if_icmp .gt 7, 3) := by decide +kernel
theorem dX8_isListed_53 : decode cX8_isListed 53 = .ok (.iconst 1, 1) := by decide +kernel
theorem dX8_isListed_54 : decode cX8_isListed 54 = .ok (.goto 4, 3) := by decide +kernel
theorem dX8_isListed_57 : decode cX8_isListed 57 = .ok (.iconst 0, 1) := by decide +kernel
theorem dX8_isListed_58 : decode cX8_isListed 58 = .ok (.ireturn, 1) := by decide +kernel
theorem dX8_isPrime_0 : decode cX8_isPrime 0 = .ok (.getstatic 206, 3) := by decide +kernel
theorem dX8_isPrime_3 : decode cX8_isPrime 3 = .ok (.astore_n 1, 1) := by decide +kernel
theorem dX8_isPrime_4 : decode cX8_isPrime 4 = .ok (.aload_n 1, 1) := by decide +kernel
theorem dX8_isPrime_5 : decode cX8_isPrime 5 = .ok (.arraylength, 1) := by decide +kernel
theorem dX8_isPrime_6 : decode cX8_isPrime 6 = .ok (.istore_n 2, 1) := by decide +kernel
theorem dX8_isPrime_7 : decode cX8_isPrime 7 = .ok (.iconst 0, 1) := by decide +kernel
theorem dX8_isPrime_8 : decode cX8_isPrime 8 = .ok (.istore_n 3, 1) := by decide +kernel
theorem dX8_isPrime_9 : decode cX8_isPrime 9 = .ok (.iload_n 3, 1) := by decide +kernel
theorem dX8_isPrime_10 : decode cX8_isPrime 10 = .ok (.iload_n 2, 1) := by decide +kernel
theorem dX8_isPrime_11 : decode cX8_isPrime 11 = .ok (.if_icmp .ge 22, 3) := by decide +kernel
theorem dX8_isPrime_14 : decode cX8_isPrime 14 = .ok (.aload_n 1, 1) := by decide +kernel
theorem dX8_isPrime_15 : decode cX8_isPrime 15 = .ok (.iload_n 3, 1) := by decide +kernel
theorem dX8_isPrime_16 : decode cX8_isPrime 16 = .ok (.iaload, 1) := by decide +kernel
theorem dX8_isPrime_17 : decode cX8_isPrime 17 = .ok (.istore 4, 2) := by decide +kernel
theorem dX8_isPrime_19 : decode cX8_isPrime 19 = .ok (.iload 4, 2) := by decide +kernel
theorem dX8_isPrime_21 : decode cX8_isPrime 21 = .ok (.iload_n 0, 1) := by decide +kernel
theorem dX8_isPrime_22 : decode cX8_isPrime 22 = .ok (.if_icmp .ne 5, 3) := by decide +kernel
theorem dX8_isPrime_25 : decode cX8_isPrime 25 = .ok (.iconst 1, 1) := by decide +kernel
theorem dX8_isPrime_26 : decode cX8_isPrime 26 = .ok (.ireturn, 1) := by decide +kernel
theorem dX8_isPrime_27 : decode cX8_isPrime 27 = .ok (.iinc 3 1, 3) := by decide +kernel
theorem dX8_isPrime_30 : decode cX8_isPrime 30 = .ok (.goto (-21), 3) := by decide +kernel
theorem dX8_isPrime_33 : decode cX8_isPrime 33 = .ok (.iconst 0, 1) := by decide +kernel
theorem dX8_isPrime_34 : decode cX8_isPrime 34 = .ok (.ireturn, 1) := by decide +kernel
set_option maxRecDepth 20000 in
theorem ggX8_isRight_X1_allHold : GoodIn wsX8_isRight wsX1_allHold := goodIn_r _ [7, 8, 9, 10, 11, 12, 13, 14, 15, 16, 6, 17, 18, 19, 20, 21, 22, 23, 24, 25, 26, 27, 28, 29, 30, 31, 32, 33, 34, 35, 36, 37, 38, 39, 40, 41, 42, 43, 44, 45, 46, 47, 48, 49, 50, 51, 62, 63, 64, 65, 66] (by decide +kernel) (by decide +kernel)
set_option maxRecDepth 20000 in
theorem gX8_isRight_X1_allHold : GoodIn wsX8_isRight (wsV RX8 86 RX1 yX1_allHold wsX1_allHold) := goodIn_app (goodIn_of _ (by decide +kernel)) ggX8_isRight_X1_allHold
theorem dX8_isRight_0 : decode cX8_isRight 0 = .ok (.aload_n 0, 1) := by decide +kernel
theorem dX8_isRight_1 : decode cX8_isRight 1 = .ok (.getfield 23, 3) := by decide +kernel
theorem dX8_isRight_4 : decode cX8_isRight 4 = .ok (.aload_n 0, 1) := by decide +kernel
theorem dX8_isRight_5 : decode cX8_isRight 5 = .ok (.getfield 11, 3) := by decide +kernel
theorem dX8_isRight_8 : decode cX8_isRight 8 = .ok (.iload_n 1, 1) := by decide +kernel
theorem dX8_isRight_9 : decode cX8_isRight 9 = .ok (.aaload, 1) := by decide +kernel
theorem dX8_isRight_10 : decode cX8_isRight 10 = .ok (.invokevirtual 86, 3) := by decide +kernel
theorem dX8_isRight_13 : decode cX8_isRight 13 = .ok (.ireturn, 1) := by decide +kernel
set_option maxRecDepth 20000 in
theorem ggX8_hasWord_X7_has : GoodIn wsX8_hasWord wsX7_has := goodIn_r _ [7, 8, 19, 20] (by decide +kernel) (by decide +kernel)
set_option maxRecDepth 20000 in
theorem gX8_hasWord_X7_has : GoodIn wsX8_hasWord (wsV RX8 203 RX7 yX7_has wsX7_has) := goodIn_app (goodIn_of _ (by decide +kernel)) ggX8_hasWord_X7_has
theorem dX8_hasWord_0 : decode cX8_hasWord 0 = .ok (.iconst 0, 1) := by decide +kernel
theorem dX8_hasWord_1 : decode cX8_hasWord 1 = .ok (.istore_n 2, 1) := by decide +kernel
theorem dX8_hasWord_2 : decode cX8_hasWord 2 = .ok (.iload_n 2, 1) := by decide +kernel
theorem dX8_hasWord_3 : decode cX8_hasWord 3 = .ok (.aload_n 0, 1) := by decide +kernel
theorem dX8_hasWord_4 : decode cX8_hasWord 4 = .ok (.getfield 132, 3) := by decide +kernel
theorem dX8_hasWord_7 : decode cX8_hasWord 7 = .ok (.if_icmp .ge 24, 3) := by decide +kernel
theorem dX8_hasWord_10 : decode cX8_hasWord 10 = .ok (.aload_n 1, 1) := by decide +kernel
theorem dX8_hasWord_11 : decode cX8_hasWord 11 = .ok (.aload_n 0, 1) := by decide +kernel
theorem dX8_hasWord_12 : decode cX8_hasWord 12 = .ok (.getfield 62, 3) := by decide +kernel
theorem dX8_hasWord_15 : decode cX8_hasWord 15 = .ok (.iload_n 2, 1) := by decide +kernel
theorem dX8_hasWord_16 : decode cX8_hasWord 16 = .ok (.iaload, 1) := by decide +kernel
theorem dX8_hasWord_17 : decode cX8_hasWord 17 = .ok (.invokevirtual 203, 3) := by decide +kernel
theorem dX8_hasWord_20 : decode cX8_hasWord 20 = .ok (.ifCond .ne 5, 3) := by decide +kernel
theorem dX8_hasWord_23 : decode cX8_hasWord 23 = .ok (.iconst 0, 1) := by decide +kernel
theorem dX8_hasWord_24 : decode cX8_hasWord 24 = .ok (.ireturn, 1) := by decide +kernel
theorem dX8_hasWord_25 : decode cX8_hasWord 25 = .ok (.iinc 2 1, 3) := by decide +kernel
theorem dX8_hasWord_28 : decode cX8_hasWord 28 = .ok (.goto (-26), 3) := by decide +kernel
theorem dX8_hasWord_31 : decode cX8_hasWord 31 = .ok (.iconst 1, 1) := by decide +kernel
theorem dX8_hasWord_32 : decode cX8_hasWord 32 = .ok (.ireturn, 1) := by decide +kernel
set_option maxRecDepth 20000 in
theorem ggX9_init_X9_begin : GoodIn wsX9_init wsX9_begin := goodIn_r _ [23, 5, 6, 24, 25, 26, 22, 27, 28, 29, 30, 31, 32, 33, 34, 35, 36, 37, 38, 39, 40, 41, 42] (by decide +kernel) (by decide +kernel)
set_option maxRecDepth 20000 in
theorem gX9_init_X9_begin : GoodIn wsX9_init (wsV RX9 50 RX9 yX9_begin wsX9_begin) := goodIn_app (goodIn_of _ (by decide +kernel)) ggX9_init_X9_begin
theorem dX9_init_0 : decode cX9_init 0 = .ok (.aload_n 0, 1) := by decide +kernel
theorem dX9_init_1 : decode cX9_init 1 = .ok (.invokespecial 1, 3) := by decide +kernel
theorem dX9_init_4 : decode cX9_init 4 = .ok (.aload_n 0, 1) := by decide +kernel
theorem dX9_init_5 : decode cX9_init 5 = .ok (.bipush 7, 2) := by decide +kernel
theorem dX9_init_7 : decode cX9_init 7 = .ok (.newarray .int, 2) := by decide +kernel
theorem dX9_init_9 : decode cX9_init 9 = .ok (.putfield 7, 3) := by decide +kernel
theorem dX9_init_12 : decode cX9_init 12 = .ok (.aload_n 0, 1) := by decide +kernel
theorem dX9_init_13 : decode cX9_init 13 = .ok (.sipush 875, 3) := by decide +kernel
theorem dX9_init_16 : decode cX9_init 16 = .ok (.newarray .int, 2) := by decide +kernel
theorem dX9_init_18 : decode cX9_init 18 = .ok (.putfield 13, 3) := by decide +kernel
theorem dX9_init_21 : decode cX9_init 21 = .ok (.aload_n 0, 1) := by decide +kernel
theorem dX9_init_22 : decode cX9_init 22 = .ok (.iconst 5, 1) := by decide +kernel
theorem dX9_init_23 : decode cX9_init 23 = .ok (.newarray .int, 2) := by decide +kernel
theorem dX9_init_25 : decode cX9_init 25 = .ok (.putfield 16, 3) := by decide +kernel
theorem dX9_init_28 : decode cX9_init 28 = .ok (.aload_n 0, 1) := by decide +kernel
theorem dX9_init_29 : decode cX9_init 29 = .ok (.iconst 5, 1) := by decide +kernel
theorem dX9_init_30 : decode cX9_init 30 = .ok (.newarray .int, 2) := by decide +kernel
theorem dX9_init_32 : decode cX9_init 32 = .ok (.putfield 19, 3) := by decide +kernel
theorem dX9_init_35 : decode cX9_init 35 = .ok (.aload_n 0, 1) := by decide +kernel
theorem dX9_init_36 : decode cX9_init 36 = .ok (.bipush 125, 2) := by decide +kernel
theorem dX9_init_38 : decode cX9_init 38 = .ok (.newarray .int, 2) := by decide +kernel
theorem dX9_init_40 : decode cX9_init 40 = .ok (.putfield 22, 3) := by decide +kernel
theorem dX9_init_43 : decode cX9_init 43 = .ok (.aload_n 0, 1) := by decide +kernel
theorem dX9_init_44 : decode cX9_init 44 = .ok (.bipush 125, 2) := by decide +kernel
theorem dX9_init_46 : decode cX9_init 46 = .ok (.newarray .int, 2) := by decide +kernel
theorem dX9_init_48 : decode cX9_init 48 = .ok (.putfield 25, 3) := by decide +kernel
theorem dX9_init_51 : decode cX9_init 51 = .ok (.aload_n 0, 1) := by decide +kernel
theorem dX9_init_52 : decode cX9_init 52 = .ok (.bipush 14, 2) := by decide +kernel
theorem dX9_init_54 : decode cX9_init 54 = .ok (.newarray .int, 2) := by decide +kernel
theorem dX9_init_56 : decode cX9_init 56 = .ok (.putfield 28, 3) := by decide +kernel
theorem dX9_init_59 : decode cX9_init 59 = .ok (.aload_n 0, 1) := by decide +kernel
theorem dX9_init_60 : decode cX9_init 60 = .ok (.iconst 5, 1) := by decide +kernel
theorem dX9_init_61 : decode cX9_init 61 = .ok (.newarray .long, 2) := by decide +kernel
theorem dX9_init_63 : decode cX9_init 63 = .ok (.putfield 31, 3) := by decide +kernel
theorem dX9_init_66 : decode cX9_init 66 = .ok (.aload_n 0, 1) := by decide +kernel
theorem dX9_init_67 : decode cX9_init 67 = .ok (.iconst 5, 1) := by decide +kernel
theorem dX9_init_68 : decode cX9_init 68 = .ok (.newarray .long, 2) := by decide +kernel
theorem dX9_init_70 : decode cX9_init 70 = .ok (.putfield 35, 3) := by decide +kernel
theorem dX9_init_73 : decode cX9_init 73 = .ok (.aload_n 0, 1) := by decide +kernel
theorem dX9_init_74 : decode cX9_init 74 = .ok (.iconst 5, 1) := by decide +kernel
theorem dX9_init_75 : decode cX9_init 75 = .ok (.newarray .int, 2) := by decide +kernel
theorem dX9_init_77 : decode cX9_init 77 = .ok (.putfield 38, 3) := by decide +kernel
theorem dX9_init_80 : decode cX9_init 80 = .ok (.aload_n 0, 1) := by decide +kernel
theorem dX9_init_81 : decode cX9_init 81 = .ok (.iconst 5, 1) := by decide +kernel
theorem dX9_init_82 : decode cX9_init 82 = .ok (.newarray .int, 2) := by decide +kernel
theorem dX9_init_84 : decode cX9_init 84 = .ok (.putfield 41, 3) := by decide +kernel
theorem dX9_init_87 : decode cX9_init 87 = .ok (.aload_n 0, 1) := by decide +kernel
theorem dX9_init_88 : decode cX9_init 88 = .ok (.bipush 25, 2) := by decide +kernel
theorem dX9_init_90 : decode cX9_init 90 = .ok (.newarray .int, 2) := by decide +kernel
theorem dX9_init_92 : decode cX9_init 92 = .ok (.putfield 44, 3) := by decide +kernel
theorem dX9_init_95 : decode cX9_init 95 = .ok (.aload_n 0, 1) := by decide +kernel
theorem dX9_init_96 : decode cX9_init 96 = .ok (.iconst 5, 1) := by decide +kernel
theorem dX9_init_97 : decode cX9_init 97 = .ok (.newarray .int, 2) := by decide +kernel
theorem dX9_init_99 : decode cX9_init 99 = .ok (.putfield 47, 3) := by decide +kernel
theorem dX9_init_102 : decode cX9_init 102 = .ok (.iconst 0, 1) := by decide +kernel
theorem dX9_init_103 : decode cX9_init 103 = .ok (.istore_n 1, 1) := by decide +kernel
theorem dX9_init_104 : decode cX9_init 104 = .ok (.iload_n 1, 1) := by decide +kernel
theorem dX9_init_105 : decode cX9_init 105 = .ok (.bipush 6, 2) := by decide +kernel
theorem dX9_init_107 : decode cX9_init 107 = .ok (.if_icmp .gt 15, 3) := by decide +kernel
theorem dX9_init_110 : decode cX9_init 110 = .ok (.aload_n 0, 1) := by decide +kernel
theorem dX9_init_111 : decode cX9_init 111 = .ok (.iload_n 1, 1) := by decide +kernel
theorem dX9_init_112 : decode cX9_init 112 = .ok (.iconst 1, 1) := by decide +kernel
theorem dX9_init_113 : decode cX9_init 113 = .ok (.invokevirtual 50, 3) := by decide +kernel
theorem dX9_init_116 : decode cX9_init 116 = .ok (.iinc 1 1, 3) := by decide +kernel
theorem dX9_init_119 : decode cX9_init 119 = .ok (.goto (-15), 3) := by decide +kernel
theorem dX9_init_122 : decode cX9_init 122 = .ok (.return_, 1) := by decide +kernel
theorem dX9_in_0 : decode cX9_in 0 = .ok (.lload_n 0, 1) := by decide +kernel
theorem dX9_in_1 : decode cX9_in 1 = .ok (.lload_n 2, 1) := by decide +kernel
theorem dX9_in_2 : decode cX9_in 2 = .ok (.lcmp, 1) := by decide +kernel
theorem dX9_in_3 : decode cX9_in 3 = .ok (.ifCond .lt 14, 3) := by decide +kernel
theorem dX9_in_6 : decode cX9_in 6 = .ok (.lload_n 0, 1) := by decide +kernel
theorem dX9_in_7 : decode cX9_in 7 = .ok (.lload 4, 2) := by decide +kernel
theorem dX9_in_9 : decode cX9_in 9 = .ok (.lcmp, 1) := by decide +kernel
theorem dX9_in_10 : decode cX9_in 10 = .ok (.ifCond .gt 7, 3) := by decide +kernel
theorem dX9_in_13 : decode cX9_in 13 = .ok (.iconst 1, 1) := by decide +kernel
theorem dX9_in_14 : decode cX9_in 14 = .ok (.goto 4, 3) := by decide +kernel
theorem dX9_in_17 : decode cX9_in 17 = .ok (.iconst 0, 1) := by decide +kernel
theorem dX9_in_18 : decode cX9_in 18 = .ok (.ireturn, 1) := by decide +kernel
theorem dX9_n_0 : decode cX9_n 0 = .ok (.aload_n 0, 1) := by decide +kernel
theorem dX9_n_1 : decode cX9_n 1 = .ok (.getfield 13, 3) := by decide +kernel
theorem dX9_n_4 : decode cX9_n 4 = .ok (.bipush 125, 2) := by decide +kernel
theorem dX9_n_6 : decode cX9_n 6 = .ok (.iload_n 1, 1) := by decide +kernel
theorem dX9_n_7 : decode cX9_n 7 = .ok (.imul, 1) := by decide +kernel
theorem dX9_n_8 : decode cX9_n 8 = .ok (.bipush 25, 2) := by decide +kernel
theorem dX9_n_10 : decode cX9_n 10 = .ok (.iload_n 2, 1) := by decide +kernel
theorem dX9_n_11 : decode cX9_n 11 = .ok (.imul, 1) := by decide +kernel
theorem dX9_n_12 : decode cX9_n 12 = .ok (.iadd, 1) := by decide +kernel
theorem dX9_n_13 : decode cX9_n 13 = .ok (.iconst 5, 1) := by decide +kernel
theorem dX9_n_14 : decode cX9_n 14 = .ok (.iload_n 3, 1) := by decide +kernel
theorem dX9_n_15 : decode cX9_n 15 = .ok (.imul, 1) := by decide +kernel
theorem dX9_n_16 : decode cX9_n 16 = .ok (.iadd, 1) := by decide +kernel
theorem dX9_n_17 : decode cX9_n 17 = .ok (.iload 4, 2) := by decide +kernel
theorem dX9_n_19 : decode cX9_n 19 = .ok (.iadd, 1) := by decide +kernel
theorem dX9_n_20 : decode cX9_n 20 = .ok (.iaload, 1) := by decide +kernel
theorem dX9_n_21 : decode cX9_n 21 = .ok (.ireturn, 1) := by decide +kernel
theorem dX9_lay_0 : decode cX9_lay 0 = .ok (.aload_n 0, 1) := by decide +kernel
theorem dX9_lay_1 : decode cX9_lay 1 = .ok (.getfield 13, 3) := by decide +kernel
theorem dX9_lay_4 : decode cX9_lay 4 = .ok (.bipush 125, 2) := by decide +kernel
theorem dX9_lay_6 : decode cX9_lay 6 = .ok (.iload_n 1, 1) := by decide +kernel
theorem dX9_lay_7 : decode cX9_lay 7 = .ok (.imul, 1) := by decide +kernel
theorem dX9_lay_8 : decode cX9_lay 8 = .ok (.bipush 25, 2) := by decide +kernel
theorem dX9_lay_10 : decode cX9_lay 10 = .ok (.iload_n 2, 1) := by decide +kernel
theorem dX9_lay_11 : decode cX9_lay 11 = .ok (.imul, 1) := by decide +kernel
theorem dX9_lay_12 : decode cX9_lay 12 = .ok (.iadd, 1) := by decide +kernel
theorem dX9_lay_13 : decode cX9_lay 13 = .ok (.iconst 5, 1) := by decide +kernel
theorem dX9_lay_14 : decode cX9_lay 14 = .ok (.iload_n 3, 1) := by decide +kernel
theorem dX9_lay_15 : decode cX9_lay 15 = .ok (.imul, 1) := by decide +kernel
theorem dX9_lay_16 : decode cX9_lay 16 = .ok (.iadd, 1) := by decide +kernel
theorem dX9_lay_17 : decode cX9_lay 17 = .ok (.iload 4, 2) := by decide +kernel
theorem dX9_lay_19 : decode cX9_lay 19 = .ok (.iadd, 1) := by decide +kernel
theorem dX9_lay_20 : decode cX9_lay 20 = .ok (.iload 5, 2) := by decide +kernel
theorem dX9_lay_22 : decode cX9_lay 22 = .ok (.iastore, 1) := by decide +kernel
theorem dX9_lay_23 : decode cX9_lay 23 = .ok (.return_, 1) := by decide +kernel
set_option maxRecDepth 20000 in
theorem ggX9_begin_X9_lay : GoodIn wsX9_begin wsX9_lay := goodIn_r _ [7, 2, 8, 9, 10, 11, 12, 13, 14, 15, 16, 17, 18, 19, 20, 21, 22] (by decide +kernel) (by decide +kernel)
set_option maxRecDepth 20000 in
theorem gX9_begin_X9_lay : GoodIn wsX9_begin (wsV RX9 54 RX9 yX9_lay wsX9_lay) := goodIn_app (goodIn_of _ (by decide +kernel)) ggX9_begin_X9_lay
theorem dX9_begin_0 : decode cX9_begin 0 = .ok (.aload_n 0, 1) := by decide +kernel
theorem dX9_begin_1 : decode cX9_begin 1 = .ok (.getfield 7, 3) := by decide +kernel
theorem dX9_begin_4 : decode cX9_begin 4 = .ok (.iload_n 1, 1) := by decide +kernel
theorem dX9_begin_5 : decode cX9_begin 5 = .ok (.iload_n 2, 1) := by decide +kernel
theorem dX9_begin_6 : decode cX9_begin 6 = .ok (.iastore, 1) := by decide +kernel
theorem dX9_begin_7 : decode cX9_begin 7 = .ok (.iconst 0, 1) := by decide +kernel
theorem dX9_begin_8 : decode cX9_begin 8 = .ok (.istore_n 3, 1) := by decide +kernel
theorem dX9_begin_9 : decode cX9_begin 9 = .ok (.iload_n 3, 1) := by decide +kernel
theorem dX9_begin_10 : decode cX9_begin 10 = .ok (.bipush 125, 2) := by decide +kernel
theorem dX9_begin_12 : decode cX9_begin 12 = .ok (.if_icmp .ge 21, 3) := by decide +kernel
theorem dX9_begin_15 : decode cX9_begin 15 = .ok (.aload_n 0, 1) := by decide +kernel
theorem dX9_begin_16 : decode cX9_begin 16 = .ok (.getfield 13, 3) := by decide +kernel
theorem dX9_begin_19 : decode cX9_begin 19 = .ok (.bipush 125, 2) := by decide +kernel
theorem dX9_begin_21 : decode cX9_begin 21 = .ok (.iload_n 1, 1) := by decide +kernel
theorem dX9_begin_22 : decode cX9_begin 22 = .ok (.imul, 1) := by decide +kernel
theorem dX9_begin_23 : decode cX9_begin 23 = .ok (.iload_n 3, 1) := by decide +kernel
theorem dX9_begin_24 : decode cX9_begin 24 = .ok (.iadd, 1) := by decide +kernel
theorem dX9_begin_25 : decode cX9_begin 25 = .ok (.iconst 0, 1) := by decide +kernel
theorem dX9_begin_26 : decode cX9_begin 26 = .ok (.iastore, 1) := by decide +kernel
theorem dX9_begin_27 : decode cX9_begin 27 = .ok (.iinc 3 1, 3) := by decide +kernel
theorem dX9_begin_30 : decode cX9_begin 30 = .ok (.goto (-21), 3) := by decide +kernel
theorem dX9_begin_33 : decode cX9_begin 33 = .ok (.iconst 0, 1) := by decide +kernel
theorem dX9_begin_34 : decode cX9_begin 34 = .ok (.istore_n 3, 1) := by decide +kernel
theorem dX9_begin_35 : decode cX9_begin 35 = .ok (.iload_n 3, 1) := by decide +kernel
theorem dX9_begin_36 : decode cX9_begin 36 = .ok (.iload_n 2, 1) := by decide +kernel
theorem dX9_begin_37 : decode cX9_begin 37 = .ok (.if_icmp .ge 27, 3) := by decide +kernel
theorem dX9_begin_40 : decode cX9_begin 40 = .ok (.aload_n 0, 1) := by decide +kernel
theorem dX9_begin_41 : decode cX9_begin 41 = .ok (.iload_n 1, 1) := by decide +kernel
theorem dX9_begin_42 : decode cX9_begin 42 = .ok (.iconst 0, 1) := by decide +kernel
theorem dX9_begin_43 : decode cX9_begin 43 = .ok (.iload_n 3, 1) := by decide +kernel
theorem dX9_begin_44 : decode cX9_begin 44 = .ok (.iload_n 3, 1) := by decide +kernel
theorem dX9_begin_45 : decode cX9_begin 45 = .ok (.iconst 1, 1) := by decide +kernel
theorem dX9_begin_46 : decode cX9_begin 46 = .ok (.invokevirtual 54, 3) := by decide +kernel
theorem dX9_begin_49 : decode cX9_begin 49 = .ok (.aload_n 0, 1) := by decide +kernel
theorem dX9_begin_50 : decode cX9_begin 50 = .ok (.iload_n 1, 1) := by decide +kernel
theorem dX9_begin_51 : decode cX9_begin 51 = .ok (.iload_n 3, 1) := by decide +kernel
theorem dX9_begin_52 : decode cX9_begin 52 = .ok (.iconst 0, 1) := by decide +kernel
theorem dX9_begin_53 : decode cX9_begin 53 = .ok (.iload_n 3, 1) := by decide +kernel
theorem dX9_begin_54 : decode cX9_begin 54 = .ok (.iconst 1, 1) := by decide +kernel
theorem dX9_begin_55 : decode cX9_begin 55 = .ok (.invokevirtual 54, 3) := by decide +kernel
theorem dX9_begin_58 : decode cX9_begin 58 = .ok (.iinc 3 1, 3) := by decide +kernel
theorem dX9_begin_61 : decode cX9_begin 61 = .ok (.goto (-26), 3) := by decide +kernel
theorem dX9_begin_64 : decode cX9_begin 64 = .ok (.return_, 1) := by decide +kernel
theorem dX9_carry_0 : decode cX9_carry 0 = .ok (.aload_n 0, 1) := by decide +kernel
theorem dX9_carry_1 : decode cX9_carry 1 = .ok (.getfield 7, 3) := by decide +kernel
theorem dX9_carry_4 : decode cX9_carry 4 = .ok (.iload_n 2, 1) := by decide +kernel
theorem dX9_carry_5 : decode cX9_carry 5 = .ok (.aload_n 0, 1) := by decide +kernel
theorem dX9_carry_6 : decode cX9_carry 6 = .ok (.getfield 7, 3) := by decide +kernel
theorem dX9_carry_9 : decode cX9_carry 9 = .ok (.iload_n 1, 1) := by decide +kernel
theorem dX9_carry_10 : decode cX9_carry 10 = .ok (.iaload, 1) := by decide +kernel
theorem dX9_carry_11 : decode cX9_carry 11 = .ok (.iastore, 1) := by decide +kernel
theorem dX9_carry_12 : decode cX9_carry 12 = .ok (.iconst 0, 1) := by decide +kernel
theorem dX9_carry_13 : decode cX9_carry 13 = .ok (.istore_n 3, 1) := by decide +kernel
theorem dX9_carry_14 : decode cX9_carry 14 = .ok (.iload_n 3, 1) := by decide +kernel
theorem dX9_carry_15 : decode cX9_carry 15 = .ok (.bipush 125, 2) := by decide +kernel
theorem dX9_carry_17 : decode cX9_carry 17 = .ok (.if_icmp .ge 31, 3) := by decide +kernel
theorem dX9_carry_20 : decode cX9_carry 20 = .ok (.aload_n 0, 1) := by decide +kernel
theorem dX9_carry_21 : decode cX9_carry 21 = .ok (.getfield 13, 3) := by decide +kernel
theorem dX9_carry_24 : decode cX9_carry 24 = .ok (.bipush 125, 2) := by decide +kernel
theorem dX9_carry_26 : decode cX9_carry 26 = .ok (.iload_n 2, 1) := by decide +kernel
theorem dX9_carry_27 : decode cX9_carry 27 = .ok (.imul, 1) := by decide +kernel
theorem dX9_carry_28 : decode cX9_carry 28 = .ok (.iload_n 3, 1) := by decide +kernel
theorem dX9_carry_29 : decode cX9_carry 29 = .ok (.iadd, 1) := by decide +kernel
theorem dX9_carry_30 : decode cX9_carry 30 = .ok (.aload_n 0, 1) := by decide +kernel
theorem dX9_carry_31 : decode cX9_carry 31 = .ok (.getfield 13, 3) := by decide +kernel
theorem dX9_carry_34 : decode cX9_carry 34 = .ok (.bipush 125, 2) := by decide +kernel
theorem dX9_carry_36 : decode cX9_carry 36 = .ok (.iload_n 1, 1) := by decide +kernel
theorem dX9_carry_37 : decode cX9_carry 37 = .ok (.imul, 1) := by decide +kernel
theorem dX9_carry_38 : decode cX9_carry 38 = .ok (.iload_n 3, 1) := by decide +kernel
theorem dX9_carry_39 : decode cX9_carry 39 = .ok (.iadd, 1) := by decide +kernel
theorem dX9_carry_40 : decode cX9_carry 40 = .ok (.iaload, 1) := by decide +kernel
theorem dX9_carry_41 : decode cX9_carry 41 = .ok (.iastore, 1) := by decide +kernel
theorem dX9_carry_42 : decode cX9_carry 42 = .ok (.iinc 3 1, 3) := by decide +kernel
theorem dX9_carry_45 : decode cX9_carry 45 = .ok (.goto (-31), 3) := by decide +kernel
theorem dX9_carry_48 : decode cX9_carry 48 = .ok (.return_, 1) := by decide +kernel
set_option maxRecDepth 20000 in
theorem ggX9_noTable_X9_in : GoodIn wsX9_noTable wsX9_in := goodIn_r _ [5] (by decide +kernel) (by decide +kernel)
set_option maxRecDepth 20000 in
theorem gX9_noTable_X9_in : GoodIn wsX9_noTable (va_wsS RX9 60 yX9_in wsX9_in) := goodIn_app (goodIn_of _ (by decide +kernel)) ggX9_noTable_X9_in
theorem dX9_noTable_0 : decode cX9_noTable 0 = .ok (.iload_n 0, 1) := by decide +kernel
theorem dX9_noTable_1 : decode cX9_noTable 1 = .ok (.i2l, 1) := by decide +kernel
theorem dX9_noTable_2 : decode cX9_noTable 2 = .ok (.lconst 0, 1) := by decide +kernel
theorem dX9_noTable_3 : decode cX9_noTable 3 = .ok (.ldc2_w 58, 3) := by decide +kernel
theorem dX9_noTable_6 : decode cX9_noTable 6 = .ok (.invokestatic 60, 3) := by decide +kernel
theorem dX9_noTable_9 : decode cX9_noTable 9 = .ok (.ifCond .ne 7, 3) := by decide +kernel
theorem dX9_noTable_12 : decode cX9_noTable 12 = .ok (.iconst 1, 1) := by decide +kernel
theorem dX9_noTable_13 : decode cX9_noTable 13 = .ok (.goto 4, 3) := by decide +kernel
theorem dX9_noTable_16 : decode cX9_noTable 16 = .ok (.iconst 0, 1) := by decide +kernel
theorem dX9_noTable_17 : decode cX9_noTable 17 = .ok (.ireturn, 1) := by decide +kernel
set_option maxRecDepth 20000 in
theorem ggX9_isKind_X9_in : GoodIn wsX9_isKind wsX9_in := goodIn_r _ [5] (by decide +kernel) (by decide +kernel)
set_option maxRecDepth 20000 in
theorem gX9_isKind_X9_in : GoodIn wsX9_isKind (va_wsS RX9 60 yX9_in wsX9_in) := goodIn_app (goodIn_of _ (by decide +kernel)) ggX9_isKind_X9_in
theorem dX9_isKind_0 : decode cX9_isKind 0 = .ok (.iload_n 2, 1) := by decide +kernel
theorem dX9_isKind_1 : decode cX9_isKind 1 = .ok (.i2l, 1) := by decide +kernel
theorem dX9_isKind_2 : decode cX9_isKind 2 = .ok (.lconst 0, 1) := by decide +kernel
theorem dX9_isKind_3 : decode cX9_isKind 3 = .ok (.aload_n 0, 1) := by decide +kernel
theorem dX9_isKind_4 : decode cX9_isKind 4 = .ok (.getfield 7, 3) := by decide +kernel
theorem dX9_isKind_7 : decode cX9_isKind 7 = .ok (.iload_n 1, 1) := by decide +kernel
theorem dX9_isKind_8 : decode cX9_isKind 8 = .ok (.iaload, 1) := by decide +kernel
theorem dX9_isKind_9 : decode cX9_isKind 9 = .ok (.iconst 1, 1) := by decide +kernel
theorem dX9_isKind_10 : decode cX9_isKind 10 = .ok (.isub, 1) := by decide +kernel
theorem dX9_isKind_11 : decode cX9_isKind 11 = .ok (.i2l, 1) := by decide +kernel
theorem dX9_isKind_12 : decode cX9_isKind 12 = .ok (.invokestatic 60, 3) := by decide +kernel
theorem dX9_isKind_15 : decode cX9_isKind 15 = .ok (.ireturn, 1) := by decide +kernel
set_option maxRecDepth 20000 in
theorem ggX9_rank_X9_noTable : GoodIn wsX9_rank wsX9_noTable := goodIn_r _ [5, 1, 6, 7, 4, 8] (by decide +kernel) (by decide +kernel)
set_option maxRecDepth 20000 in
theorem gX9_rank_X9_noTable : GoodIn wsX9_rank (va_wsS RX9 64 yX9_noTable wsX9_noTable) := goodIn_app (goodIn_of _ (by decide +kernel)) ggX9_rank_X9_noTable
set_option maxRecDepth 20000 in
theorem ggX9_rank_X9_in : GoodIn wsX9_rank wsX9_in := goodIn_r _ [8] (by decide +kernel) (by decide +kernel)
set_option maxRecDepth 20000 in
theorem gX9_rank_X9_in : GoodIn wsX9_rank (va_wsS RX9 60 yX9_in wsX9_in) := goodIn_app (goodIn_of _ (by decide +kernel)) ggX9_rank_X9_in
set_option maxRecDepth 20000 in
theorem ggX9_rank_X9_begin : GoodIn wsX9_rank wsX9_begin := goodIn_r _ [12, 13, 14, 15, 16, 17, 4, 18, 19, 20, 21, 22, 23, 24, 25, 26, 27, 28, 29, 30, 31, 32, 33] (by decide +kernel) (by decide +kernel)
set_option maxRecDepth 20000 in
theorem gX9_rank_X9_begin : GoodIn wsX9_rank (wsV RX9 50 RX9 yX9_begin wsX9_begin) := goodIn_app (goodIn_of _ (by decide +kernel)) ggX9_rank_X9_begin
theorem dX9_rank_0 : decode cX9_rank 0 = .ok (.iload_n 1, 1) := by decide +kernel
theorem dX9_rank_1 : decode cX9_rank 1 = .ok (.invokestatic 64, 3) := by decide +kernel
theorem dX9_rank_4 : decode cX9_rank 4 = .ok (.ifCond .ne 15, 3) := by decide +kernel
theorem dX9_rank_7 : decode cX9_rank 7 = .ok (.iload_n 2, 1) := by decide +kernel
theorem dX9_rank_8 : decode cX9_rank 8 = .ok (.i2l, 1) := by decide +kernel
theorem dX9_rank_9 : decode cX9_rank 9 = .ok (.lconst 1, 1) := by decide +kernel
theorem dX9_rank_10 : decode cX9_rank 10 = .ok (.ldc2_w 58, 3) := by decide +kernel
theorem dX9_rank_13 : decode cX9_rank 13 = .ok (.invokestatic 60, 3) := by decide +kernel
theorem dX9_rank_16 : decode cX9_rank 16 = .ok (.ifCond .ne 6, 3) := by decide +kernel
theorem dX9_rank_19 : decode cX9_rank 19 = .ok (.bipush (-2), 2) := by decide +kernel
theorem dX9_rank_21 : decode cX9_rank 21 = .ok (.ireturn, 1) := by decide +kernel
theorem dX9_rank_22 : decode cX9_rank 22 = .ok (.aload_n 0, 1) := by decide +kernel
theorem dX9_rank_23 : decode cX9_rank 23 = .ok (.iload_n 1, 1) := by decide +kernel
theorem dX9_rank_24 : decode cX9_rank 24 = .ok (.iload_n 2, 1) := by decide +kernel
theorem dX9_rank_25 : decode cX9_rank 25 = .ok (.invokevirtual 50, 3) := by decide +kernel
theorem dX9_rank_28 : decode cX9_rank 28 = .ok (.iconst 1, 1) := by decide +kernel
theorem dX9_rank_29 : decode cX9_rank 29 = .ok (.ireturn, 1) := by decide +kernel
set_option maxRecDepth 20000 in
theorem ggX9_put_X9_noTable : GoodIn wsX9_put wsX9_noTable := goodIn_r _ [5, 6, 7, 8, 4, 9] (by decide +kernel) (by decide +kernel)
set_option maxRecDepth 20000 in
theorem gX9_put_X9_noTable : GoodIn wsX9_put (va_wsS RX9 64 yX9_noTable wsX9_noTable) := goodIn_app (goodIn_of _ (by decide +kernel)) ggX9_put_X9_noTable
set_option maxRecDepth 20000 in
theorem ggX9_put_X9_isKind : GoodIn wsX9_put wsX9_isKind := goodIn_r _ [13, 14, 7, 8, 4, 9, 24, 25, 26, 27, 28, 29, 30, 31, 32, 33, 34, 35, 36, 37, 38] (by decide +kernel) (by decide +kernel)
set_option maxRecDepth 20000 in
theorem gX9_put_X9_isKind : GoodIn wsX9_put (wsV RX9 68 RX9 yX9_isKind wsX9_isKind) := goodIn_app (goodIn_of _ (by decide +kernel)) ggX9_put_X9_isKind
set_option maxRecDepth 20000 in
theorem ggX9_put_X9_in : GoodIn wsX9_put wsX9_in := goodIn_r _ [9] (by decide +kernel) (by decide +kernel)
set_option maxRecDepth 20000 in
theorem gX9_put_X9_in : GoodIn wsX9_put (va_wsS RX9 60 yX9_in wsX9_in) := goodIn_app (goodIn_of _ (by decide +kernel)) ggX9_put_X9_in
set_option maxRecDepth 20000 in
theorem ggX9_put_X9_n : GoodIn wsX9_put wsX9_n := goodIn_r _ [18, 19, 24, 25, 26, 27, 28, 29, 30, 31, 32, 33, 34, 35, 36, 37, 38] (by decide +kernel) (by decide +kernel)
set_option maxRecDepth 20000 in
theorem gX9_put_X9_n : GoodIn wsX9_put (wsV RX9 74 RX9 yX9_n wsX9_n) := goodIn_app (goodIn_of _ (by decide +kernel)) ggX9_put_X9_n
set_option maxRecDepth 20000 in
theorem ggX9_put_X9_lay : GoodIn wsX9_put wsX9_lay := goodIn_r _ [23, 19, 24, 25, 26, 27, 28, 29, 30, 31, 32, 33, 34, 35, 36, 37, 38] (by decide +kernel) (by decide +kernel)
set_option maxRecDepth 20000 in
theorem gX9_put_X9_lay : GoodIn wsX9_put (wsV RX9 54 RX9 yX9_lay wsX9_lay) := goodIn_app (goodIn_of _ (by decide +kernel)) ggX9_put_X9_lay
theorem dX9_put_0 : decode cX9_put 0 = .ok (.iload_n 1, 1) := by decide +kernel
theorem dX9_put_1 : decode cX9_put 1 = .ok (.invokestatic 64, 3) := by decide +kernel
theorem dX9_put_4 : decode cX9_put 4 = .ok (.ifCond .ne 44, 3) := by decide +kernel
theorem dX9_put_7 : decode cX9_put 7 = .ok (.aload_n 0, 1) := by decide +kernel
theorem dX9_put_8 : decode cX9_put 8 = .ok (.iload_n 1, 1) := by decide +kernel
theorem dX9_put_9 : decode cX9_put 9 = .ok (.iload_n 2, 1) := by decide +kernel
theorem dX9_put_10 : decode cX9_put 10 = .ok (.invokevirtual 68, 3) := by decide +kernel
theorem dX9_put_13 : decode cX9_put 13 = .ok (.ifCond .eq 35, 3) := by decide +kernel
theorem dX9_put_16 : decode cX9_put 16 = .ok (.aload_n 0, 1) := by decide +kernel
theorem dX9_put_17 : decode cX9_put 17 = .ok (.iload_n 1, 1) := by decide +kernel
theorem dX9_put_18 : decode cX9_put 18 = .ok (.iload_n 3, 1) := by decide +kernel
theorem dX9_put_19 : decode cX9_put 19 = .ok (.invokevirtual 68, 3) := by decide +kernel
theorem dX9_put_22 : decode cX9_put 22 = .ok (.ifCond .eq 26, 3) := by decide +kernel
theorem dX9_put_25 : decode cX9_put 25 = .ok (.aload_n 0, 1) := by decide +kernel
theorem dX9_put_26 : decode cX9_put 26 = .ok (.iload_n 1, 1) := by decide +kernel
theorem dX9_put_27 : decode cX9_put 27 = .ok (.iload 4, 2) := by decide +kernel
theorem dX9_put_29 : decode cX9_put 29 = .ok (.invokevirtual 68, 3) := by decide +kernel
theorem dX9_put_32 : decode cX9_put 32 = .ok (.ifCond .eq 16, 3) := by decide +kernel
theorem dX9_put_35 : decode cX9_put 35 = .ok (.iload 5, 2) := by decide +kernel
theorem dX9_put_37 : decode cX9_put 37 = .ok (.i2l, 1) := by decide +kernel
theorem dX9_put_38 : decode cX9_put 38 = .ok (.lconst 0, 1) := by decide +kernel
theorem dX9_put_39 : decode cX9_put 39 = .ok (.ldc2_w 72, 3) := by decide +kernel
theorem dX9_put_42 : decode cX9_put 42 = .ok (.invokestatic 60, 3) := by decide +kernel
theorem dX9_put_45 : decode cX9_put 45 = .ok (.ifCond .ne 6, 3) := by decide +kernel
theorem dX9_put_48 : decode cX9_put 48 = .ok (.bipush (-2), 2) := by decide +kernel
theorem dX9_put_50 : decode cX9_put 50 = .ok (.ireturn, 1) := by decide +kernel
theorem dX9_put_51 : decode cX9_put 51 = .ok (.aload_n 0, 1) := by decide +kernel
theorem dX9_put_52 : decode cX9_put 52 = .ok (.iload_n 1, 1) := by decide +kernel
theorem dX9_put_53 : decode cX9_put 53 = .ok (.iload_n 2, 1) := by decide +kernel
theorem dX9_put_54 : decode cX9_put 54 = .ok (.iload_n 3, 1) := by decide +kernel
theorem dX9_put_55 : decode cX9_put 55 = .ok (.iload 4, 2) := by decide +kernel
theorem dX9_put_57 : decode cX9_put 57 = .ok (.invokevirtual 74, 3) := by decide +kernel
theorem dX9_put_60 : decode cX9_put 60 = .ok (.istore 6, 2) := by decide +kernel
theorem dX9_put_62 : decode cX9_put 62 = .ok (.aload_n 0, 1) := by decide +kernel
theorem dX9_put_63 : decode cX9_put 63 = .ok (.iload_n 1, 1) := by decide +kernel
theorem dX9_put_64 : decode cX9_put 64 = .ok (.iload_n 2, 1) := by decide +kernel
theorem dX9_put_65 : decode cX9_put 65 = .ok (.iload_n 3, 1) := by decide +kernel
theorem dX9_put_66 : decode cX9_put 66 = .ok (.iload 4, 2) := by decide +kernel
theorem dX9_put_68 : decode cX9_put 68 = .ok (.iload 5, 2) := by decide +kernel
theorem dX9_put_70 : decode cX9_put 70 = .ok (.invokevirtual 54, 3) := by decide +kernel
theorem dX9_put_73 : decode cX9_put 73 = .ok (.iload 6, 2) := by decide +kernel
theorem dX9_put_75 : decode cX9_put 75 = .ok (.ireturn, 1) := by decide +kernel
set_option maxRecDepth 20000 in
theorem ggX9_at_X9_noTable : GoodIn wsX9_at wsX9_noTable := goodIn_r _ [4, 5, 6, 7, 3, 8] (by decide +kernel) (by decide +kernel)
set_option maxRecDepth 20000 in
theorem gX9_at_X9_noTable : GoodIn wsX9_at (va_wsS RX9 64 yX9_noTable wsX9_noTable) := goodIn_app (goodIn_of _ (by decide +kernel)) ggX9_at_X9_noTable
set_option maxRecDepth 20000 in
theorem ggX9_at_X9_isKind : GoodIn wsX9_at wsX9_isKind := goodIn_r _ [12, 13, 6, 7, 3, 8, 19, 20, 21, 22, 23, 24, 25, 26, 27, 28, 29, 30, 31, 32, 33] (by decide +kernel) (by decide +kernel)
set_option maxRecDepth 20000 in
theorem gX9_at_X9_isKind : GoodIn wsX9_at (wsV RX9 68 RX9 yX9_isKind wsX9_isKind) := goodIn_app (goodIn_of _ (by decide +kernel)) ggX9_at_X9_isKind
set_option maxRecDepth 20000 in
theorem ggX9_at_X9_n : GoodIn wsX9_at wsX9_n := goodIn_r _ [17, 18, 19, 20, 21, 22, 23, 24, 25, 26, 27, 28, 29, 30, 31, 32, 33] (by decide +kernel) (by decide +kernel)
set_option maxRecDepth 20000 in
theorem gX9_at_X9_n : GoodIn wsX9_at (wsV RX9 74 RX9 yX9_n wsX9_n) := goodIn_app (goodIn_of _ (by decide +kernel)) ggX9_at_X9_n
theorem dX9_at_0 : decode cX9_at 0 = .ok (.iload_n 1, 1) := by decide +kernel
theorem dX9_at_1 : decode cX9_at 1 = .ok (.invokestatic 64, 3) := by decide +kernel
theorem dX9_at_4 : decode cX9_at 4 = .ok (.ifCond .ne 31, 3) := by decide +kernel
theorem dX9_at_7 : decode cX9_at 7 = .ok (.aload_n 0, 1) := by decide +kernel
theorem dX9_at_8 : decode cX9_at 8 = .ok (.iload_n 1, 1) := by decide +kernel
theorem dX9_at_9 : decode cX9_at 9 = .ok (.iload_n 2, 1) := by decide +kernel
theorem dX9_at_10 : decode cX9_at 10 = .ok (.invokevirtual 68, 3) := by decide +kernel
theorem dX9_at_13 : decode cX9_at 13 = .ok (.ifCond .eq 22, 3) := by decide +kernel
theorem dX9_at_16 : decode cX9_at 16 = .ok (.aload_n 0, 1) := by decide +kernel
theorem dX9_at_17 : decode cX9_at 17 = .ok (.iload_n 1, 1) := by decide +kernel
theorem dX9_at_18 : decode cX9_at 18 = .ok (.iload_n 3, 1) := by decide +kernel
theorem dX9_at_19 : decode cX9_at 19 = .ok (.invokevirtual 68, 3) := by decide +kernel
theorem dX9_at_22 : decode cX9_at 22 = .ok (.ifCond .eq 13, 3) := by decide +kernel
theorem dX9_at_25 : decode cX9_at 25 = .ok (.aload_n 0, 1) := by decide +kernel
theorem dX9_at_26 : decode cX9_at 26 = .ok (.iload_n 1, 1) := by decide +kernel
theorem dX9_at_27 : decode cX9_at 27 = .ok (.iload 4, 2) := by decide +kernel
theorem dX9_at_29 : decode cX9_at 29 = .ok (.invokevirtual 68, 3) := by decide +kernel
theorem dX9_at_32 : decode cX9_at 32 = .ok (.ifCond .ne 8, 3) := by decide +kernel
theorem dX9_at_35 : decode cX9_at 35 = .ok (.bipush (-2), 2) := by decide +kernel
theorem dX9_at_37 : decode cX9_at 37 = .ok (.goto 12, 3) := by decide +kernel
theorem dX9_at_40 : decode cX9_at 40 = .ok (.aload_n 0, 1) := by decide +kernel
theorem dX9_at_41 : decode cX9_at 41 = .ok (.iload_n 1, 1) := by decide +kernel
theorem dX9_at_42 : decode cX9_at 42 = .ok (.iload_n 2, 1) := by decide +kernel
theorem dX9_at_43 : decode cX9_at 43 = .ok (.iload_n 3, 1) := by decide +kernel
theorem dX9_at_44 : decode cX9_at 44 = .ok (.iload 4, 2) := by decide +kernel
theorem dX9_at_46 : decode cX9_at 46 = .ok (.invokevirtual 74, 3) := by decide +kernel
theorem dX9_at_49 : decode cX9_at 49 = .ok (.ireturn, 1) := by decide +kernel
theorem dX9_tell_0 : decode cX9_tell 0 = .ok (.aload_n 0, 1) := by decide +kernel
theorem dX9_tell_1 : decode cX9_tell 1 = .ok (.getfield 16, 3) := by decide +kernel
theorem dX9_tell_4 : decode cX9_tell 4 = .ok (.iconst 0, 1) := by decide +kernel
theorem dX9_tell_5 : decode cX9_tell 5 = .ok (.iload_n 1, 1) := by decide +kernel
theorem dX9_tell_6 : decode cX9_tell 6 = .ok (.iastore, 1) := by decide +kernel
theorem dX9_tell_7 : decode cX9_tell 7 = .ok (.aload_n 0, 1) := by decide +kernel
theorem dX9_tell_8 : decode cX9_tell 8 = .ok (.getfield 16, 3) := by decide +kernel
theorem dX9_tell_11 : decode cX9_tell 11 = .ok (.iconst 1, 1) := by decide +kernel
theorem dX9_tell_12 : decode cX9_tell 12 = .ok (.iload_n 2, 1) := by decide +kernel
theorem dX9_tell_13 : decode cX9_tell 13 = .ok (.iastore, 1) := by decide +kernel
theorem dX9_tell_14 : decode cX9_tell 14 = .ok (.aload_n 0, 1) := by decide +kernel
theorem dX9_tell_15 : decode cX9_tell 15 = .ok (.getfield 16, 3) := by decide +kernel
theorem dX9_tell_18 : decode cX9_tell 18 = .ok (.iconst 2, 1) := by decide +kernel
theorem dX9_tell_19 : decode cX9_tell 19 = .ok (.iload_n 3, 1) := by decide +kernel
theorem dX9_tell_20 : decode cX9_tell 20 = .ok (.iastore, 1) := by decide +kernel
theorem dX9_tell_21 : decode cX9_tell 21 = .ok (.aload_n 0, 1) := by decide +kernel
theorem dX9_tell_22 : decode cX9_tell 22 = .ok (.getfield 16, 3) := by decide +kernel
theorem dX9_tell_25 : decode cX9_tell 25 = .ok (.iconst 3, 1) := by decide +kernel
theorem dX9_tell_26 : decode cX9_tell 26 = .ok (.iload 4, 2) := by decide +kernel
theorem dX9_tell_28 : decode cX9_tell 28 = .ok (.iastore, 1) := by decide +kernel
theorem dX9_tell_29 : decode cX9_tell 29 = .ok (.aload_n 0, 1) := by decide +kernel
theorem dX9_tell_30 : decode cX9_tell 30 = .ok (.getfield 16, 3) := by decide +kernel
theorem dX9_tell_33 : decode cX9_tell 33 = .ok (.iconst 4, 1) := by decide +kernel
theorem dX9_tell_34 : decode cX9_tell 34 = .ok (.iload 5, 2) := by decide +kernel
theorem dX9_tell_36 : decode cX9_tell 36 = .ok (.iastore, 1) := by decide +kernel
theorem dX9_tell_37 : decode cX9_tell 37 = .ok (.iconst 1, 1) := by decide +kernel
theorem dX9_tell_38 : decode cX9_tell 38 = .ok (.ireturn, 1) := by decide +kernel
set_option maxRecDepth 20000 in
theorem ggX9_breaksUnit_X9_n : GoodIn wsX9_breaksUnit wsX9_n := goodIn_r _ [6, 7, 13, 14, 15, 16, 17, 18, 19, 20, 21, 22, 23, 24, 25, 26, 27] (by decide +kernel) (by decide +kernel)
set_option maxRecDepth 20000 in
theorem gX9_breaksUnit_X9_n : GoodIn wsX9_breaksUnit (wsV RX9 74 RX9 yX9_n wsX9_n) := goodIn_app (goodIn_of _ (by decide +kernel)) ggX9_breaksUnit_X9_n
set_option maxRecDepth 20000 in
theorem ggX9_breaksUnit_X9_tell : GoodIn wsX9_breaksUnit wsX9_tell := goodIn_r _ [11, 12, 13, 14, 15, 16, 17, 18, 19, 20, 21, 22, 23, 24, 25, 26, 27] (by decide +kernel) (by decide +kernel)
set_option maxRecDepth 20000 in
theorem gX9_breaksUnit_X9_tell : GoodIn wsX9_breaksUnit (wsV RX9 78 RX9 yX9_tell wsX9_tell) := goodIn_app (goodIn_of _ (by decide +kernel)) ggX9_breaksUnit_X9_tell
theorem dX9_breaksUnit_0 : decode cX9_breaksUnit 0 = .ok (.iconst 0, 1) := by decide +kernel
theorem dX9_breaksUnit_1 : decode cX9_breaksUnit 1 = .ok (.istore_n 2, 1) := by decide +kernel
theorem dX9_breaksUnit_2 : decode cX9_breaksUnit 2 = .ok (.iload_n 2, 1) := by decide +kernel
theorem dX9_breaksUnit_3 : decode cX9_breaksUnit 3 = .ok (.aload_n 0, 1) := by decide +kernel
theorem dX9_breaksUnit_4 : decode cX9_breaksUnit 4 = .ok (.getfield 7, 3) := by decide +kernel
theorem dX9_breaksUnit_7 : decode cX9_breaksUnit 7 = .ok (.iload_n 1, 1) := by decide +kernel
theorem dX9_breaksUnit_8 : decode cX9_breaksUnit 8 = .ok (.iaload, 1) := by decide +kernel
theorem dX9_breaksUnit_9 : decode cX9_breaksUnit 9 = .ok (.if_icmp .ge 75, 3) := by decide +kernel
theorem dX9_breaksUnit_12 : decode cX9_breaksUnit 12 = .ok (.iconst 0, 1) := by decide +kernel
theorem dX9_breaksUnit_13 : decode cX9_breaksUnit 13 = .ok (.istore_n 3, 1) := by decide +kernel
theorem dX9_breaksUnit_14 : decode cX9_breaksUnit 14 = .ok (.iload_n 3, 1) := by decide +kernel
theorem dX9_breaksUnit_15 : decode cX9_breaksUnit 15 = .ok (.aload_n 0, 1) := by decide +kernel
theorem dX9_breaksUnit_16 : decode cX9_breaksUnit 16 = .ok (.getfield 7, 3) := by decide +kernel
theorem dX9_breaksUnit_19 : decode cX9_breaksUnit 19 = .ok (.iload_n 1, 1) := by decide +kernel
theorem dX9_breaksUnit_20 : decode cX9_breaksUnit 20 = .ok (.iaload, 1) := by decide +kernel
theorem dX9_breaksUnit_21 : decode cX9_breaksUnit 21 = .ok (.if_icmp .ge 57, 3) := by decide +kernel
theorem dX9_breaksUnit_24 : decode cX9_breaksUnit 24 = .ok (.iload_n 2, 1) := by decide +kernel
theorem dX9_breaksUnit_25 : decode cX9_breaksUnit 25 = .ok (.iload_n 3, 1) := by decide +kernel
theorem dX9_breaksUnit_26 : decode cX9_breaksUnit 26 = .ok (.if_icmp .ne 7, 3) := by decide +kernel
theorem dX9_breaksUnit_29 : decode cX9_breaksUnit 29 = .ok (.iconst 1, 1) := by decide +kernel
theorem dX9_breaksUnit_30 : decode cX9_breaksUnit 30 = .ok (.goto 4, 3) := by decide +kernel
theorem dX9_breaksUnit_33 : decode cX9_breaksUnit 33 = .ok (.iconst 0, 1) := by decide +kernel
theorem dX9_breaksUnit_34 : decode cX9_breaksUnit 34 = .ok (.istore 4, 2) := by decide +kernel
theorem dX9_breaksUnit_36 : decode cX9_breaksUnit 36 = .ok (.aload_n 0, 1) := by decide +kernel
theorem dX9_breaksUnit_37 : decode cX9_breaksUnit 37 = .ok (.iload_n 1, 1) := by decide +kernel
theorem dX9_breaksUnit_38 : decode cX9_breaksUnit 38 = .ok (.iconst 0, 1) := by decide +kernel
theorem dX9_breaksUnit_39 : decode cX9_breaksUnit 39 = .ok (.iload_n 2, 1) := by decide +kernel
theorem dX9_breaksUnit_40 : decode cX9_breaksUnit 40 = .ok (.iload_n 3, 1) := by decide +kernel
theorem dX9_breaksUnit_41 : decode cX9_breaksUnit 41 = .ok (.invokevirtual 74, 3) := by decide +kernel
theorem dX9_breaksUnit_44 : decode cX9_breaksUnit 44 = .ok (.iload 4, 2) := by decide +kernel
theorem dX9_breaksUnit_46 : decode cX9_breaksUnit 46 = .ok (.if_icmp .ne 16, 3) := by decide +kernel
theorem dX9_breaksUnit_49 : decode cX9_breaksUnit 49 = .ok (.aload_n 0, 1) := by decide +kernel
theorem dX9_breaksUnit_50 : decode cX9_breaksUnit 50 = .ok (.iload_n 1, 1) := by decide +kernel
theorem dX9_breaksUnit_51 : decode cX9_breaksUnit 51 = .ok (.iload_n 2, 1) := by decide +kernel
theorem dX9_breaksUnit_52 : decode cX9_breaksUnit 52 = .ok (.iconst 0, 1) := by decide +kernel
theorem dX9_breaksUnit_53 : decode cX9_breaksUnit 53 = .ok (.iload_n 3, 1) := by decide +kernel
theorem dX9_breaksUnit_54 : decode cX9_breaksUnit 54 = .ok (.invokevirtual 74, 3) := by decide +kernel
theorem dX9_breaksUnit_57 : decode cX9_breaksUnit 57 = .ok (.iload 4, 2) := by decide +kernel
theorem dX9_breaksUnit_59 : decode cX9_breaksUnit 59 = .ok (.if_icmp .eq 13, 3) := by decide +kernel
theorem dX9_breaksUnit_62 : decode cX9_breaksUnit 62 = .ok (.aload_n 0, 1) := by decide +kernel
theorem dX9_breaksUnit_63 : decode cX9_breaksUnit 63 = .ok (.iconst 1, 1) := by decide +kernel
theorem dX9_breaksUnit_64 : decode cX9_breaksUnit 64 = .ok (.iload_n 2, 1) := by decide +kernel
theorem dX9_breaksUnit_65 : decode cX9_breaksUnit 65 = .ok (.iload_n 3, 1) := by decide +kernel
theorem dX9_breaksUnit_66 : decode cX9_breaksUnit 66 = .ok (.iconst (-1), 1) := by decide +kernel
theorem dX9_breaksUnit_67 : decode cX9_breaksUnit 67 = .ok (.iconst (-1), 1) := by decide +kernel
theorem dX9_breaksUnit_68 : decode cX9_breaksUnit 68 = .ok (.invokevirtual 78, 3) := by decide +kernel
theorem dX9_breaksUnit_71 : decode cX9_breaksUnit 71 = .ok (.ireturn, 1) := by decide +kernel
theorem dX9_breaksUnit_72 : decode cX9_breaksUnit 72 = .ok (.iinc 3 1, 3) := by decide +kernel
theorem dX9_breaksUnit_75 : decode cX9_breaksUnit 75 = .ok (.goto (-61), 3) := by decide +kernel
theorem dX9_breaksUnit_78 : decode cX9_breaksUnit 78 = .ok (.iinc 2 1, 3) := by decide +kernel
theorem dX9_breaksUnit_81 : decode cX9_breaksUnit 81 = .ok (.goto (-79), 3) := by decide +kernel
theorem dX9_breaksUnit_84 : decode cX9_breaksUnit 84 = .ok (.iconst 0, 1) := by decide +kernel
theorem dX9_breaksUnit_85 : decode cX9_breaksUnit 85 = .ok (.ireturn, 1) := by decide +kernel
set_option maxRecDepth 20000 in
theorem ggX9_breaksPartners_X9_n : GoodIn wsX9_breaksPartners wsX9_n := goodIn_r _ [7, 8, 14, 15, 16, 17, 18, 19, 20, 21, 22, 23, 24, 25, 26, 27, 28] (by decide +kernel) (by decide +kernel)
set_option maxRecDepth 20000 in
theorem gX9_breaksPartners_X9_n : GoodIn wsX9_breaksPartners (wsV RX9 74 RX9 yX9_n wsX9_n) := goodIn_app (goodIn_of _ (by decide +kernel)) ggX9_breaksPartners_X9_n
set_option maxRecDepth 20000 in
theorem ggX9_breaksPartners_X9_tell : GoodIn wsX9_breaksPartners wsX9_tell := goodIn_r _ [12, 13, 14, 15, 16, 17, 18, 19, 20, 21, 22, 23, 24, 25, 26, 27, 28] (by decide +kernel) (by decide +kernel)
set_option maxRecDepth 20000 in
theorem gX9_breaksPartners_X9_tell : GoodIn wsX9_breaksPartners (wsV RX9 78 RX9 yX9_tell wsX9_tell) := goodIn_app (goodIn_of _ (by decide +kernel)) ggX9_breaksPartners_X9_tell
theorem dX9_breaksPartners_0 : decode cX9_breaksPartners 0 = .ok (.iconst 0, 1) := by decide +kernel
theorem dX9_breaksPartners_1 : decode cX9_breaksPartners 1 = .ok (.istore_n 2, 1) := by decide +kernel
theorem dX9_breaksPartners_2 : decode cX9_breaksPartners 2 = .ok (.iload_n 2, 1) := by decide +kernel
theorem dX9_breaksPartners_3 : decode cX9_breaksPartners 3 = .ok (.aload_n 0, 1) := by decide +kernel
theorem dX9_breaksPartners_4 : decode cX9_breaksPartners 4 = .ok (.getfield 7, 3) := by decide +kernel
theorem dX9_breaksPartners_7 : decode cX9_breaksPartners 7 = .ok (.iload_n 1, 1) := by decide +kernel
theorem dX9_breaksPartners_8 : decode cX9_breaksPartners 8 = .ok (.iaload, 1) := by decide +kernel
theorem dX9_breaksPartners_9 : decode cX9_breaksPartners 9 = .ok (.if_icmp .ge 103, 3) := by decide +kernel
theorem dX9_breaksPartners_12 : decode cX9_breaksPartners 12 = .ok (.iconst 0, 1) := by decide +kernel
theorem dX9_breaksPartners_13 : decode cX9_breaksPartners 13 = .ok (.istore_n 3, 1) := by decide +kernel
theorem dX9_breaksPartners_14 : decode cX9_breaksPartners 14 = .ok (.iconst 0, 1) := by decide +kernel
theorem dX9_breaksPartners_15 : decode cX9_breaksPartners 15 = .ok (.istore 4, 2) := by decide +kernel
theorem dX9_breaksPartners_17 : decode cX9_breaksPartners 17 = .ok (.iload 4, 2) := by decide +kernel
theorem dX9_breaksPartners_19 : decode cX9_breaksPartners 19 = .ok (.aload_n 0, 1) := by decide +kernel
theorem dX9_breaksPartners_20 : decode cX9_breaksPartners 20 = .ok (.getfield 7, 3) := by decide +kernel
theorem dX9_breaksPartners_23 : decode cX9_breaksPartners 23 = .ok (.iload_n 1, 1) := by decide +kernel
theorem dX9_breaksPartners_24 : decode cX9_breaksPartners 24 = .ok (.iaload, 1) := by decide +kernel
theorem dX9_breaksPartners_25 : decode cX9_breaksPartners 25 = .ok (.if_icmp .ge 66, 3) := by decide +kernel
theorem dX9_breaksPartners_28 : decode cX9_breaksPartners 28 = .ok (.aload_n 0, 1) := by decide +kernel
theorem dX9_breaksPartners_29 : decode cX9_breaksPartners 29 = .ok (.iload_n 1, 1) := by decide +kernel
theorem dX9_breaksPartners_30 : decode cX9_breaksPartners 30 = .ok (.iload_n 2, 1) := by decide +kernel
theorem dX9_breaksPartners_31 : decode cX9_breaksPartners 31 = .ok (.iload 4, 2) := by decide +kernel
theorem dX9_breaksPartners_33 : decode cX9_breaksPartners 33 = .ok (.iconst 0, 1) := by decide +kernel
theorem dX9_breaksPartners_34 : decode cX9_breaksPartners 34 = .ok (.invokevirtual 74, 3) := by decide +kernel
theorem dX9_breaksPartners_37 : decode cX9_breaksPartners 37 = .ok (.istore 5, 2) := by decide +kernel
theorem dX9_breaksPartners_39 : decode cX9_breaksPartners 39 = .ok (.iload_n 3, 1) := by decide +kernel
theorem dX9_breaksPartners_40 : decode cX9_breaksPartners 40 = .ok (.iload 5, 2) := by decide +kernel
theorem dX9_breaksPartners_42 : decode cX9_breaksPartners 42 = .ok (.ifCond .ne 7, 3) := by decide +kernel
theorem dX9_breaksPartners_45 : decode cX9_breaksPartners 45 = .ok (.iconst 0, 1) := by decide +kernel
theorem dX9_breaksPartners_46 : decode cX9_breaksPartners 46 = .ok (.goto 15, 3) := by decide +kernel
theorem dX9_breaksPartners_49 : decode cX9_breaksPartners 49 = .ok (.iload 5, 2) := by decide +kernel
theorem dX9_breaksPartners_51 : decode cX9_breaksPartners 51 = .ok (.iconst 1, 1) := by decide +kernel
theorem dX9_breaksPartners_52 : decode cX9_breaksPartners 52 = .ok (.if_icmp .ne 7, 3) := by decide +kernel
theorem dX9_breaksPartners_55 : decode cX9_breaksPartners 55 = .ok (.iconst 1, 1) := by decide +kernel
theorem dX9_breaksPartners_56 : decode cX9_breaksPartners 56 = .ok (.goto 5, 3) := by decide +kernel
theorem dX9_breaksPartners_59 : decode cX9_breaksPartners 59 = .ok (.bipush 9, 2) := by decide +kernel
theorem dX9_breaksPartners_61 : decode cX9_breaksPartners 61 = .ok (.iadd, 1) := by decide +kernel
theorem dX9_breaksPartners_62 : decode cX9_breaksPartners 62 = .ok (.istore_n 3, 1) := by decide +kernel
theorem dX9_breaksPartners_63 : decode cX9_breaksPartners 63 = .ok (.aload_n 0, 1) := by decide +kernel
theorem dX9_breaksPartners_64 : decode cX9_breaksPartners 64 = .ok (.getfield 19, 3) := by decide +kernel
theorem dX9_breaksPartners_67 : decode cX9_breaksPartners 67 = .ok (.iload_n 2, 1) := by decide +kernel
theorem dX9_breaksPartners_68 : decode cX9_breaksPartners 68 = .ok (.iload 5, 2) := by decide +kernel
theorem dX9_breaksPartners_70 : decode cX9_breaksPartners 70 = .ok (.ifCond .le 8, 3) := by decide +kernel
theorem dX9_breaksPartners_73 : decode cX9_breaksPartners 73 = .ok (.iload 4, 2) := by decide +kernel
theorem dX9_breaksPartners_75 : decode cX9_breaksPartners 75 = .ok (.goto 9, 3) := by decide +kernel
theorem dX9_breaksPartners_78 : decode cX9_breaksPartners 78 = .ok (.aload_n 0, 1) := by decide +kernel
theorem dX9_breaksPartners_79 : decode cX9_breaksPartners 79 = .ok (.getfield 19, 3) := by decide +kernel
theorem dX9_breaksPartners_82 : decode cX9_breaksPartners 82 = .ok (.iload_n 2, 1) := by decide +kernel
theorem dX9_breaksPartners_83 : decode cX9_breaksPartners 83 = .ok (.iaload, 1) := by decide +kernel
theorem dX9_breaksPartners_84 : decode cX9_breaksPartners 84 = .ok (.iastore, 1) := by decide +kernel
theorem dX9_breaksPartners_85 : decode cX9_breaksPartners 85 = .ok (.iinc 4 1, 3) := by decide +kernel
theorem dX9_breaksPartners_88 : decode cX9_breaksPartners 88 = .ok (.goto (-71), 3) := by decide +kernel
theorem dX9_breaksPartners_91 : decode cX9_breaksPartners 91 = .ok (.iload_n 3, 1) := by decide +kernel
theorem dX9_breaksPartners_92 : decode cX9_breaksPartners 92 = .ok (.iconst 1, 1) := by decide +kernel
theorem dX9_breaksPartners_93 : decode cX9_breaksPartners 93 = .ok (.if_icmp .eq 13, 3) := by decide +kernel
theorem dX9_breaksPartners_96 : decode cX9_breaksPartners 96 = .ok (.aload_n 0, 1) := by decide +kernel
theorem dX9_breaksPartners_97 : decode cX9_breaksPartners 97 = .ok (.iconst 3, 1) := by decide +kernel
theorem dX9_breaksPartners_98 : decode cX9_breaksPartners 98 = .ok (.iload_n 2, 1) := by decide +kernel
