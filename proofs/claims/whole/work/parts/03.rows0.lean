theorem inJ6 : ∀ w ∈ wsJ60, w ∈ lw_tbl := by decide +kernel
theorem inJ9 : ∀ w ∈ wsJ90, w ∈ lw_tbl := by decide +kernel
theorem inJ10 : ∀ w ∈ wsJ100, w ∈ lw_tbl := by decide +kernel
theorem inJ7 : ∀ w ∈ wsJ70, w ∈ lw_tbl := by decide +kernel
theorem dX0_init_0 : decode cX0_init 0 = .ok (.aload_n 0, 1) := by decide +kernel
theorem dX0_init_1 : decode cX0_init 1 = .ok (.invokespecial 3, 3) := by decide +kernel
theorem dX0_init_4 : decode cX0_init 4 = .ok (.aload_n 0, 1) := by decide +kernel
theorem dX0_init_5 : decode cX0_init 5 = .ok (.bipush 25, 2) := by decide +kernel
theorem dX0_init_7 : decode cX0_init 7 = .ok (.newarray .int, 2) := by decide +kernel
theorem dX0_init_9 : decode cX0_init 9 = .ok (.putfield 9, 3) := by decide +kernel
theorem dX0_init_12 : decode cX0_init 12 = .ok (.aload_n 0, 1) := by decide +kernel
theorem dX0_init_13 : decode cX0_init 13 = .ok (.bipush 32, 2) := by decide +kernel
theorem dX0_init_15 : decode cX0_init 15 = .ok (.newarray .long, 2) := by decide +kernel
theorem dX0_init_17 : decode cX0_init 17 = .ok (.putfield 15, 3) := by decide +kernel
theorem dX0_init_20 : decode cX0_init 20 = .ok (.return_, 1) := by decide +kernel
set_option maxRecDepth 20000 in
theorem ggX0_tenths_X0_addUp : GoodIn wsX0_tenths wsX0_addUp := goodIn_r _ [6, 1, 7, 8, 9, 10, 11, 12, 13, 14, 15, 16, 38, 39, 40, 41] (by decide +kernel) (by decide +kernel)
set_option maxRecDepth 20000 in
theorem gX0_tenths_X0_addUp : GoodIn wsX0_tenths (wsV RX0 19 RX0 yX0_addUp wsX0_addUp) := goodIn_app (goodIn_of _ (by decide +kernel)) ggX0_tenths_X0_addUp
set_option maxRecDepth 20000 in
theorem ggX0_tenths_X0_isAbove : GoodIn wsX0_tenths wsX0_isAbove := goodIn_r _ [20, 21, 22, 23, 24, 5, 25, 26, 7, 27, 28, 29, 30, 31, 32, 33, 34, 35, 36, 37, 40, 41] (by decide +kernel) (by decide +kernel)
set_option maxRecDepth 20000 in
theorem gX0_tenths_X0_isAbove : GoodIn wsX0_tenths (wsV RX0 29 RX0 yX0_isAbove wsX0_isAbove) := goodIn_app (goodIn_of _ (by decide +kernel)) ggX0_tenths_X0_isAbove
theorem dX0_tenths_0 : decode cX0_tenths 0 = .ok (.aload_n 0, 1) := by decide +kernel
theorem dX0_tenths_1 : decode cX0_tenths 1 = .ok (.aload_n 1, 1) := by decide +kernel
theorem dX0_tenths_2 : decode cX0_tenths 2 = .ok (.invokevirtual 19, 3) := by decide +kernel
theorem dX0_tenths_5 : decode cX0_tenths 5 = .ok (.iconst 0, 1) := by decide +kernel
theorem dX0_tenths_6 : decode cX0_tenths 6 = .ok (.istore_n 2, 1) := by decide +kernel
theorem dX0_tenths_7 : decode cX0_tenths 7 = .ok (.sipush 2251, 3) := by decide +kernel
theorem dX0_tenths_10 : decode cX0_tenths 10 = .ok (.istore_n 3, 1) := by decide +kernel
theorem dX0_tenths_11 : decode cX0_tenths 11 = .ok (.iconst 0, 1) := by decide +kernel
theorem dX0_tenths_12 : decode cX0_tenths 12 = .ok (.istore 4, 2) := by decide +kernel
theorem dX0_tenths_14 : decode cX0_tenths 14 = .ok (.iload 4, 2) := by decide +kernel
theorem dX0_tenths_16 : decode cX0_tenths 16 = .ok (.bipush 12, 2) := by decide +kernel
theorem dX0_tenths_18 : decode cX0_tenths 18 = .ok (.if_icmp .ge 45, 3) := by decide +kernel
theorem dX0_tenths_21 : decode cX0_tenths 21 = .ok (.iload_n 3, 1) := by decide +kernel
theorem dX0_tenths_22 : decode cX0_tenths 22 = .ok (.iload_n 2, 1) := by decide +kernel
theorem dX0_tenths_23 : decode cX0_tenths 23 = .ok (.isub, 1) := by decide +kernel
theorem dX0_tenths_24 : decode cX0_tenths 24 = .ok (.iconst 1, 1) := by decide +kernel
theorem dX0_tenths_25 : decode cX0_tenths 25 = .ok (.if_icmp .le 38, 3) := by decide +kernel
theorem dX0_tenths_28 : decode cX0_tenths 28 = .ok (.iload_n 2, 1) := by decide +kernel
theorem dX0_tenths_29 : decode cX0_tenths 29 = .ok (.iload_n 3, 1) := by decide +kernel
theorem dX0_tenths_30 : decode cX0_tenths 30 = .ok (.iadd, 1) := by decide +kernel
theorem dX0_tenths_31 : decode cX0_tenths 31 = .ok (.iconst 1, 1) := by decide +kernel
theorem dX0_tenths_32 : decode cX0_tenths 32 = .ok (.ishr, 1) := by decide +kernel
theorem dX0_tenths_33 : decode cX0_tenths 33 = .ok (.istore 5, 2) := by decide +kernel
theorem dX0_tenths_35 : decode cX0_tenths 35 = .ok (.aload_n 0, 1) := by decide +kernel
theorem dX0_tenths_36 : decode cX0_tenths 36 = .ok (.iload 5, 2) := by decide +kernel
theorem dX0_tenths_38 : decode cX0_tenths 38 = .ok (.aload_n 1, 1) := by decide +kernel
theorem dX0_tenths_39 : decode cX0_tenths 39 = .ok (.getfield 23, 3) := by decide +kernel
theorem dX0_tenths_42 : decode cX0_tenths 42 = .ok (.invokevirtual 29, 3) := by decide +kernel
theorem dX0_tenths_45 : decode cX0_tenths 45 = .ok (.ifCond .eq 9, 3) := by decide +kernel
theorem dX0_tenths_48 : decode cX0_tenths 48 = .ok (.iload 5, 2) := by decide +kernel
theorem dX0_tenths_50 : decode cX0_tenths 50 = .ok (.istore_n 3, 1) := by decide +kernel
theorem dX0_tenths_51 : decode cX0_tenths 51 = .ok (.goto 6, 3) := by decide +kernel
theorem dX0_tenths_54 : decode cX0_tenths 54 = .ok (.iload 5, 2) := by decide +kernel
theorem dX0_tenths_56 : decode cX0_tenths 56 = .ok (.istore_n 2, 1) := by decide +kernel
theorem dX0_tenths_57 : decode cX0_tenths 57 = .ok (.iinc 4 1, 3) := by decide +kernel
theorem dX0_tenths_60 : decode cX0_tenths 60 = .ok (.goto (-46), 3) := by decide +kernel
theorem dX0_tenths_63 : decode cX0_tenths 63 = .ok (.iload_n 2, 1) := by decide +kernel
theorem dX0_tenths_64 : decode cX0_tenths 64 = .ok (.ireturn, 1) := by decide +kernel
set_option maxRecDepth 20000 in
theorem ggX0_addUp_X7_number : GoodIn wsX0_addUp wsX7_number := goodIn_r _ [7, 8, 9, 10, 6, 11, 12, 13] (by decide +kernel) (by decide +kernel)
set_option maxRecDepth 20000 in
theorem gX0_addUp_X7_number : GoodIn wsX0_addUp (wsV RX0 33 RX7 yX7_number wsX7_number) := goodIn_app (goodIn_of _ (by decide +kernel)) ggX0_addUp_X7_number
theorem dX0_addUp_0 : decode cX0_addUp 0 = .ok (.iconst 0, 1) := by decide +kernel
theorem dX0_addUp_1 : decode cX0_addUp 1 = .ok (.istore_n 2, 1) := by decide +kernel
theorem dX0_addUp_2 : decode cX0_addUp 2 = .ok (.iload_n 2, 1) := by decide +kernel
theorem dX0_addUp_3 : decode cX0_addUp 3 = .ok (.aload_n 1, 1) := by decide +kernel
theorem dX0_addUp_4 : decode cX0_addUp 4 = .ok (.getfield 23, 3) := by decide +kernel
theorem dX0_addUp_7 : decode cX0_addUp 7 = .ok (.if_icmp .ge 71, 3) := by decide +kernel
theorem dX0_addUp_10 : decode cX0_addUp 10 = .ok (.iconst 0, 1) := by decide +kernel
theorem dX0_addUp_11 : decode cX0_addUp 11 = .ok (.istore_n 3, 1) := by decide +kernel
theorem dX0_addUp_12 : decode cX0_addUp 12 = .ok (.iload_n 3, 1) := by decide +kernel
theorem dX0_addUp_13 : decode cX0_addUp 13 = .ok (.aload_n 1, 1) := by decide +kernel
theorem dX0_addUp_14 : decode cX0_addUp 14 = .ok (.getfield 23, 3) := by decide +kernel
theorem dX0_addUp_17 : decode cX0_addUp 17 = .ok (.if_icmp .ge 55, 3) := by decide +kernel
theorem dX0_addUp_20 : decode cX0_addUp 20 = .ok (.iconst 0, 1) := by decide +kernel
theorem dX0_addUp_21 : decode cX0_addUp 21 = .ok (.istore 4, 2) := by decide +kernel
theorem dX0_addUp_23 : decode cX0_addUp 23 = .ok (.iconst 0, 1) := by decide +kernel
theorem dX0_addUp_24 : decode cX0_addUp 24 = .ok (.istore 5, 2) := by decide +kernel
theorem dX0_addUp_26 : decode cX0_addUp 26 = .ok (.iload 5, 2) := by decide +kernel
theorem dX0_addUp_28 : decode cX0_addUp 28 = .ok (.aload_n 1, 1) := by decide +kernel
theorem dX0_addUp_29 : decode cX0_addUp 29 = .ok (.getfield 23, 3) := by decide +kernel
theorem dX0_addUp_32 : decode cX0_addUp 32 = .ok (.if_icmp .ge 22, 3) := by decide +kernel
theorem dX0_addUp_35 : decode cX0_addUp 35 = .ok (.iload 4, 2) := by decide +kernel
theorem dX0_addUp_37 : decode cX0_addUp 37 = .ok (.aload_n 1, 1) := by decide +kernel
theorem dX0_addUp_38 : decode cX0_addUp 38 = .ok (.iload 5, 2) := by decide +kernel
theorem dX0_addUp_40 : decode cX0_addUp 40 = .ok (.iload_n 2, 1) := by decide +kernel
theorem dX0_addUp_41 : decode cX0_addUp 41 = .ok (.iload_n 3, 1) := by decide +kernel
theorem dX0_addUp_42 : decode cX0_addUp 42 = .ok (.invokevirtual 33, 3) := by decide +kernel
theorem dX0_addUp_45 : decode cX0_addUp 45 = .ok (.iadd, 1) := by decide +kernel
theorem dX0_addUp_46 : decode cX0_addUp 46 = .ok (.istore 4, 2) := by decide +kernel
theorem dX0_addUp_48 : decode cX0_addUp 48 = .ok (.iinc 5 1, 3) := by decide +kernel
theorem dX0_addUp_51 : decode cX0_addUp 51 = .ok (.goto (-25), 3) := by decide +kernel
theorem dX0_addUp_54 : decode cX0_addUp 54 = .ok (.aload_n 0, 1) := by decide +kernel
theorem dX0_addUp_55 : decode cX0_addUp 55 = .ok (.getfield 9, 3) := by decide +kernel
theorem dX0_addUp_58 : decode cX0_addUp 58 = .ok (.iload_n 2, 1) := by decide +kernel
theorem dX0_addUp_59 : decode cX0_addUp 59 = .ok (.iconst 5, 1) := by decide +kernel
theorem dX0_addUp_60 : decode cX0_addUp 60 = .ok (.imul, 1) := by decide +kernel
theorem dX0_addUp_61 : decode cX0_addUp 61 = .ok (.iload_n 3, 1) := by decide +kernel
theorem dX0_addUp_62 : decode cX0_addUp 62 = .ok (.iadd, 1) := by decide +kernel
theorem dX0_addUp_63 : decode cX0_addUp 63 = .ok (.iload 4, 2) := by decide +kernel
theorem dX0_addUp_65 : decode cX0_addUp 65 = .ok (.iastore, 1) := by decide +kernel
theorem dX0_addUp_66 : decode cX0_addUp 66 = .ok (.iinc 3 1, 3) := by decide +kernel
theorem dX0_addUp_69 : decode cX0_addUp 69 = .ok (.goto (-57), 3) := by decide +kernel
theorem dX0_addUp_72 : decode cX0_addUp 72 = .ok (.iinc 2 1, 3) := by decide +kernel
theorem dX0_addUp_75 : decode cX0_addUp 75 = .ok (.goto (-73), 3) := by decide +kernel
theorem dX0_addUp_78 : decode cX0_addUp 78 = .ok (.return_, 1) := by decide +kernel
set_option maxRecDepth 20000 in
theorem ggX0_isAbove_X0_expandedMinor : GoodIn wsX0_isAbove wsX0_expandedMinor := goodIn_r _ [6, 7, 8, 1, 9, 10, 11, 12, 13, 14, 15, 16, 17, 18, 19, 20, 21] (by decide +kernel) (by decide +kernel)
set_option maxRecDepth 20000 in
theorem gX0_isAbove_X0_expandedMinor : GoodIn wsX0_isAbove (wsV RX0 37 RX0 yX0_expandedMinor wsX0_expandedMinor) := goodIn_app (goodIn_of _ (by decide +kernel)) ggX0_isAbove_X0_expandedMinor
theorem dX0_isAbove_0 : decode cX0_isAbove 0 = .ok (.aload_n 0, 1) := by decide +kernel
theorem dX0_isAbove_1 : decode cX0_isAbove 1 = .ok (.getfield 15, 3) := by decide +kernel
theorem dX0_isAbove_4 : decode cX0_isAbove 4 = .ok (.iconst 0, 1) := by decide +kernel
theorem dX0_isAbove_5 : decode cX0_isAbove 5 = .ok (.lconst 1, 1) := by decide +kernel
theorem dX0_isAbove_6 : decode cX0_isAbove 6 = .ok (.lastore, 1) := by decide +kernel
theorem dX0_isAbove_7 : decode cX0_isAbove 7 = .ok (.iconst 1, 1) := by decide +kernel
theorem dX0_isAbove_8 : decode cX0_isAbove 8 = .ok (.istore_n 3, 1) := by decide +kernel
theorem dX0_isAbove_9 : decode cX0_isAbove 9 = .ok (.iload_n 3, 1) := by decide +kernel
theorem dX0_isAbove_10 : decode cX0_isAbove 10 = .ok (.iconst 1, 1) := by decide +kernel
theorem dX0_isAbove_11 : decode cX0_isAbove 11 = .ok (.iload_n 2, 1) := by decide +kernel
theorem dX0_isAbove_12 : decode cX0_isAbove 12 = .ok (.ishl, 1) := by decide +kernel
theorem dX0_isAbove_13 : decode cX0_isAbove 13 = .ok (.if_icmp .ge 54, 3) := by decide +kernel
theorem dX0_isAbove_16 : decode cX0_isAbove 16 = .ok (.aload_n 0, 1) := by decide +kernel
theorem dX0_isAbove_17 : decode cX0_isAbove 17 = .ok (.getfield 15, 3) := by decide +kernel
theorem dX0_isAbove_20 : decode cX0_isAbove 20 = .ok (.iload_n 3, 1) := by decide +kernel
theorem dX0_isAbove_21 : decode cX0_isAbove 21 = .ok (.aload_n 0, 1) := by decide +kernel
theorem dX0_isAbove_22 : decode cX0_isAbove 22 = .ok (.iload_n 1, 1) := by decide +kernel
theorem dX0_isAbove_23 : decode cX0_isAbove 23 = .ok (.iload_n 3, 1) := by decide +kernel
theorem dX0_isAbove_24 : decode cX0_isAbove 24 = .ok (.invokevirtual 37, 3) := by decide +kernel
theorem dX0_isAbove_27 : decode cX0_isAbove 27 = .ok (.lastore, 1) := by decide +kernel
theorem dX0_isAbove_28 : decode cX0_isAbove 28 = .ok (.iload_n 3, 1) := by decide +kernel
theorem dX0_isAbove_29 : decode cX0_isAbove 29 = .ok (.iload_n 3, 1) := by decide +kernel
theorem dX0_isAbove_30 : decode cX0_isAbove 30 = .ok (.iconst 1, 1) := by decide +kernel
theorem dX0_isAbove_31 : decode cX0_isAbove 31 = .ok (.iadd, 1) := by decide +kernel
theorem dX0_isAbove_32 : decode cX0_isAbove 32 = .ok (.iand, 1) := by decide +kernel
theorem dX0_isAbove_33 : decode cX0_isAbove 33 = .ok (.ifCond .ne 7, 3) := by decide +kernel
theorem dX0_isAbove_36 : decode cX0_isAbove 36 = .ok (.iconst 1, 1) := by decide +kernel
theorem dX0_isAbove_37 : decode cX0_isAbove 37 = .ok (.goto 4, 3) := by decide +kernel
theorem dX0_isAbove_40 : decode cX0_isAbove 40 = .ok (.iconst 0, 1) := by decide +kernel
theorem dX0_isAbove_41 : decode cX0_isAbove 41 = .ok (.istore 4, 2) := by decide +kernel
theorem dX0_isAbove_43 : decode cX0_isAbove 43 = .ok (.iload 4, 2) := by decide +kernel
theorem dX0_isAbove_45 : decode cX0_isAbove 45 = .ok (.ifCond .eq 16, 3) := by decide +kernel
theorem dX0_isAbove_48 : decode cX0_isAbove 48 = .ok (.aload_n 0, 1) := by decide +kernel
theorem dX0_isAbove_49 : decode cX0_isAbove 49 = .ok (.getfield 15, 3) := by decide +kernel
theorem dX0_isAbove_52 : decode cX0_isAbove 52 = .ok (.iload_n 3, 1) := by decide +kernel
theorem dX0_isAbove_53 : decode cX0_isAbove 53 = .ok (.laload, 1) := by decide +kernel
theorem dX0_isAbove_54 : decode cX0_isAbove 54 = .ok (.lconst 0, 1) := by decide +kernel
theorem dX0_isAbove_55 : decode cX0_isAbove 55 = .ok (.lcmp, 1) := by decide +kernel
theorem dX0_isAbove_56 : decode cX0_isAbove 56 = .ok (.ifCond .gt 5, 3) := by decide +kernel
theorem dX0_isAbove_59 : decode cX0_isAbove 59 = .ok (.iconst 0, 1) := by decide +kernel
theorem dX0_isAbove_60 : decode cX0_isAbove 60 = .ok (.ireturn, 1) := by decide +kernel
theorem dX0_isAbove_61 : decode cX0_isAbove 61 = .ok (.iinc 3 1, 3) := by decide +kernel
theorem dX0_isAbove_64 : decode cX0_isAbove 64 = .ok (.goto (-55), 3) := by decide +kernel
theorem dX0_isAbove_67 : decode cX0_isAbove 67 = .ok (.iconst 1, 1) := by decide +kernel
theorem dX0_isAbove_68 : decode cX0_isAbove 68 = .ok (.ireturn, 1) := by decide +kernel
set_option maxRecDepth 20000 in
theorem ggX0_expandedMinor_J6_bitCount_0f7a4 : GoodIn wsX0_expandedMinor wsJ6_bitCount_0f7a4 := goodIn_r _ [7, 8, 9, 10] (by decide +kernel) (by decide +kernel)
set_option maxRecDepth 20000 in
theorem gX0_expandedMinor_J6_bitCount_0f7a4 : GoodIn wsX0_expandedMinor (va_wsS RX0 41 yJ6_bitCount_0f7a4 wsJ6_bitCount_0f7a4) := goodIn_app (goodIn_of _ (by decide +kernel)) ggX0_expandedMinor_J6_bitCount_0f7a4
set_option maxRecDepth 20000 in
theorem ggX0_expandedMinor_X5_holds : GoodIn wsX0_expandedMinor wsX5_holds := goodIn_r _ [14] (by decide +kernel) (by decide +kernel)
set_option maxRecDepth 20000 in
theorem gX0_expandedMinor_X5_holds : GoodIn wsX0_expandedMinor (va_wsS RX0 47 yX5_holds wsX5_holds) := goodIn_app (goodIn_of _ (by decide +kernel)) ggX0_expandedMinor_X5_holds
theorem dX0_expandedMinor_0 : decode cX0_expandedMinor 0 = .ok (.iload_n 2, 1) := by decide +kernel
theorem dX0_expandedMinor_1 : decode cX0_expandedMinor 1 = .ok (.invokestatic 41, 3) := by decide +kernel
theorem dX0_expandedMinor_4 : decode cX0_expandedMinor 4 = .ok (.iconst 1, 1) := by decide +kernel
theorem dX0_expandedMinor_5 : decode cX0_expandedMinor 5 = .ok (.isub, 1) := by decide +kernel
theorem dX0_expandedMinor_6 : decode cX0_expandedMinor 6 = .ok (.istore_n 3, 1) := by decide +kernel
theorem dX0_expandedMinor_7 : decode cX0_expandedMinor 7 = .ok (.lconst 0, 1) := by decide +kernel
theorem dX0_expandedMinor_8 : decode cX0_expandedMinor 8 = .ok (.lstore 4, 2) := by decide +kernel
theorem dX0_expandedMinor_10 : decode cX0_expandedMinor 10 = .ok (.lconst 1, 1) := by decide +kernel
theorem dX0_expandedMinor_11 : decode cX0_expandedMinor 11 = .ok (.lstore 6, 2) := by decide +kernel
theorem dX0_expandedMinor_13 : decode cX0_expandedMinor 13 = .ok (.iconst 4, 1) := by decide +kernel
theorem dX0_expandedMinor_14 : decode cX0_expandedMinor 14 = .ok (.istore 8, 2) := by decide +kernel
theorem dX0_expandedMinor_16 : decode cX0_expandedMinor 16 = .ok (.iload 8, 2) := by decide +kernel
theorem dX0_expandedMinor_18 : decode cX0_expandedMinor 18 = .ok (.ifCond .lt 78, 3) := by decide +kernel
theorem dX0_expandedMinor_21 : decode cX0_expandedMinor 21 = .ok (.iload_n 2, 1) := by decide +kernel
theorem dX0_expandedMinor_22 : decode cX0_expandedMinor 22 = .ok (.iload 8, 2) := by decide +kernel
theorem dX0_expandedMinor_24 : decode cX0_expandedMinor 24 = .ok (.invokestatic 47, 3) := by decide +kernel
theorem dX0_expandedMinor_27 : decode cX0_expandedMinor 27 = .ok (.ifCond .eq 63, 3) := by decide +kernel
theorem dX0_expandedMinor_30 : decode cX0_expandedMinor 30 = .ok (.iload 8, 2) := by decide +kernel
theorem dX0_expandedMinor_32 : decode cX0_expandedMinor 32 = .ok (.iload_n 3, 1) := by decide +kernel
theorem dX0_expandedMinor_33 : decode cX0_expandedMinor 33 = .ok (.if_icmp .ne 7, 3) := by decide +kernel
theorem dX0_expandedMinor_36 : decode cX0_expandedMinor 36 = .ok (.iload_n 1, 1) := by decide +kernel
theorem dX0_expandedMinor_37 : decode cX0_expandedMinor 37 = .ok (.goto 4, 3) := by decide +kernel
theorem dX0_expandedMinor_40 : decode cX0_expandedMinor 40 = .ok (.iconst 0, 1) := by decide +kernel
theorem dX0_expandedMinor_41 : decode cX0_expandedMinor 41 = .ok (.i2l, 1) := by decide +kernel
theorem dX0_expandedMinor_42 : decode cX0_expandedMinor 42 = .ok (.ldc2_w 52, 3) := by decide +kernel
theorem dX0_expandedMinor_45 : decode cX0_expandedMinor 45 = .ok (.aload_n 0, 1) := by decide +kernel
theorem dX0_expandedMinor_46 : decode cX0_expandedMinor 46 = .ok (.getfield 9, 3) := by decide +kernel
theorem dX0_expandedMinor_49 : decode cX0_expandedMinor 49 = .ok (.iload_n 3, 1) := by decide +kernel
theorem dX0_expandedMinor_50 : decode cX0_expandedMinor 50 = .ok (.iconst 5, 1) := by decide +kernel
theorem dX0_expandedMinor_51 : decode cX0_expandedMinor 51 = .ok (.imul, 1) := by decide +kernel
theorem dX0_expandedMinor_52 : decode cX0_expandedMinor 52 = .ok (.iload 8, 2) := by decide +kernel
theorem dX0_expandedMinor_54 : decode cX0_expandedMinor 54 = .ok (.iadd, 1) := by decide +kernel
theorem dX0_expandedMinor_55 : decode cX0_expandedMinor 55 = .ok (.iaload, 1) := by decide +kernel
theorem dX0_expandedMinor_56 : decode cX0_expandedMinor 56 = .ok (.i2l, 1) := by decide +kernel
theorem dX0_expandedMinor_57 : decode cX0_expandedMinor 57 = .ok (.lmul, 1) := by decide +kernel
theorem dX0_expandedMinor_58 : decode cX0_expandedMinor 58 = .ok (.lsub, 1) := by decide +kernel
theorem dX0_expandedMinor_59 : decode cX0_expandedMinor 59 = .ok (.lstore 9, 2) := by decide +kernel
theorem dX0_expandedMinor_61 : decode cX0_expandedMinor 61 = .ok (.lload 4, 2) := by decide +kernel
theorem dX0_expandedMinor_63 : decode cX0_expandedMinor 63 = .ok (.lload 6, 2) := by decide +kernel
theorem dX0_expandedMinor_65 : decode cX0_expandedMinor 65 = .ok (.lload 9, 2) := by decide +kernel
theorem dX0_expandedMinor_67 : decode cX0_expandedMinor 67 = .ok (.lmul, 1) := by decide +kernel
theorem dX0_expandedMinor_68 : decode cX0_expandedMinor 68 = .ok (.aload_n 0, 1) := by decide +kernel
theorem dX0_expandedMinor_69 : decode cX0_expandedMinor 69 = .ok (.getfield 15, 3) := by decide +kernel
theorem dX0_expandedMinor_72 : decode cX0_expandedMinor 72 = .ok (.iload_n 2, 1) := by decide +kernel
theorem dX0_expandedMinor_73 : decode cX0_expandedMinor 73 = .ok (.iconst 1, 1) := by decide +kernel
theorem dX0_expandedMinor_74 : decode cX0_expandedMinor 74 = .ok (.iload 8, 2) := by decide +kernel
theorem dX0_expandedMinor_76 : decode cX0_expandedMinor 76 = .ok (.ishl, 1) := by decide +kernel
theorem dX0_expandedMinor_77 : decode cX0_expandedMinor 77 = .ok (.iconst (-1), 1) := by decide +kernel
theorem dX0_expandedMinor_78 : decode cX0_expandedMinor 78 = .ok (.ixor, 1) := by decide +kernel
theorem dX0_expandedMinor_79 : decode cX0_expandedMinor 79 = .ok (.iand, 1) := by decide +kernel
theorem dX0_expandedMinor_80 : decode cX0_expandedMinor 80 = .ok (.laload, 1) := by decide +kernel
theorem dX0_expandedMinor_81 : decode cX0_expandedMinor 81 = .ok (.lmul, 1) := by decide +kernel
theorem dX0_expandedMinor_82 : decode cX0_expandedMinor 82 = .ok (.ladd, 1) := by decide +kernel
theorem dX0_expandedMinor_83 : decode cX0_expandedMinor 83 = .ok (.lstore 4, 2) := by decide +kernel
theorem dX0_expandedMinor_85 : decode cX0_expandedMinor 85 = .ok (.lload 6, 2) := by decide +kernel
theorem dX0_expandedMinor_87 : decode cX0_expandedMinor 87 = .ok (.lneg, 1) := by decide +kernel
theorem dX0_expandedMinor_88 : decode cX0_expandedMinor 88 = .ok (.lstore 6, 2) := by decide +kernel
theorem dX0_expandedMinor_90 : decode cX0_expandedMinor 90 = .ok (.iinc 8 (-1), 3) := by decide +kernel
theorem dX0_expandedMinor_93 : decode cX0_expandedMinor 93 = .ok (.goto (-77), 3) := by decide +kernel
theorem dX0_expandedMinor_96 : decode cX0_expandedMinor 96 = .ok (.lload 4, 2) := by decide +kernel
theorem dX0_expandedMinor_98 : decode cX0_expandedMinor 98 = .ok (.lreturn, 1) := by decide +kernel
theorem dX1_init_0 : decode cX1_init 0 = .ok (.aload_n 0, 1) := by decide +kernel
theorem dX1_init_1 : decode cX1_init 1 = .ok (.invokespecial 3, 3) := by decide +kernel
theorem dX1_init_4 : decode cX1_init 4 = .ok (.aload_n 0, 1) := by decide +kernel
theorem dX1_init_5 : decode cX1_init 5 = .ok (.iconst 4, 1) := by decide +kernel
theorem dX1_init_6 : decode cX1_init 6 = .ok (.newarray .int, 2) := by decide +kernel
theorem dX1_init_8 : decode cX1_init 8 = .ok (.putfield 9, 3) := by decide +kernel
theorem dX1_init_11 : decode cX1_init 11 = .ok (.aload_n 0, 1) := by decide +kernel
theorem dX1_init_12 : decode cX1_init 12 = .ok (.iconst 5, 1) := by decide +kernel
theorem dX1_init_13 : decode cX1_init 13 = .ok (.newarray .int, 2) := by decide +kernel
theorem dX1_init_15 : decode cX1_init 15 = .ok (.putfield 15, 3) := by decide +kernel
theorem dX1_init_18 : decode cX1_init 18 = .ok (.return_, 1) := by decide +kernel
set_option maxRecDepth 20000 in
theorem ggX1_allHold_J7_fill_53178 : GoodIn wsX1_allHold wsJ7_fill_53178 := goodIn_r _ [6] (by decide +kernel) (by decide +kernel)
set_option maxRecDepth 20000 in
theorem gX1_allHold_J7_fill_53178 : GoodIn wsX1_allHold (va_wsS RX1 22 yJ7_fill_53178 wsJ7_fill_53178) := goodIn_app (goodIn_of _ (by decide +kernel)) ggX1_allHold_J7_fill_53178
set_option maxRecDepth 20000 in
theorem ggX1_allHold_X1_unitHolds : GoodIn wsX1_allHold wsX1_unitHolds := goodIn_r _ [11, 12, 13, 14, 15, 16, 17, 18, 19, 20, 21, 22, 23, 24, 10, 25, 1, 2, 49, 50, 46, 47, 48] (by decide +kernel) (by decide +kernel)
set_option maxRecDepth 20000 in
theorem gX1_allHold_X1_unitHolds : GoodIn wsX1_allHold (wsV RX1 28 RX1 yX1_unitHolds wsX1_unitHolds) := goodIn_app (goodIn_of _ (by decide +kernel)) ggX1_allHold_X1_unitHolds
set_option maxRecDepth 20000 in
theorem ggX1_allHold_X1_eitherWayHolds : GoodIn wsX1_allHold wsX1_eitherWayHolds := goodIn_r _ [29, 12, 13, 14, 15, 16, 17, 18, 19, 20, 21, 22, 23, 24, 10, 25, 1, 2, 49, 50, 46, 47, 48] (by decide +kernel) (by decide +kernel)
set_option maxRecDepth 20000 in
theorem gX1_allHold_X1_eitherWayHolds : GoodIn wsX1_allHold (wsV RX1 32 RX1 yX1_eitherWayHolds wsX1_eitherWayHolds) := goodIn_app (goodIn_of _ (by decide +kernel)) ggX1_allHold_X1_eitherWayHolds
set_option maxRecDepth 20000 in
theorem ggX1_allHold_X1_partnersHold : GoodIn wsX1_allHold wsX1_partnersHold := goodIn_r _ [33, 12, 34, 13, 14, 15, 16, 17, 18, 19, 20, 21, 22, 23, 24, 10, 25, 1, 2, 49, 50, 46, 47, 48] (by decide +kernel) (by decide +kernel)
set_option maxRecDepth 20000 in
theorem gX1_allHold_X1_partnersHold : GoodIn wsX1_allHold (wsV RX1 35 RX1 yX1_partnersHold wsX1_partnersHold) := goodIn_app (goodIn_of _ (by decide +kernel)) ggX1_allHold_X1_partnersHold
set_option maxRecDepth 20000 in
theorem ggX1_allHold_X1_turnedHolds : GoodIn wsX1_allHold wsX1_turnedHolds := goodIn_r _ [38, 12, 34, 13, 14, 15, 16, 17, 18, 19, 20, 21, 22, 23, 24, 10, 25, 1, 2, 49, 50, 46, 47, 48] (by decide +kernel) (by decide +kernel)
set_option maxRecDepth 20000 in
theorem gX1_allHold_X1_turnedHolds : GoodIn wsX1_allHold (wsV RX1 38 RX1 yX1_turnedHolds wsX1_turnedHolds) := goodIn_app (goodIn_of _ (by decide +kernel)) ggX1_allHold_X1_turnedHolds
set_option maxRecDepth 20000 in
theorem ggX1_allHold_X1_threeHolds : GoodIn wsX1_allHold wsX1_threeHolds := goodIn_r _ [42, 12, 43, 44, 10, 45, 13, 14, 15, 16, 17, 18, 19, 20, 21, 22, 23, 24, 25, 1, 2, 49, 50, 46, 47, 48] (by decide +kernel) (by decide +kernel)
set_option maxRecDepth 20000 in
theorem gX1_allHold_X1_threeHolds : GoodIn wsX1_allHold (wsV RX1 41 RX1 yX1_threeHolds wsX1_threeHolds) := goodIn_app (goodIn_of _ (by decide +kernel)) ggX1_allHold_X1_threeHolds
theorem dX1_allHold_0 : decode cX1_allHold 0 = .ok (.aload_n 0, 1) := by decide +kernel
theorem dX1_allHold_1 : decode cX1_allHold 1 = .ok (.iconst 0, 1) := by decide +kernel
theorem dX1_allHold_2 : decode cX1_allHold 2 = .ok (.putfield 18, 3) := by decide +kernel
theorem dX1_allHold_5 : decode cX1_allHold 5 = .ok (.aload_n 0, 1) := by decide +kernel
theorem dX1_allHold_6 : decode cX1_allHold 6 = .ok (.getfield 9, 3) := by decide +kernel
theorem dX1_allHold_9 : decode cX1_allHold 9 = .ok (.iconst (-1), 1) := by decide +kernel
theorem dX1_allHold_10 : decode cX1_allHold 10 = .ok (.invokestatic 22, 3) := by decide +kernel
theorem dX1_allHold_13 : decode cX1_allHold 13 = .ok (.aload_n 0, 1) := by decide +kernel
theorem dX1_allHold_14 : decode cX1_allHold 14 = .ok (.aload_n 1, 1) := by decide +kernel
theorem dX1_allHold_15 : decode cX1_allHold 15 = .ok (.invokevirtual 28, 3) := by decide +kernel
theorem dX1_allHold_18 : decode cX1_allHold 18 = .ok (.ifCond .eq 39, 3) := by decide +kernel
theorem dX1_allHold_21 : decode cX1_allHold 21 = .ok (.aload_n 0, 1) := by decide +kernel
theorem dX1_allHold_22 : decode cX1_allHold 22 = .ok (.aload_n 1, 1) := by decide +kernel
theorem dX1_allHold_23 : decode cX1_allHold 23 = .ok (.invokevirtual 32, 3) := by decide +kernel
theorem dX1_allHold_26 : decode cX1_allHold 26 = .ok (.ifCond .eq 31, 3) := by decide +kernel
theorem dX1_allHold_29 : decode cX1_allHold 29 = .ok (.aload_n 0, 1) := by decide +kernel
theorem dX1_allHold_30 : decode cX1_allHold 30 = .ok (.aload_n 1, 1) := by decide +kernel
theorem dX1_allHold_31 : decode cX1_allHold 31 = .ok (.invokevirtual 35, 3) := by decide +kernel
theorem dX1_allHold_34 : decode cX1_allHold 34 = .ok (.ifCond .eq 23, 3) := by decide +kernel
theorem dX1_allHold_37 : decode cX1_allHold 37 = .ok (.aload_n 0, 1) := by decide +kernel
theorem dX1_allHold_38 : decode cX1_allHold 38 = .ok (.aload_n 1, 1) := by decide +kernel
theorem dX1_allHold_39 : decode cX1_allHold 39 = .ok (.invokevirtual 38, 3) := by decide +kernel
theorem dX1_allHold_42 : decode cX1_allHold 42 = .ok (.ifCond .eq 15, 3) := by decide +kernel
theorem dX1_allHold_45 : decode cX1_allHold 45 = .ok (.aload_n 0, 1) := by decide +kernel
theorem dX1_allHold_46 : decode cX1_allHold 46 = .ok (.aload_n 1, 1) := by decide +kernel
theorem dX1_allHold_47 : decode cX1_allHold 47 = .ok (.invokevirtual 41, 3) := by decide +kernel
theorem dX1_allHold_50 : decode cX1_allHold 50 = .ok (.ifCond .eq 7, 3) := by decide +kernel
theorem dX1_allHold_53 : decode cX1_allHold 53 = .ok (.iconst 1, 1) := by decide +kernel
theorem dX1_allHold_54 : decode cX1_allHold 54 = .ok (.goto 4, 3) := by decide +kernel
theorem dX1_allHold_57 : decode cX1_allHold 57 = .ok (.iconst 0, 1) := by decide +kernel
theorem dX1_allHold_58 : decode cX1_allHold 58 = .ok (.ireturn, 1) := by decide +kernel
theorem dX1_breaks_0 : decode cX1_breaks 0 = .ok (.aload_n 0, 1) := by decide +kernel
theorem dX1_breaks_1 : decode cX1_breaks 1 = .ok (.iload_n 1, 1) := by decide +kernel
theorem dX1_breaks_2 : decode cX1_breaks 2 = .ok (.putfield 18, 3) := by decide +kernel
theorem dX1_breaks_5 : decode cX1_breaks 5 = .ok (.aload_n 0, 1) := by decide +kernel
theorem dX1_breaks_6 : decode cX1_breaks 6 = .ok (.getfield 9, 3) := by decide +kernel
theorem dX1_breaks_9 : decode cX1_breaks 9 = .ok (.iconst 0, 1) := by decide +kernel
theorem dX1_breaks_10 : decode cX1_breaks 10 = .ok (.iload_n 2, 1) := by decide +kernel
theorem dX1_breaks_11 : decode cX1_breaks 11 = .ok (.iastore, 1) := by decide +kernel
theorem dX1_breaks_12 : decode cX1_breaks 12 = .ok (.aload_n 0, 1) := by decide +kernel
theorem dX1_breaks_13 : decode cX1_breaks 13 = .ok (.getfield 9, 3) := by decide +kernel
theorem dX1_breaks_16 : decode cX1_breaks 16 = .ok (.iconst 1, 1) := by decide +kernel
theorem dX1_breaks_17 : decode cX1_breaks 17 = .ok (.iload_n 3, 1) := by decide +kernel
theorem dX1_breaks_18 : decode cX1_breaks 18 = .ok (.iastore, 1) := by decide +kernel
theorem dX1_breaks_19 : decode cX1_breaks 19 = .ok (.aload_n 0, 1) := by decide +kernel
theorem dX1_breaks_20 : decode cX1_breaks 20 = .ok (.getfield 9, 3) := by decide +kernel
theorem dX1_breaks_23 : decode cX1_breaks 23 = .ok (.iconst 2, 1) := by decide +kernel
theorem dX1_breaks_24 : decode cX1_breaks 24 = .ok (.iload 4, 2) := by decide +kernel
theorem dX1_breaks_26 : decode cX1_breaks 26 = .ok (.iastore, 1) := by decide +kernel
theorem dX1_breaks_27 : decode cX1_breaks 27 = .ok (.aload_n 0, 1) := by decide +kernel
theorem dX1_breaks_28 : decode cX1_breaks 28 = .ok (.getfield 9, 3) := by decide +kernel
theorem dX1_breaks_31 : decode cX1_breaks 31 = .ok (.iconst 3, 1) := by decide +kernel
theorem dX1_breaks_32 : decode cX1_breaks 32 = .ok (.iload 5, 2) := by decide +kernel
theorem dX1_breaks_34 : decode cX1_breaks 34 = .ok (.iastore, 1) := by decide +kernel
theorem dX1_breaks_35 : decode cX1_breaks 35 = .ok (.iconst 0, 1) := by decide +kernel
theorem dX1_breaks_36 : decode cX1_breaks 36 = .ok (.ireturn, 1) := by decide +kernel
set_option maxRecDepth 20000 in
theorem ggX1_unitHolds_X7_number : GoodIn wsX1_unitHolds wsX7_number := goodIn_r _ [6, 7, 8, 9, 5, 10, 18, 19] (by decide +kernel) (by decide +kernel)
set_option maxRecDepth 20000 in
theorem gX1_unitHolds_X7_number : GoodIn wsX1_unitHolds (wsV RX1 49 RX7 yX7_number wsX7_number) := goodIn_app (goodIn_of _ (by decide +kernel)) ggX1_unitHolds_X7_number
set_option maxRecDepth 20000 in
theorem ggX1_unitHolds_X1_breaks : GoodIn wsX1_unitHolds wsX1_breaks := goodIn_r _ [15, 16, 17, 20, 21, 22] (by decide +kernel) (by decide +kernel)
set_option maxRecDepth 20000 in
theorem gX1_unitHolds_X1_breaks : GoodIn wsX1_unitHolds (wsV RX1 53 RX1 yX1_breaks wsX1_breaks) := goodIn_app (goodIn_of _ (by decide +kernel)) ggX1_unitHolds_X1_breaks
theorem dX1_unitHolds_0 : decode cX1_unitHolds 0 = .ok (.iconst 0, 1) := by decide +kernel
theorem dX1_unitHolds_1 : decode cX1_unitHolds 1 = .ok (.istore_n 2, 1) := by decide +kernel
theorem dX1_unitHolds_2 : decode cX1_unitHolds 2 = .ok (.iload_n 2, 1) := by decide +kernel
theorem dX1_unitHolds_3 : decode cX1_unitHolds 3 = .ok (.aload_n 1, 1) := by decide +kernel
theorem dX1_unitHolds_4 : decode cX1_unitHolds 4 = .ok (.getfield 44, 3) := by decide +kernel
theorem dX1_unitHolds_7 : decode cX1_unitHolds 7 = .ok (.if_icmp .ge 71, 3) := by decide +kernel
theorem dX1_unitHolds_10 : decode cX1_unitHolds 10 = .ok (.iconst 0, 1) := by decide +kernel
theorem dX1_unitHolds_11 : decode cX1_unitHolds 11 = .ok (.istore_n 3, 1) := by decide +kernel
theorem dX1_unitHolds_12 : decode cX1_unitHolds 12 = .ok (.iload_n 3, 1) := by decide +kernel
theorem dX1_unitHolds_13 : decode cX1_unitHolds 13 = .ok (.aload_n 1, 1) := by decide +kernel
theorem dX1_unitHolds_14 : decode cX1_unitHolds 14 = .ok (.getfield 44, 3) := by decide +kernel
theorem dX1_unitHolds_17 : decode cX1_unitHolds 17 = .ok (.if_icmp .ge 55, 3) := by decide +kernel
theorem dX1_unitHolds_20 : decode cX1_unitHolds 20 = .ok (.iload_n 2, 1) := by decide +kernel
theorem dX1_unitHolds_21 : decode cX1_unitHolds 21 = .ok (.iload_n 3, 1) := by decide +kernel
theorem dX1_unitHolds_22 : decode cX1_unitHolds 22 = .ok (.if_icmp .ne 7, 3) := by decide +kernel
theorem dX1_unitHolds_25 : decode cX1_unitHolds 25 = .ok (.iconst 1, 1) := by decide +kernel
theorem dX1_unitHolds_26 : decode cX1_unitHolds 26 = .ok (.goto 4, 3) := by decide +kernel
theorem dX1_unitHolds_29 : decode cX1_unitHolds 29 = .ok (.iconst 0, 1) := by decide +kernel
theorem dX1_unitHolds_30 : decode cX1_unitHolds 30 = .ok (.istore 4, 2) := by decide +kernel
theorem dX1_unitHolds_32 : decode cX1_unitHolds 32 = .ok (.aload_n 1, 1) := by decide +kernel
theorem dX1_unitHolds_33 : decode cX1_unitHolds 33 = .ok (.iconst 0, 1) := by decide +kernel
theorem dX1_unitHolds_34 : decode cX1_unitHolds 34 = .ok (.iload_n 2, 1) := by decide +kernel
theorem dX1_unitHolds_35 : decode cX1_unitHolds 35 = .ok (.iload_n 3, 1) := by decide +kernel
theorem dX1_unitHolds_36 : decode cX1_unitHolds 36 = .ok (.invokevirtual 49, 3) := by decide +kernel
theorem dX1_unitHolds_39 : decode cX1_unitHolds 39 = .ok (.iload 4, 2) := by decide +kernel
theorem dX1_unitHolds_41 : decode cX1_unitHolds 41 = .ok (.if_icmp .ne 15, 3) := by decide +kernel
theorem dX1_unitHolds_44 : decode cX1_unitHolds 44 = .ok (.aload_n 1, 1) := by decide +kernel
theorem dX1_unitHolds_45 : decode cX1_unitHolds 45 = .ok (.iload_n 2, 1) := by decide +kernel
theorem dX1_unitHolds_46 : decode cX1_unitHolds 46 = .ok (.iconst 0, 1) := by decide +kernel
theorem dX1_unitHolds_47 : decode cX1_unitHolds 47 = .ok (.iload_n 3, 1) := by decide +kernel
theorem dX1_unitHolds_48 : decode cX1_unitHolds 48 = .ok (.invokevirtual 49, 3) := by decide +kernel
theorem dX1_unitHolds_51 : decode cX1_unitHolds 51 = .ok (.iload 4, 2) := by decide +kernel
theorem dX1_unitHolds_53 : decode cX1_unitHolds 53 = .ok (.if_icmp .eq 13, 3) := by decide +kernel
theorem dX1_unitHolds_56 : decode cX1_unitHolds 56 = .ok (.aload_n 0, 1) := by decide +kernel
theorem dX1_unitHolds_57 : decode cX1_unitHolds 57 = .ok (.iconst 1, 1) := by decide +kernel
theorem dX1_unitHolds_58 : decode cX1_unitHolds 58 = .ok (.iload_n 2, 1) := by decide +kernel
theorem dX1_unitHolds_59 : decode cX1_unitHolds 59 = .ok (.iload_n 3, 1) := by decide +kernel
theorem dX1_unitHolds_60 : decode cX1_unitHolds 60 = .ok (.iconst (-1), 1) := by decide +kernel
theorem dX1_unitHolds_61 : decode cX1_unitHolds 61 = .ok (.iconst (-1), 1) := by decide +kernel
theorem dX1_unitHolds_62 : decode cX1_unitHolds 62 = .ok (.invokevirtual 53, 3) := by decide +kernel
theorem dX1_unitHolds_65 : decode cX1_unitHolds 65 = .ok (.ireturn, 1) := by decide +kernel
theorem dX1_unitHolds_66 : decode cX1_unitHolds 66 = .ok (.iinc 3 1, 3) := by decide +kernel
theorem dX1_unitHolds_69 : decode cX1_unitHolds 69 = .ok (.goto (-57), 3) := by decide +kernel
theorem dX1_unitHolds_72 : decode cX1_unitHolds 72 = .ok (.iinc 2 1, 3) := by decide +kernel
theorem dX1_unitHolds_75 : decode cX1_unitHolds 75 = .ok (.goto (-73), 3) := by decide +kernel
theorem dX1_unitHolds_78 : decode cX1_unitHolds 78 = .ok (.iconst 1, 1) := by decide +kernel
theorem dX1_unitHolds_79 : decode cX1_unitHolds 79 = .ok (.ireturn, 1) := by decide +kernel
set_option maxRecDepth 20000 in
theorem ggX1_eitherWayHolds_X7_number : GoodIn wsX1_eitherWayHolds wsX7_number := goodIn_r _ [6, 7, 8, 9, 5, 10, 18, 19] (by decide +kernel) (by decide +kernel)
set_option maxRecDepth 20000 in
theorem gX1_eitherWayHolds_X7_number : GoodIn wsX1_eitherWayHolds (wsV RX1 49 RX7 yX7_number wsX7_number) := goodIn_app (goodIn_of _ (by decide +kernel)) ggX1_eitherWayHolds_X7_number
set_option maxRecDepth 20000 in
theorem ggX1_eitherWayHolds_X1_breaks : GoodIn wsX1_eitherWayHolds wsX1_breaks := goodIn_r _ [15, 16, 17, 20, 21, 22] (by decide +kernel) (by decide +kernel)
set_option maxRecDepth 20000 in
theorem gX1_eitherWayHolds_X1_breaks : GoodIn wsX1_eitherWayHolds (wsV RX1 53 RX1 yX1_breaks wsX1_breaks) := goodIn_app (goodIn_of _ (by decide +kernel)) ggX1_eitherWayHolds_X1_breaks
theorem dX1_eitherWayHolds_0 : decode cX1_eitherWayHolds 0 = .ok (.iconst 0, 1) := by decide +kernel
theorem dX1_eitherWayHolds_1 : decode cX1_eitherWayHolds 1 = .ok (.istore_n 2, 1) := by decide +kernel
theorem dX1_eitherWayHolds_2 : decode cX1_eitherWayHolds 2 = .ok (.iload_n 2, 1) := by decide +kernel
theorem dX1_eitherWayHolds_3 : decode cX1_eitherWayHolds 3 = .ok (.aload_n 1, 1) := by decide +kernel
theorem dX1_eitherWayHolds_4 : decode cX1_eitherWayHolds 4 = .ok (.getfield 44, 3) := by decide +kernel
theorem dX1_eitherWayHolds_7 : decode cX1_eitherWayHolds 7 = .ok (.if_icmp .ge 73, 3) := by decide +kernel
theorem dX1_eitherWayHolds_10 : decode cX1_eitherWayHolds 10 = .ok (.iconst 0, 1) := by decide +kernel
theorem dX1_eitherWayHolds_11 : decode cX1_eitherWayHolds 11 = .ok (.istore_n 3, 1) := by decide +kernel
theorem dX1_eitherWayHolds_12 : decode cX1_eitherWayHolds 12 = .ok (.iload_n 3, 1) := by decide +kernel
theorem dX1_eitherWayHolds_13 : decode cX1_eitherWayHolds 13 = .ok (.aload_n 1, 1) := by decide +kernel
theorem dX1_eitherWayHolds_14 : decode cX1_eitherWayHolds 14 = .ok (.getfield 44, 3) := by decide +kernel
theorem dX1_eitherWayHolds_17 : decode cX1_eitherWayHolds 17 = .ok (.if_icmp .ge 57, 3) := by decide +kernel
theorem dX1_eitherWayHolds_20 : decode cX1_eitherWayHolds 20 = .ok (.iconst 0, 1) := by decide +kernel
theorem dX1_eitherWayHolds_21 : decode cX1_eitherWayHolds 21 = .ok (.istore 4, 2) := by decide +kernel
theorem dX1_eitherWayHolds_23 : decode cX1_eitherWayHolds 23 = .ok (.iload 4, 2) := by decide +kernel
theorem dX1_eitherWayHolds_25 : decode cX1_eitherWayHolds 25 = .ok (.aload_n 1, 1) := by decide +kernel
theorem dX1_eitherWayHolds_26 : decode cX1_eitherWayHolds 26 = .ok (.getfield 44, 3) := by decide +kernel
theorem dX1_eitherWayHolds_29 : decode cX1_eitherWayHolds 29 = .ok (.if_icmp .ge 39, 3) := by decide +kernel
theorem dX1_eitherWayHolds_32 : decode cX1_eitherWayHolds 32 = .ok (.aload_n 1, 1) := by decide +kernel
theorem dX1_eitherWayHolds_33 : decode cX1_eitherWayHolds 33 = .ok (.iload_n 2, 1) := by decide +kernel
theorem dX1_eitherWayHolds_34 : decode cX1_eitherWayHolds 34 = .ok (.iload_n 3, 1) := by decide +kernel
theorem dX1_eitherWayHolds_35 : decode cX1_eitherWayHolds 35 = .ok (.iload 4, 2) := by decide +kernel
theorem dX1_eitherWayHolds_37 : decode cX1_eitherWayHolds 37 = .ok (.invokevirtual 49, 3) := by decide +kernel
theorem dX1_eitherWayHolds_40 : decode cX1_eitherWayHolds 40 = .ok (.aload_n 1, 1) := by decide +kernel
theorem dX1_eitherWayHolds_41 : decode cX1_eitherWayHolds 41 = .ok (.iload_n 3, 1) := by decide +kernel
theorem dX1_eitherWayHolds_42 : decode cX1_eitherWayHolds 42 = .ok (.iload_n 2, 1) := by decide +kernel
theorem dX1_eitherWayHolds_43 : decode cX1_eitherWayHolds 43 = .ok (.iload 4, 2) := by decide +kernel
theorem dX1_eitherWayHolds_45 : decode cX1_eitherWayHolds 45 = .ok (.invokevirtual 49, 3) := by decide +kernel
theorem dX1_eitherWayHolds_48 : decode cX1_eitherWayHolds 48 = .ok (.if_icmp .eq 14, 3) := by decide +kernel
theorem dX1_eitherWayHolds_51 : decode cX1_eitherWayHolds 51 = .ok (.aload_n 0, 1) := by decide +kernel
theorem dX1_eitherWayHolds_52 : decode cX1_eitherWayHolds 52 = .ok (.iconst 2, 1) := by decide +kernel
theorem dX1_eitherWayHolds_53 : decode cX1_eitherWayHolds 53 = .ok (.iload_n 2, 1) := by decide +kernel
theorem dX1_eitherWayHolds_54 : decode cX1_eitherWayHolds 54 = .ok (.iload_n 3, 1) := by decide +kernel
theorem dX1_eitherWayHolds_55 : decode cX1_eitherWayHolds 55 = .ok (.iload 4, 2) := by decide +kernel
theorem dX1_eitherWayHolds_57 : decode cX1_eitherWayHolds 57 = .ok (.iconst (-1), 1) := by decide +kernel
theorem dX1_eitherWayHolds_58 : decode cX1_eitherWayHolds 58 = .ok (.invokevirtual 53, 3) := by decide +kernel
theorem dX1_eitherWayHolds_61 : decode cX1_eitherWayHolds 61 = .ok (.ireturn, 1) := by decide +kernel
theorem dX1_eitherWayHolds_62 : decode cX1_eitherWayHolds 62 = .ok (.iinc 4 1, 3) := by decide +kernel
theorem dX1_eitherWayHolds_65 : decode cX1_eitherWayHolds 65 = .ok (.goto (-42), 3) := by decide +kernel
theorem dX1_eitherWayHolds_68 : decode cX1_eitherWayHolds 68 = .ok (.iinc 3 1, 3) := by decide +kernel
theorem dX1_eitherWayHolds_71 : decode cX1_eitherWayHolds 71 = .ok (.goto (-59), 3) := by decide +kernel
theorem dX1_eitherWayHolds_74 : decode cX1_eitherWayHolds 74 = .ok (.iinc 2 1, 3) := by decide +kernel
theorem dX1_eitherWayHolds_77 : decode cX1_eitherWayHolds 77 = .ok (.goto (-75), 3) := by decide +kernel
theorem dX1_eitherWayHolds_80 : decode cX1_eitherWayHolds 80 = .ok (.iconst 1, 1) := by decide +kernel
theorem dX1_eitherWayHolds_81 : decode cX1_eitherWayHolds 81 = .ok (.ireturn, 1) := by decide +kernel
set_option maxRecDepth 20000 in
theorem ggX1_partnersHold_X7_number : GoodIn wsX1_partnersHold wsX7_number := goodIn_r _ [7, 8, 9, 10, 6, 11, 19, 20] (by decide +kernel) (by decide +kernel)
set_option maxRecDepth 20000 in
theorem gX1_partnersHold_X7_number : GoodIn wsX1_partnersHold (wsV RX1 49 RX7 yX7_number wsX7_number) := goodIn_app (goodIn_of _ (by decide +kernel)) ggX1_partnersHold_X7_number
set_option maxRecDepth 20000 in
theorem ggX1_partnersHold_X1_breaks : GoodIn wsX1_partnersHold wsX1_breaks := goodIn_r _ [16, 17, 18, 21, 22, 23] (by decide +kernel) (by decide +kernel)
set_option maxRecDepth 20000 in
theorem gX1_partnersHold_X1_breaks : GoodIn wsX1_partnersHold (wsV RX1 53 RX1 yX1_breaks wsX1_breaks) := goodIn_app (goodIn_of _ (by decide +kernel)) ggX1_partnersHold_X1_breaks
theorem dX1_partnersHold_0 : decode cX1_partnersHold 0 = .ok (.iconst 0, 1) := by decide +kernel
theorem dX1_partnersHold_1 : decode cX1_partnersHold 1 = .ok (.istore_n 2, 1) := by decide +kernel
theorem dX1_partnersHold_2 : decode cX1_partnersHold 2 = .ok (.iload_n 2, 1) := by decide +kernel
theorem dX1_partnersHold_3 : decode cX1_partnersHold 3 = .ok (.aload_n 1, 1) := by decide +kernel
theorem dX1_partnersHold_4 : decode cX1_partnersHold 4 = .ok (.getfield 44, 3) := by decide +kernel
theorem dX1_partnersHold_7 : decode cX1_partnersHold 7 = .ok (.if_icmp .ge 74, 3) := by decide +kernel
theorem dX1_partnersHold_10 : decode cX1_partnersHold 10 = .ok (.iconst 0, 1) := by decide +kernel
theorem dX1_partnersHold_11 : decode cX1_partnersHold 11 = .ok (.istore_n 3, 1) := by decide +kernel
theorem dX1_partnersHold_12 : decode cX1_partnersHold 12 = .ok (.iconst 0, 1) := by decide +kernel
theorem dX1_partnersHold_13 : decode cX1_partnersHold 13 = .ok (.istore 4, 2) := by decide +kernel
theorem dX1_partnersHold_15 : decode cX1_partnersHold 15 = .ok (.iload 4, 2) := by decide +kernel
theorem dX1_partnersHold_17 : decode cX1_partnersHold 17 = .ok (.aload_n 1, 1) := by decide +kernel
theorem dX1_partnersHold_18 : decode cX1_partnersHold 18 = .ok (.getfield 44, 3) := by decide +kernel
theorem dX1_partnersHold_21 : decode cX1_partnersHold 21 = .ok (.if_icmp .ge 39, 3) := by decide +kernel
theorem dX1_partnersHold_24 : decode cX1_partnersHold 24 = .ok (.iload_n 3, 1) := by decide +kernel
theorem dX1_partnersHold_25 : decode cX1_partnersHold 25 = .ok (.aload_n 1, 1) := by decide +kernel
theorem dX1_partnersHold_26 : decode cX1_partnersHold 26 = .ok (.iload_n 2, 1) := by decide +kernel
theorem dX1_partnersHold_27 : decode cX1_partnersHold 27 = .ok (.iload 4, 2) := by decide +kernel
theorem dX1_partnersHold_29 : decode cX1_partnersHold 29 = .ok (.iconst 0, 1) := by decide +kernel
theorem dX1_partnersHold_30 : decode cX1_partnersHold 30 = .ok (.invokevirtual 49, 3) := by decide +kernel
theorem dX1_partnersHold_33 : decode cX1_partnersHold 33 = .ok (.iadd, 1) := by decide +kernel
theorem dX1_partnersHold_34 : decode cX1_partnersHold 34 = .ok (.istore_n 3, 1) := by decide +kernel
theorem dX1_partnersHold_35 : decode cX1_partnersHold 35 = .ok (.aload_n 1, 1) := by decide +kernel
theorem dX1_partnersHold_36 : decode cX1_partnersHold 36 = .ok (.iload_n 2, 1) := by decide +kernel
theorem dX1_partnersHold_37 : decode cX1_partnersHold 37 = .ok (.iload 4, 2) := by decide +kernel
theorem dX1_partnersHold_39 : decode cX1_partnersHold 39 = .ok (.iconst 0, 1) := by decide +kernel
theorem dX1_partnersHold_40 : decode cX1_partnersHold 40 = .ok (.invokevirtual 49, 3) := by decide +kernel
theorem dX1_partnersHold_43 : decode cX1_partnersHold 43 = .ok (.ifCond .le 11, 3) := by decide +kernel
theorem dX1_partnersHold_46 : decode cX1_partnersHold 46 = .ok (.aload_n 0, 1) := by decide +kernel
theorem dX1_partnersHold_47 : decode cX1_partnersHold 47 = .ok (.getfield 15, 3) := by decide +kernel
theorem dX1_partnersHold_50 : decode cX1_partnersHold 50 = .ok (.iload_n 2, 1) := by decide +kernel
theorem dX1_partnersHold_51 : decode cX1_partnersHold 51 = .ok (.iload 4, 2) := by decide +kernel
theorem dX1_partnersHold_53 : decode cX1_partnersHold 53 = .ok (.iastore, 1) := by decide +kernel
theorem dX1_partnersHold_54 : decode cX1_partnersHold 54 = .ok (.iinc 4 1, 3) := by decide +kernel
theorem dX1_partnersHold_57 : decode cX1_partnersHold 57 = .ok (.goto (-42), 3) := by decide +kernel
theorem dX1_partnersHold_60 : decode cX1_partnersHold 60 = .ok (.iload_n 3, 1) := by decide +kernel
theorem dX1_partnersHold_61 : decode cX1_partnersHold 61 = .ok (.iconst 1, 1) := by decide +kernel
theorem dX1_partnersHold_62 : decode cX1_partnersHold 62 = .ok (.if_icmp .eq 13, 3) := by decide +kernel
theorem dX1_partnersHold_65 : decode cX1_partnersHold 65 = .ok (.aload_n 0, 1) := by decide +kernel
theorem dX1_partnersHold_66 : decode cX1_partnersHold 66 = .ok (.iconst 3, 1) := by decide +kernel
theorem dX1_partnersHold_67 : decode cX1_partnersHold 67 = .ok (.iload_n 2, 1) := by decide +kernel
theorem dX1_partnersHold_68 : decode cX1_partnersHold 68 = .ok (.iconst (-1), 1) := by decide +kernel
theorem dX1_partnersHold_69 : decode cX1_partnersHold 69 = .ok (.iconst (-1), 1) := by decide +kernel
theorem dX1_partnersHold_70 : decode cX1_partnersHold 70 = .ok (.iconst (-1), 1) := by decide +kernel
theorem dX1_partnersHold_71 : decode cX1_partnersHold 71 = .ok (.invokevirtual 53, 3) := by decide +kernel
theorem dX1_partnersHold_74 : decode cX1_partnersHold 74 = .ok (.ireturn, 1) := by decide +kernel
theorem dX1_partnersHold_75 : decode cX1_partnersHold 75 = .ok (.iinc 2 1, 3) := by decide +kernel
theorem dX1_partnersHold_78 : decode cX1_partnersHold 78 = .ok (.goto (-76), 3) := by decide +kernel
theorem dX1_partnersHold_81 : decode cX1_partnersHold 81 = .ok (.iconst 1, 1) := by decide +kernel
theorem dX1_partnersHold_82 : decode cX1_partnersHold 82 = .ok (.ireturn, 1) := by decide +kernel
set_option maxRecDepth 20000 in
theorem ggX1_turnedHolds_X7_number : GoodIn wsX1_turnedHolds wsX7_number := goodIn_r _ [7, 8, 9, 10, 6, 11, 19, 20] (by decide +kernel) (by decide +kernel)
set_option maxRecDepth 20000 in
theorem gX1_turnedHolds_X7_number : GoodIn wsX1_turnedHolds (wsV RX1 49 RX7 yX7_number wsX7_number) := goodIn_app (goodIn_of _ (by decide +kernel)) ggX1_turnedHolds_X7_number
set_option maxRecDepth 20000 in
theorem ggX1_turnedHolds_X1_breaks : GoodIn wsX1_turnedHolds wsX1_breaks := goodIn_r _ [16, 17, 18, 21, 22, 23] (by decide +kernel) (by decide +kernel)
set_option maxRecDepth 20000 in
theorem gX1_turnedHolds_X1_breaks : GoodIn wsX1_turnedHolds (wsV RX1 53 RX1 yX1_breaks wsX1_breaks) := goodIn_app (goodIn_of _ (by decide +kernel)) ggX1_turnedHolds_X1_breaks
theorem dX1_turnedHolds_0 : decode cX1_turnedHolds 0 = .ok (.iconst 0, 1) := by decide +kernel
theorem dX1_turnedHolds_1 : decode cX1_turnedHolds 1 = .ok (.istore_n 2, 1) := by decide +kernel
theorem dX1_turnedHolds_2 : decode cX1_turnedHolds 2 = .ok (.iload_n 2, 1) := by decide +kernel
theorem dX1_turnedHolds_3 : decode cX1_turnedHolds 3 = .ok (.aload_n 1, 1) := by decide +kernel
theorem dX1_turnedHolds_4 : decode cX1_turnedHolds 4 = .ok (.getfield 44, 3) := by decide +kernel
theorem dX1_turnedHolds_7 : decode cX1_turnedHolds 7 = .ok (.if_icmp .ge 78, 3) := by decide +kernel
theorem dX1_turnedHolds_10 : decode cX1_turnedHolds 10 = .ok (.iconst 0, 1) := by decide +kernel
theorem dX1_turnedHolds_11 : decode cX1_turnedHolds 11 = .ok (.istore_n 3, 1) := by decide +kernel
theorem dX1_turnedHolds_12 : decode cX1_turnedHolds 12 = .ok (.iload_n 3, 1) := by decide +kernel
theorem dX1_turnedHolds_13 : decode cX1_turnedHolds 13 = .ok (.aload_n 1, 1) := by decide +kernel
theorem dX1_turnedHolds_14 : decode cX1_turnedHolds 14 = .ok (.getfield 44, 3) := by decide +kernel
theorem dX1_turnedHolds_17 : decode cX1_turnedHolds 17 = .ok (.if_icmp .ge 62, 3) := by decide +kernel
theorem dX1_turnedHolds_20 : decode cX1_turnedHolds 20 = .ok (.iconst 0, 1) := by decide +kernel
theorem dX1_turnedHolds_21 : decode cX1_turnedHolds 21 = .ok (.istore 4, 2) := by decide +kernel
theorem dX1_turnedHolds_23 : decode cX1_turnedHolds 23 = .ok (.iload 4, 2) := by decide +kernel
theorem dX1_turnedHolds_25 : decode cX1_turnedHolds 25 = .ok (.aload_n 1, 1) := by decide +kernel
theorem dX1_turnedHolds_26 : decode cX1_turnedHolds 26 = .ok (.getfield 44, 3) := by decide +kernel
theorem dX1_turnedHolds_29 : decode cX1_turnedHolds 29 = .ok (.if_icmp .ge 44, 3) := by decide +kernel
theorem dX1_turnedHolds_32 : decode cX1_turnedHolds 32 = .ok (.aload_n 1, 1) := by decide +kernel
theorem dX1_turnedHolds_33 : decode cX1_turnedHolds 33 = .ok (.iload_n 2, 1) := by decide +kernel
theorem dX1_turnedHolds_34 : decode cX1_turnedHolds 34 = .ok (.iload_n 3, 1) := by decide +kernel
theorem dX1_turnedHolds_35 : decode cX1_turnedHolds 35 = .ok (.iload 4, 2) := by decide +kernel
theorem dX1_turnedHolds_37 : decode cX1_turnedHolds 37 = .ok (.invokevirtual 49, 3) := by decide +kernel
theorem dX1_turnedHolds_40 : decode cX1_turnedHolds 40 = .ok (.aload_n 1, 1) := by decide +kernel
theorem dX1_turnedHolds_41 : decode cX1_turnedHolds 41 = .ok (.aload_n 0, 1) := by decide +kernel
theorem dX1_turnedHolds_42 : decode cX1_turnedHolds 42 = .ok (.getfield 15, 3) := by decide +kernel
theorem dX1_turnedHolds_45 : decode cX1_turnedHolds 45 = .ok (.iload_n 2, 1) := by decide +kernel
theorem dX1_turnedHolds_46 : decode cX1_turnedHolds 46 = .ok (.iaload, 1) := by decide +kernel
theorem dX1_turnedHolds_47 : decode cX1_turnedHolds 47 = .ok (.iload 4, 2) := by decide +kernel
theorem dX1_turnedHolds_49 : decode cX1_turnedHolds 49 = .ok (.iload_n 3, 1) := by decide +kernel
theorem dX1_turnedHolds_50 : decode cX1_turnedHolds 50 = .ok (.invokevirtual 49, 3) := by decide +kernel
theorem dX1_turnedHolds_53 : decode cX1_turnedHolds 53 = .ok (.if_icmp .eq 14, 3) := by decide +kernel
theorem dX1_turnedHolds_56 : decode cX1_turnedHolds 56 = .ok (.aload_n 0, 1) := by decide +kernel
theorem dX1_turnedHolds_57 : decode cX1_turnedHolds 57 = .ok (.iconst 4, 1) := by decide +kernel
theorem dX1_turnedHolds_58 : decode cX1_turnedHolds 58 = .ok (.iload_n 2, 1) := by decide +kernel
theorem dX1_turnedHolds_59 : decode cX1_turnedHolds 59 = .ok (.iload_n 3, 1) := by decide +kernel
theorem dX1_turnedHolds_60 : decode cX1_turnedHolds 60 = .ok (.iload 4, 2) := by decide +kernel
theorem dX1_turnedHolds_62 : decode cX1_turnedHolds 62 = .ok (.iconst (-1), 1) := by decide +kernel
theorem dX1_turnedHolds_63 : decode cX1_turnedHolds 63 = .ok (.invokevirtual 53, 3) := by decide +kernel
theorem dX1_turnedHolds_66 : decode cX1_turnedHolds 66 = .ok (.ireturn, 1) := by decide +kernel
theorem dX1_turnedHolds_67 : decode cX1_turnedHolds 67 = .ok (.iinc 4 1, 3) := by decide +kernel
theorem dX1_turnedHolds_70 : decode cX1_turnedHolds 70 = .ok (.goto (-47), 3) := by decide +kernel
theorem dX1_turnedHolds_73 : decode cX1_turnedHolds 73 = .ok (.iinc 3 1, 3) := by decide +kernel
theorem dX1_turnedHolds_76 : decode cX1_turnedHolds 76 = .ok (.goto (-64), 3) := by decide +kernel
theorem dX1_turnedHolds_79 : decode cX1_turnedHolds 79 = .ok (.iinc 2 1, 3) := by decide +kernel
theorem dX1_turnedHolds_82 : decode cX1_turnedHolds 82 = .ok (.goto (-80), 3) := by decide +kernel
theorem dX1_turnedHolds_85 : decode cX1_turnedHolds 85 = .ok (.iconst 1, 1) := by decide +kernel
theorem dX1_turnedHolds_86 : decode cX1_turnedHolds 86 = .ok (.ireturn, 1) := by decide +kernel
set_option maxRecDepth 20000 in
theorem ggX1_threeHolds_X1_firstUnlike : GoodIn wsX1_threeHolds wsX1_firstUnlike := goodIn_r _ [5, 1, 6, 7, 8, 9, 10, 11, 12, 13, 14, 21, 22] (by decide +kernel) (by decide +kernel)
set_option maxRecDepth 20000 in
theorem gX1_threeHolds_X1_firstUnlike : GoodIn wsX1_threeHolds (va_wsS RX1 57 yX1_firstUnlike wsX1_firstUnlike) := goodIn_app (goodIn_of _ (by decide +kernel)) ggX1_threeHolds_X1_firstUnlike
set_option maxRecDepth 20000 in
theorem ggX1_threeHolds_X1_breaks : GoodIn wsX1_threeHolds wsX1_breaks := goodIn_r _ [18, 19, 20, 23, 24, 25] (by decide +kernel) (by decide +kernel)
set_option maxRecDepth 20000 in
theorem gX1_threeHolds_X1_breaks : GoodIn wsX1_threeHolds (wsV RX1 53 RX1 yX1_breaks wsX1_breaks) := goodIn_app (goodIn_of _ (by decide +kernel)) ggX1_threeHolds_X1_breaks
theorem dX1_threeHolds_0 : decode cX1_threeHolds 0 = .ok (.iconst 1, 1) := by decide +kernel
theorem dX1_threeHolds_1 : decode cX1_threeHolds 1 = .ok (.istore_n 2, 1) := by decide +kernel
theorem dX1_threeHolds_2 : decode cX1_threeHolds 2 = .ok (.iload_n 2, 1) := by decide +kernel
theorem dX1_threeHolds_3 : decode cX1_threeHolds 3 = .ok (.aload_n 1, 1) := by decide +kernel
theorem dX1_threeHolds_4 : decode cX1_threeHolds 4 = .ok (.getfield 44, 3) := by decide +kernel
theorem dX1_threeHolds_7 : decode cX1_threeHolds 7 = .ok (.if_icmp .ge 71, 3) := by decide +kernel
theorem dX1_threeHolds_10 : decode cX1_threeHolds 10 = .ok (.iconst 1, 1) := by decide +kernel
theorem dX1_threeHolds_11 : decode cX1_threeHolds 11 = .ok (.istore_n 3, 1) := by decide +kernel
theorem dX1_threeHolds_12 : decode cX1_threeHolds 12 = .ok (.iload_n 3, 1) := by decide +kernel
theorem dX1_threeHolds_13 : decode cX1_threeHolds 13 = .ok (.aload_n 1, 1) := by decide +kernel
theorem dX1_threeHolds_14 : decode cX1_threeHolds 14 = .ok (.getfield 44, 3) := by decide +kernel
theorem dX1_threeHolds_17 : decode cX1_threeHolds 17 = .ok (.if_icmp .ge 55, 3) := by decide +kernel
theorem dX1_threeHolds_20 : decode cX1_threeHolds 20 = .ok (.iconst 1, 1) := by decide +kernel
theorem dX1_threeHolds_21 : decode cX1_threeHolds 21 = .ok (.istore 4, 2) := by decide +kernel
theorem dX1_threeHolds_23 : decode cX1_threeHolds 23 = .ok (.iload 4, 2) := by decide +kernel
theorem dX1_threeHolds_25 : decode cX1_threeHolds 25 = .ok (.aload_n 1, 1) := by decide +kernel
theorem dX1_threeHolds_26 : decode cX1_threeHolds 26 = .ok (.getfield 44, 3) := by decide +kernel
theorem dX1_threeHolds_29 : decode cX1_threeHolds 29 = .ok (.if_icmp .ge 37, 3) := by decide +kernel
theorem dX1_threeHolds_32 : decode cX1_threeHolds 32 = .ok (.aload_n 1, 1) := by decide +kernel
theorem dX1_threeHolds_33 : decode cX1_threeHolds 33 = .ok (.iload_n 2, 1) := by decide +kernel
theorem dX1_threeHolds_34 : decode cX1_threeHolds 34 = .ok (.iload_n 3, 1) := by decide +kernel
theorem dX1_threeHolds_35 : decode cX1_threeHolds 35 = .ok (.iload 4, 2) := by decide +kernel
theorem dX1_threeHolds_37 : decode cX1_threeHolds 37 = .ok (.invokestatic 57, 3) := by decide +kernel
theorem dX1_threeHolds_40 : decode cX1_threeHolds 40 = .ok (.istore 5, 2) := by decide +kernel
theorem dX1_threeHolds_42 : decode cX1_threeHolds 42 = .ok (.iload 5, 2) := by decide +kernel
theorem dX1_threeHolds_44 : decode cX1_threeHolds 44 = .ok (.iconst (-1), 1) := by decide +kernel
theorem dX1_threeHolds_45 : decode cX1_threeHolds 45 = .ok (.if_icmp .eq 15, 3) := by decide +kernel
theorem dX1_threeHolds_48 : decode cX1_threeHolds 48 = .ok (.aload_n 0, 1) := by decide +kernel
theorem dX1_threeHolds_49 : decode cX1_threeHolds 49 = .ok (.iconst 5, 1) := by decide +kernel
theorem dX1_threeHolds_50 : decode cX1_threeHolds 50 = .ok (.iload_n 2, 1) := by decide +kernel
theorem dX1_threeHolds_51 : decode cX1_threeHolds 51 = .ok (.iload_n 3, 1) := by decide +kernel
theorem dX1_threeHolds_52 : decode cX1_threeHolds 52 = .ok (.iload 4, 2) := by decide +kernel
theorem dX1_threeHolds_54 : decode cX1_threeHolds 54 = .ok (.iload 5, 2) := by decide +kernel
theorem dX1_threeHolds_56 : decode cX1_threeHolds 56 = .ok (.invokevirtual 53, 3) := by decide +kernel
theorem dX1_threeHolds_59 : decode cX1_threeHolds 59 = .ok (.ireturn, 1) := by decide +kernel
theorem dX1_threeHolds_60 : decode cX1_threeHolds 60 = .ok (.iinc 4 1, 3) := by decide +kernel
theorem dX1_threeHolds_63 : decode cX1_threeHolds 63 = .ok (.goto (-40), 3) := by decide +kernel
theorem dX1_threeHolds_66 : decode cX1_threeHolds 66 = .ok (.iinc 3 1, 3) := by decide +kernel
theorem dX1_threeHolds_69 : decode cX1_threeHolds 69 = .ok (.goto (-57), 3) := by decide +kernel
theorem dX1_threeHolds_72 : decode cX1_threeHolds 72 = .ok (.iinc 2 1, 3) := by decide +kernel
theorem dX1_threeHolds_75 : decode cX1_threeHolds 75 = .ok (.goto (-73), 3) := by decide +kernel
theorem dX1_threeHolds_78 : decode cX1_threeHolds 78 = .ok (.iconst 1, 1) := by decide +kernel
theorem dX1_threeHolds_79 : decode cX1_threeHolds 79 = .ok (.ireturn, 1) := by decide +kernel
set_option maxRecDepth 20000 in
theorem ggX1_firstUnlike_X7_number : GoodIn wsX1_firstUnlike wsX7_number := goodIn_r _ [6, 7, 8, 9, 5, 10, 11, 12] (by decide +kernel) (by decide +kernel)
set_option maxRecDepth 20000 in
theorem gX1_firstUnlike_X7_number : GoodIn wsX1_firstUnlike (wsV RX1 49 RX7 yX7_number wsX7_number) := goodIn_app (goodIn_of _ (by decide +kernel)) ggX1_firstUnlike_X7_number
theorem dX1_firstUnlike_0 : decode cX1_firstUnlike 0 = .ok (.iconst 0, 1) := by decide +kernel
theorem dX1_firstUnlike_1 : decode cX1_firstUnlike 1 = .ok (.istore 4, 2) := by decide +kernel
theorem dX1_firstUnlike_3 : decode cX1_firstUnlike 3 = .ok (.iload 4, 2) := by decide +kernel
theorem dX1_firstUnlike_5 : decode cX1_firstUnlike 5 = .ok (.aload_n 0, 1) := by decide +kernel
theorem dX1_firstUnlike_6 : decode cX1_firstUnlike 6 = .ok (.getfield 44, 3) := by decide +kernel
theorem dX1_firstUnlike_9 : decode cX1_firstUnlike 9 = .ok (.if_icmp .ge 80, 3) := by decide +kernel
theorem dX1_firstUnlike_12 : decode cX1_firstUnlike 12 = .ok (.iconst 0, 1) := by decide +kernel
theorem dX1_firstUnlike_13 : decode cX1_firstUnlike 13 = .ok (.istore 5, 2) := by decide +kernel
theorem dX1_firstUnlike_15 : decode cX1_firstUnlike 15 = .ok (.iconst 0, 1) := by decide +kernel
theorem dX1_firstUnlike_16 : decode cX1_firstUnlike 16 = .ok (.istore 6, 2) := by decide +kernel
theorem dX1_firstUnlike_18 : decode cX1_firstUnlike 18 = .ok (.iload 6, 2) := by decide +kernel
theorem dX1_firstUnlike_20 : decode cX1_firstUnlike 20 = .ok (.aload_n 0, 1) := by decide +kernel
theorem dX1_firstUnlike_21 : decode cX1_firstUnlike 21 = .ok (.getfield 44, 3) := by decide +kernel
theorem dX1_firstUnlike_24 : decode cX1_firstUnlike 24 = .ok (.if_icmp .ge 51, 3) := by decide +kernel
theorem dX1_firstUnlike_27 : decode cX1_firstUnlike 27 = .ok (.iload 5, 2) := by decide +kernel
theorem dX1_firstUnlike_29 : decode cX1_firstUnlike 29 = .ok (.aload_n 0, 1) := by decide +kernel
theorem dX1_firstUnlike_30 : decode cX1_firstUnlike 30 = .ok (.iload_n 1, 1) := by decide +kernel
theorem dX1_firstUnlike_31 : decode cX1_firstUnlike 31 = .ok (.iload_n 2, 1) := by decide +kernel
theorem dX1_firstUnlike_32 : decode cX1_firstUnlike 32 = .ok (.iload 6, 2) := by decide +kernel
theorem dX1_firstUnlike_34 : decode cX1_firstUnlike 34 = .ok (.invokevirtual 49, 3) := by decide +kernel
theorem dX1_firstUnlike_37 : decode cX1_firstUnlike 37 = .ok (.aload_n 0, 1) := by decide +kernel
theorem dX1_firstUnlike_38 : decode cX1_firstUnlike 38 = .ok (.iload 6, 2) := by decide +kernel
theorem dX1_firstUnlike_40 : decode cX1_firstUnlike 40 = .ok (.iload_n 3, 1) := by decide +kernel
theorem dX1_firstUnlike_41 : decode cX1_firstUnlike 41 = .ok (.iload 4, 2) := by decide +kernel
theorem dX1_firstUnlike_43 : decode cX1_firstUnlike 43 = .ok (.invokevirtual 49, 3) := by decide +kernel
theorem dX1_firstUnlike_46 : decode cX1_firstUnlike 46 = .ok (.imul, 1) := by decide +kernel
theorem dX1_firstUnlike_47 : decode cX1_firstUnlike 47 = .ok (.aload_n 0, 1) := by decide +kernel
theorem dX1_firstUnlike_48 : decode cX1_firstUnlike 48 = .ok (.iload_n 2, 1) := by decide +kernel
theorem dX1_firstUnlike_49 : decode cX1_firstUnlike 49 = .ok (.iload_n 3, 1) := by decide +kernel
theorem dX1_firstUnlike_50 : decode cX1_firstUnlike 50 = .ok (.iload 6, 2) := by decide +kernel
theorem dX1_firstUnlike_52 : decode cX1_firstUnlike 52 = .ok (.invokevirtual 49, 3) := by decide +kernel
theorem dX1_firstUnlike_55 : decode cX1_firstUnlike 55 = .ok (.aload_n 0, 1) := by decide +kernel
theorem dX1_firstUnlike_56 : decode cX1_firstUnlike 56 = .ok (.iload_n 1, 1) := by decide +kernel
theorem dX1_firstUnlike_57 : decode cX1_firstUnlike 57 = .ok (.iload 6, 2) := by decide +kernel
theorem dX1_firstUnlike_59 : decode cX1_firstUnlike 59 = .ok (.iload 4, 2) := by decide +kernel
theorem dX1_firstUnlike_61 : decode cX1_firstUnlike 61 = .ok (.invokevirtual 49, 3) := by decide +kernel
theorem dX1_firstUnlike_64 : decode cX1_firstUnlike 64 = .ok (.imul, 1) := by decide +kernel
theorem dX1_firstUnlike_65 : decode cX1_firstUnlike 65 = .ok (.isub, 1) := by decide +kernel
theorem dX1_firstUnlike_66 : decode cX1_firstUnlike 66 = .ok (.iadd, 1) := by decide +kernel
theorem dX1_firstUnlike_67 : decode cX1_firstUnlike 67 = .ok (.istore 5, 2) := by decide +kernel
theorem dX1_firstUnlike_69 : decode cX1_firstUnlike 69 = .ok (.iinc 6 1, 3) := by decide +kernel
theorem dX1_firstUnlike_72 : decode cX1_firstUnlike 72 = .ok (.goto (-54), 3) := by decide +kernel
theorem dX1_firstUnlike_75 : decode cX1_firstUnlike 75 = .ok (.iload 5, 2) := by decide +kernel
theorem dX1_firstUnlike_77 : decode cX1_firstUnlike 77 = .ok (.ifCond .eq 6, 3) := by decide +kernel
theorem dX1_firstUnlike_80 : decode cX1_firstUnlike 80 = .ok (.iload 4, 2) := by decide +kernel
theorem dX1_firstUnlike_82 : decode cX1_firstUnlike 82 = .ok (.ireturn, 1) := by decide +kernel
theorem dX1_firstUnlike_83 : decode cX1_firstUnlike 83 = .ok (.iinc 4 1, 3) := by decide +kernel
theorem dX1_firstUnlike_86 : decode cX1_firstUnlike 86 = .ok (.goto (-83), 3) := by decide +kernel
theorem dX1_firstUnlike_89 : decode cX1_firstUnlike 89 = .ok (.iconst (-1), 1) := by decide +kernel
theorem dX1_firstUnlike_90 : decode cX1_firstUnlike 90 = .ok (.ireturn, 1) := by decide +kernel
set_option maxRecDepth 20000 in
theorem ggX2_init_X7_init : GoodIn wsX2_init wsX7_init := goodIn_r _ [18, 19, 2, 3, 4, 20, 21, 22, 23, 10, 24, 25, 26, 27, 28, 29, 30, 31, 32, 33, 34, 35, 36, 52, 53] (by decide +kernel) (by decide +kernel)
set_option maxRecDepth 20000 in
theorem gX2_init_X7_init : GoodIn wsX2_init (wsX7_init) := ggX2_init_X7_init
set_option maxRecDepth 20000 in
theorem ggX2_init_X1_init : GoodIn wsX2_init wsX1_init := goodIn_r _ [38, 39, 2, 3, 4, 40, 41, 54, 55, 56] (by decide +kernel) (by decide +kernel)
set_option maxRecDepth 20000 in
theorem gX2_init_X1_init_n30 : GoodIn wsX2_init (wsX1_init) := ggX2_init_X1_init
theorem dX2_init_0 : decode cX2_init 0 = .ok (.aload_n 0, 1) := by decide +kernel
theorem dX2_init_1 : decode cX2_init 1 = .ok (.invokespecial 5, 3) := by decide +kernel
theorem dX2_init_4 : decode cX2_init 4 = .ok (.aload_n 0, 1) := by decide +kernel
theorem dX2_init_5 : decode cX2_init 5 = .ok (.bipush 125, 2) := by decide +kernel
theorem dX2_init_7 : decode cX2_init 7 = .ok (.newarray .int, 2) := by decide +kernel
theorem dX2_init_9 : decode cX2_init 9 = .ok (.putfield 13, 3) := by decide +kernel
theorem dX2_init_12 : decode cX2_init 12 = .ok (.aload_n 0, 1) := by decide +kernel
theorem dX2_init_13 : decode cX2_init 13 = .ok (.bipush 10, 2) := by decide +kernel
theorem dX2_init_15 : decode cX2_init 15 = .ok (.newarray .int, 2) := by decide +kernel
theorem dX2_init_17 : decode cX2_init 17 = .ok (.putfield 17, 3) := by decide +kernel
theorem dX2_init_20 : decode cX2_init 20 = .ok (.aload_n 0, 1) := by decide +kernel
theorem dX2_init_21 : decode cX2_init 21 = .ok (.sipush 1024, 3) := by decide +kernel
theorem dX2_init_24 : decode cX2_init 24 = .ok (.newarray .int, 2) := by decide +kernel
theorem dX2_init_26 : decode cX2_init 26 = .ok (.putfield 20, 3) := by decide +kernel
theorem dX2_init_29 : decode cX2_init 29 = .ok (.aload_n 0, 1) := by decide +kernel
theorem dX2_init_30 : decode cX2_init 30 = .ok (.new 11, 3) := by decide +kernel
theorem dX2_init_33 : decode cX2_init 33 = .ok (.dup, 1) := by decide +kernel
theorem dX2_init_34 : decode cX2_init 34 = .ok (.invokespecial 23, 3) := by decide +kernel
theorem dX2_init_37 : decode cX2_init 37 = .ok (.putfield 24, 3) := by decide +kernel
theorem dX2_init_40 : decode cX2_init 40 = .ok (.aload_n 0, 1) := by decide +kernel
theorem dX2_init_41 : decode cX2_init 41 = .ok (.new 28, 3) := by decide +kernel
theorem dX2_init_44 : decode cX2_init 44 = .ok (.dup, 1) := by decide +kernel
theorem dX2_init_45 : decode cX2_init 45 = .ok (.invokespecial 30, 3) := by decide +kernel
theorem dX2_init_48 : decode cX2_init 48 = .ok (.putfield 31, 3) := by decide +kernel
theorem dX2_init_51 : decode cX2_init 51 = .ok (.return_, 1) := by decide +kernel
set_option maxRecDepth 20000 in
theorem ggX2_howMany_X2_findFree : GoodIn wsX2_howMany wsX2_findFree := goodIn_r _ [9, 10, 11, 1, 12, 13, 14, 15, 16, 17, 18, 19, 20, 21, 22, 8, 23, 24, 25, 26, 27, 3, 80, 81, 82, 83, 84, 85, 86, 87, 88, 89] (by decide +kernel) (by decide +kernel)
set_option maxRecDepth 20000 in
theorem gX2_howMany_X2_findFree : GoodIn wsX2_howMany (wsV RX2 45 RX2 yX2_findFree wsX2_findFree) := goodIn_app (goodIn_of _ (by decide +kernel)) ggX2_howMany_X2_findFree
set_option maxRecDepth 20000 in
theorem ggX2_howMany_X2_findRight : GoodIn wsX2_howMany wsX2_findRight := goodIn_r _ [31, 4, 32, 33, 34, 35, 12, 13, 14, 15, 36, 37, 38, 8, 39, 1, 10, 40, 41, 42, 18, 43, 44, 45, 46, 47, 48, 49, 50, 51, 17, 19, 24, 25, 26, 27, 3, 52, 16, 53, 54, 55, 56, 57, 58, 59, 60, 61, 62, 63, 64, 65, 66, 67, 68, 69, 70, 71, 72, 73, 74, 75, 11, 76, 77, 78, 79, 2, 80, 81, 82, 83, 84, 85, 86, 87, 88, 89, 90, 91, 92, 93, 94] (by decide +kernel) (by decide +kernel)
set_option maxRecDepth 20000 in
theorem gX2_howMany_X2_findRight : GoodIn wsX2_howMany (wsV RX2 48 RX2 yX2_findRight wsX2_findRight) := goodIn_app (goodIn_of _ (by decide +kernel)) ggX2_howMany_X2_findRight
theorem dX2_howMany_0 : decode cX2_howMany 0 = .ok (.iload_n 1, 1) := by decide +kernel
theorem dX2_howMany_1 : decode cX2_howMany 1 = .ok (.aload_n 0, 1) := by decide +kernel
theorem dX2_howMany_2 : decode cX2_howMany 2 = .ok (.getfield 35, 3) := by decide +kernel
theorem dX2_howMany_5 : decode cX2_howMany 5 = .ok (.if_icmp .ne 19, 3) := by decide +kernel
theorem dX2_howMany_8 : decode cX2_howMany 8 = .ok (.iload_n 2, 1) := by decide +kernel
theorem dX2_howMany_9 : decode cX2_howMany 9 = .ok (.aload_n 0, 1) := by decide +kernel
theorem dX2_howMany_10 : decode cX2_howMany 10 = .ok (.getfield 39, 3) := by decide +kernel
theorem dX2_howMany_13 : decode cX2_howMany 13 = .ok (.if_icmp .ne 11, 3) := by decide +kernel
theorem dX2_howMany_16 : decode cX2_howMany 16 = .ok (.iload_n 3, 1) := by decide +kernel
theorem dX2_howMany_17 : decode cX2_howMany 17 = .ok (.aload_n 0, 1) := by decide +kernel
theorem dX2_howMany_18 : decode cX2_howMany 18 = .ok (.getfield 42, 3) := by decide +kernel
theorem dX2_howMany_21 : decode cX2_howMany 21 = .ok (.if_icmp .eq 26, 3) := by decide +kernel
theorem dX2_howMany_24 : decode cX2_howMany 24 = .ok (.aload_n 0, 1) := by decide +kernel
theorem dX2_howMany_25 : decode cX2_howMany 25 = .ok (.iload_n 1, 1) := by decide +kernel
theorem dX2_howMany_26 : decode cX2_howMany 26 = .ok (.putfield 35, 3) := by decide +kernel
theorem dX2_howMany_29 : decode cX2_howMany 29 = .ok (.aload_n 0, 1) := by decide +kernel
theorem dX2_howMany_30 : decode cX2_howMany 30 = .ok (.iload_n 2, 1) := by decide +kernel
theorem dX2_howMany_31 : decode cX2_howMany 31 = .ok (.putfield 39, 3) := by decide +kernel
theorem dX2_howMany_34 : decode cX2_howMany 34 = .ok (.aload_n 0, 1) := by decide +kernel
theorem dX2_howMany_35 : decode cX2_howMany 35 = .ok (.iload_n 3, 1) := by decide +kernel
theorem dX2_howMany_36 : decode cX2_howMany 36 = .ok (.putfield 42, 3) := by decide +kernel
theorem dX2_howMany_39 : decode cX2_howMany 39 = .ok (.aload_n 0, 1) := by decide +kernel
theorem dX2_howMany_40 : decode cX2_howMany 40 = .ok (.invokevirtual 45, 3) := by decide +kernel
theorem dX2_howMany_43 : decode cX2_howMany 43 = .ok (.aload_n 0, 1) := by decide +kernel
theorem dX2_howMany_44 : decode cX2_howMany 44 = .ok (.invokevirtual 48, 3) := by decide +kernel
theorem dX2_howMany_47 : decode cX2_howMany 47 = .ok (.aload_n 0, 1) := by decide +kernel
theorem dX2_howMany_48 : decode cX2_howMany 48 = .ok (.getfield 51, 3) := by decide +kernel
theorem dX2_howMany_51 : decode cX2_howMany 51 = .ok (.ireturn, 1) := by decide +kernel
set_option maxRecDepth 20000 in
theorem ggX2_write_X2_buildCandidate : GoodIn wsX2_write wsX2_buildCandidate := goodIn_r _ [10, 5, 11, 12, 4, 13, 14, 15, 16, 17, 18, 19, 20, 21, 22, 23, 24, 25, 26, 27, 28, 29, 30, 31, 32, 33, 9, 34, 35, 36, 37, 46, 47, 48, 49, 50, 51, 52, 53, 54, 55, 56, 57] (by decide +kernel) (by decide +kernel)
set_option maxRecDepth 20000 in
theorem gX2_write_X2_buildCandidate : GoodIn wsX2_write (wsV RX2 57 RX2 yX2_buildCandidate wsX2_buildCandidate) := goodIn_app (goodIn_of _ (by decide +kernel)) ggX2_write_X2_buildCandidate
set_option maxRecDepth 20000 in
theorem ggX2_write_X7_become : GoodIn wsX2_write wsX7_become := goodIn_r _ [41, 19, 18, 42, 43, 44, 45, 56, 57] (by decide +kernel) (by decide +kernel)
set_option maxRecDepth 20000 in
theorem gX2_write_X7_become : GoodIn wsX2_write (wsV RX2 60 RX7 yX7_become wsX7_become) := goodIn_app (goodIn_of _ (by decide +kernel)) ggX2_write_X7_become
theorem dX2_write_0 : decode cX2_write 0 = .ok (.iload_n 2, 1) := by decide +kernel
theorem dX2_write_1 : decode cX2_write 1 = .ok (.ifCond .lt 11, 3) := by decide +kernel
theorem dX2_write_4 : decode cX2_write 4 = .ok (.iload_n 2, 1) := by decide +kernel
theorem dX2_write_5 : decode cX2_write 5 = .ok (.aload_n 0, 1) := by decide +kernel
theorem dX2_write_6 : decode cX2_write 6 = .ok (.getfield 51, 3) := by decide +kernel
theorem dX2_write_9 : decode cX2_write 9 = .ok (.if_icmp .lt 4, 3) := by decide +kernel
theorem dX2_write_12 : decode cX2_write 12 = .ok (.return_, 1) := by decide +kernel
theorem dX2_write_13 : decode cX2_write 13 = .ok (.aload_n 0, 1) := by decide +kernel
theorem dX2_write_14 : decode cX2_write 14 = .ok (.getfield 20, 3) := by decide +kernel
theorem dX2_write_17 : decode cX2_write 17 = .ok (.iload_n 2, 1) := by decide +kernel
theorem dX2_write_18 : decode cX2_write 18 = .ok (.iaload, 1) := by decide +kernel
theorem dX2_write_19 : decode cX2_write 19 = .ok (.istore_n 3, 1) := by decide +kernel
theorem dX2_write_20 : decode cX2_write 20 = .ok (.aload_n 0, 1) := by decide +kernel
theorem dX2_write_21 : decode cX2_write 21 = .ok (.getfield 54, 3) := by decide +kernel
theorem dX2_write_24 : decode cX2_write 24 = .ok (.iconst 1, 1) := by decide +kernel
theorem dX2_write_25 : decode cX2_write 25 = .ok (.isub, 1) := by decide +kernel
theorem dX2_write_26 : decode cX2_write 26 = .ok (.istore 4, 2) := by decide +kernel
theorem dX2_write_28 : decode cX2_write 28 = .ok (.iload 4, 2) := by decide +kernel
theorem dX2_write_30 : decode cX2_write 30 = .ok (.ifCond .lt 23, 3) := by decide +kernel
theorem dX2_write_33 : decode cX2_write 33 = .ok (.aload_n 0, 1) := by decide +kernel
theorem dX2_write_34 : decode cX2_write 34 = .ok (.getfield 17, 3) := by decide +kernel
theorem dX2_write_37 : decode cX2_write 37 = .ok (.iload 4, 2) := by decide +kernel
theorem dX2_write_39 : decode cX2_write 39 = .ok (.iload_n 3, 1) := by decide +kernel
theorem dX2_write_40 : decode cX2_write 40 = .ok (.iconst 3, 1) := by decide +kernel
theorem dX2_write_41 : decode cX2_write 41 = .ok (.iand, 1) := by decide +kernel
theorem dX2_write_42 : decode cX2_write 42 = .ok (.iastore, 1) := by decide +kernel
theorem dX2_write_43 : decode cX2_write 43 = .ok (.iload_n 3, 1) := by decide +kernel
theorem dX2_write_44 : decode cX2_write 44 = .ok (.iconst 2, 1) := by decide +kernel
theorem dX2_write_45 : decode cX2_write 45 = .ok (.ishr, 1) := by decide +kernel
theorem dX2_write_46 : decode cX2_write 46 = .ok (.istore_n 3, 1) := by decide +kernel
theorem dX2_write_47 : decode cX2_write 47 = .ok (.iinc 4 (-1), 3) := by decide +kernel
theorem dX2_write_50 : decode cX2_write 50 = .ok (.goto (-22), 3) := by decide +kernel
theorem dX2_write_53 : decode cX2_write 53 = .ok (.aload_n 0, 1) := by decide +kernel
theorem dX2_write_54 : decode cX2_write 54 = .ok (.invokevirtual 57, 3) := by decide +kernel
theorem dX2_write_57 : decode cX2_write 57 = .ok (.aload_n 1, 1) := by decide +kernel
theorem dX2_write_58 : decode cX2_write 58 = .ok (.aload_n 0, 1) := by decide +kernel
theorem dX2_write_59 : decode cX2_write 59 = .ok (.getfield 24, 3) := by decide +kernel
theorem dX2_write_62 : decode cX2_write 62 = .ok (.invokevirtual 60, 3) := by decide +kernel
theorem dX2_write_65 : decode cX2_write 65 = .ok (.return_, 1) := by decide +kernel
theorem dX2_partnerOf_0 : decode cX2_partnerOf 0 = .ok (.aload_n 0, 1) := by decide +kernel
theorem dX2_partnerOf_1 : decode cX2_partnerOf 1 = .ok (.getfield 42, 3) := by decide +kernel
theorem dX2_partnerOf_4 : decode cX2_partnerOf 4 = .ok (.iconst 1, 1) := by decide +kernel
theorem dX2_partnerOf_5 : decode cX2_partnerOf 5 = .ok (.if_icmp .ne 19, 3) := by decide +kernel
theorem dX2_partnerOf_8 : decode cX2_partnerOf 8 = .ok (.iload_n 1, 1) := by decide +kernel
theorem dX2_partnerOf_9 : decode cX2_partnerOf 9 = .ok (.iconst 1, 1) := by decide +kernel
theorem dX2_partnerOf_10 : decode cX2_partnerOf 10 = .ok (.if_icmp .eq 8, 3) := by decide +kernel
theorem dX2_partnerOf_13 : decode cX2_partnerOf 13 = .ok (.iload_n 1, 1) := by decide +kernel
theorem dX2_partnerOf_14 : decode cX2_partnerOf 14 = .ok (.iconst 2, 1) := by decide +kernel
theorem dX2_partnerOf_15 : decode cX2_partnerOf 15 = .ok (.if_icmp .ne 9, 3) := by decide +kernel
theorem dX2_partnerOf_18 : decode cX2_partnerOf 18 = .ok (.iconst 3, 1) := by decide +kernel
theorem dX2_partnerOf_19 : decode cX2_partnerOf 19 = .ok (.iload_n 1, 1) := by decide +kernel
theorem dX2_partnerOf_20 : decode cX2_partnerOf 20 = .ok (.isub, 1) := by decide +kernel
theorem dX2_partnerOf_21 : decode cX2_partnerOf 21 = .ok (.goto 4, 3) := by decide +kernel
theorem dX2_partnerOf_24 : decode cX2_partnerOf 24 = .ok (.iload_n 1, 1) := by decide +kernel
theorem dX2_partnerOf_25 : decode cX2_partnerOf 25 = .ok (.ireturn, 1) := by decide +kernel
set_option maxRecDepth 20000 in
theorem ggX2_findFree_J7_fill_53178 : GoodIn wsX2_findFree wsJ7_fill_53178 := goodIn_r _ [7] (by decide +kernel) (by decide +kernel)
set_option maxRecDepth 20000 in
theorem gX2_findFree_J7_fill_53178 : GoodIn wsX2_findFree (va_wsS RX2 64 yJ7_fill_53178 wsJ7_fill_53178) := goodIn_app (goodIn_of _ (by decide +kernel)) ggX2_findFree_J7_fill_53178
set_option maxRecDepth 20000 in
theorem ggX2_findFree_X7_placeOf : GoodIn wsX2_findFree wsX7_placeOf := goodIn_r _ [11] (by decide +kernel) (by decide +kernel)
set_option maxRecDepth 20000 in
theorem gX2_findFree_X7_placeOf : GoodIn wsX2_findFree (va_wsS RX2 70 yX7_placeOf wsX7_placeOf) := goodIn_app (goodIn_of _ (by decide +kernel)) ggX2_findFree_X7_placeOf
set_option maxRecDepth 20000 in
theorem ggX2_findFree_X2_markAlike : GoodIn wsX2_findFree wsX2_markAlike := goodIn_r _ [16, 1, 2, 8, 9, 10, 11, 17, 18, 19, 15, 20, 21, 22, 23, 24, 25, 26, 27, 28, 29, 30, 31] (by decide +kernel) (by decide +kernel)
set_option maxRecDepth 20000 in
theorem gX2_findFree_X2_markAlike : GoodIn wsX2_findFree (wsV RX2 74 RX2 yX2_markAlike wsX2_markAlike) := goodIn_app (goodIn_of _ (by decide +kernel)) ggX2_findFree_X2_markAlike
theorem dX2_findFree_0 : decode cX2_findFree 0 = .ok (.aload_n 0, 1) := by decide +kernel
theorem dX2_findFree_1 : decode cX2_findFree 1 = .ok (.getfield 13, 3) := by decide +kernel
theorem dX2_findFree_4 : decode cX2_findFree 4 = .ok (.iconst (-1), 1) := by decide +kernel
theorem dX2_findFree_5 : decode cX2_findFree 5 = .ok (.invokestatic 64, 3) := by decide +kernel
theorem dX2_findFree_8 : decode cX2_findFree 8 = .ok (.aload_n 0, 1) := by decide +kernel
theorem dX2_findFree_9 : decode cX2_findFree 9 = .ok (.iconst 0, 1) := by decide +kernel
theorem dX2_findFree_10 : decode cX2_findFree 10 = .ok (.putfield 54, 3) := by decide +kernel
theorem dX2_findFree_13 : decode cX2_findFree 13 = .ok (.iconst 1, 1) := by decide +kernel
theorem dX2_findFree_14 : decode cX2_findFree 14 = .ok (.istore_n 1, 1) := by decide +kernel
theorem dX2_findFree_15 : decode cX2_findFree 15 = .ok (.iload_n 1, 1) := by decide +kernel
theorem dX2_findFree_16 : decode cX2_findFree 16 = .ok (.aload_n 0, 1) := by decide +kernel
theorem dX2_findFree_17 : decode cX2_findFree 17 = .ok (.getfield 35, 3) := by decide +kernel
theorem dX2_findFree_20 : decode cX2_findFree 20 = .ok (.if_icmp .ge 82, 3) := by decide +kernel
theorem dX2_findFree_23 : decode cX2_findFree 23 = .ok (.iconst 1, 1) := by decide +kernel
theorem dX2_findFree_24 : decode cX2_findFree 24 = .ok (.istore_n 2, 1) := by decide +kernel
theorem dX2_findFree_25 : decode cX2_findFree 25 = .ok (.iload_n 2, 1) := by decide +kernel
theorem dX2_findFree_26 : decode cX2_findFree 26 = .ok (.aload_n 0, 1) := by decide +kernel
theorem dX2_findFree_27 : decode cX2_findFree 27 = .ok (.getfield 35, 3) := by decide +kernel
theorem dX2_findFree_30 : decode cX2_findFree 30 = .ok (.if_icmp .ge 66, 3) := by decide +kernel
theorem dX2_findFree_33 : decode cX2_findFree 33 = .ok (.iconst 1, 1) := by decide +kernel
theorem dX2_findFree_34 : decode cX2_findFree 34 = .ok (.istore_n 3, 1) := by decide +kernel
theorem dX2_findFree_35 : decode cX2_findFree 35 = .ok (.iload_n 3, 1) := by decide +kernel
theorem dX2_findFree_36 : decode cX2_findFree 36 = .ok (.aload_n 0, 1) := by decide +kernel
theorem dX2_findFree_37 : decode cX2_findFree 37 = .ok (.getfield 35, 3) := by decide +kernel
theorem dX2_findFree_40 : decode cX2_findFree 40 = .ok (.if_icmp .ge 50, 3) := by decide +kernel
theorem dX2_findFree_43 : decode cX2_findFree 43 = .ok (.aload_n 0, 1) := by decide +kernel
theorem dX2_findFree_44 : decode cX2_findFree 44 = .ok (.getfield 13, 3) := by decide +kernel
theorem dX2_findFree_47 : decode cX2_findFree 47 = .ok (.iload_n 1, 1) := by decide +kernel
theorem dX2_findFree_48 : decode cX2_findFree 48 = .ok (.iload_n 2, 1) := by decide +kernel
theorem dX2_findFree_49 : decode cX2_findFree 49 = .ok (.iload_n 3, 1) := by decide +kernel
theorem dX2_findFree_50 : decode cX2_findFree 50 = .ok (.invokestatic 70, 3) := by decide +kernel
theorem dX2_findFree_53 : decode cX2_findFree 53 = .ok (.iaload, 1) := by decide +kernel
theorem dX2_findFree_54 : decode cX2_findFree 54 = .ok (.iconst (-1), 1) := by decide +kernel
theorem dX2_findFree_55 : decode cX2_findFree 55 = .ok (.if_icmp .ne 29, 3) := by decide +kernel
theorem dX2_findFree_58 : decode cX2_findFree 58 = .ok (.aload_n 0, 1) := by decide +kernel
theorem dX2_findFree_59 : decode cX2_findFree 59 = .ok (.getfield 54, 3) := by decide +kernel
theorem dX2_findFree_62 : decode cX2_findFree 62 = .ok (.bipush 10, 2) := by decide +kernel
theorem dX2_findFree_64 : decode cX2_findFree 64 = .ok (.if_icmp .ge 20, 3) := by decide +kernel
theorem dX2_findFree_67 : decode cX2_findFree 67 = .ok (.aload_n 0, 1) := by decide +kernel
theorem dX2_findFree_68 : decode cX2_findFree 68 = .ok (.iload_n 1, 1) := by decide +kernel
theorem dX2_findFree_69 : decode cX2_findFree 69 = .ok (.iload_n 2, 1) := by decide +kernel
theorem dX2_findFree_70 : decode cX2_findFree 70 = .ok (.iload_n 3, 1) := by decide +kernel
theorem dX2_findFree_71 : decode cX2_findFree 71 = .ok (.invokevirtual 74, 3) := by decide +kernel
theorem dX2_findFree_74 : decode cX2_findFree 74 = .ok (.aload_n 0, 1) := by decide +kernel
theorem dX2_findFree_75 : decode cX2_findFree 75 = .ok (.dup, 1) := by decide +kernel
theorem dX2_findFree_76 : decode cX2_findFree 76 = .ok (.getfield 54, 3) := by decide +kernel
theorem dX2_findFree_79 : decode cX2_findFree 79 = .ok (.iconst 1, 1) := by decide +kernel
theorem dX2_findFree_80 : decode cX2_findFree 80 = .ok (.iadd, 1) := by decide +kernel
theorem dX2_findFree_81 : decode cX2_findFree 81 = .ok (.putfield 54, 3) := by decide +kernel
theorem dX2_findFree_84 : decode cX2_findFree 84 = .ok (.iinc 3 1, 3) := by decide +kernel
theorem dX2_findFree_87 : decode cX2_findFree 87 = .ok (.goto (-52), 3) := by decide +kernel
theorem dX2_findFree_90 : decode cX2_findFree 90 = .ok (.iinc 2 1, 3) := by decide +kernel
theorem dX2_findFree_93 : decode cX2_findFree 93 = .ok (.goto (-68), 3) := by decide +kernel
theorem dX2_findFree_96 : decode cX2_findFree 96 = .ok (.iinc 1 1, 3) := by decide +kernel
theorem dX2_findFree_99 : decode cX2_findFree 99 = .ok (.goto (-84), 3) := by decide +kernel
theorem dX2_findFree_102 : decode cX2_findFree 102 = .ok (.return_, 1) := by decide +kernel
set_option maxRecDepth 20000 in
theorem ggX2_markAlike_X7_placeOf : GoodIn wsX2_markAlike wsX7_placeOf := goodIn_r _ [6] (by decide +kernel) (by decide +kernel)
set_option maxRecDepth 20000 in
theorem gX2_markAlike_X7_placeOf : GoodIn wsX2_markAlike (va_wsS RX2 70 yX7_placeOf wsX7_placeOf) := goodIn_app (goodIn_of _ (by decide +kernel)) ggX2_markAlike_X7_placeOf
set_option maxRecDepth 20000 in
theorem ggX2_markAlike_X2_partnerOf : GoodIn wsX2_markAlike wsX2_partnerOf := goodIn_r _ [11, 12, 13, 14, 15, 16, 17, 18, 19, 20, 21, 22] (by decide +kernel) (by decide +kernel)
set_option maxRecDepth 20000 in
theorem gX2_markAlike_X2_partnerOf : GoodIn wsX2_markAlike (wsV RX2 78 RX2 yX2_partnerOf wsX2_partnerOf) := goodIn_app (goodIn_of _ (by decide +kernel)) ggX2_markAlike_X2_partnerOf
theorem dX2_markAlike_0 : decode cX2_markAlike 0 = .ok (.iload_n 1, 1) := by decide +kernel
theorem dX2_markAlike_1 : decode cX2_markAlike 1 = .ok (.istore 4, 2) := by decide +kernel
theorem dX2_markAlike_3 : decode cX2_markAlike 3 = .ok (.iload_n 2, 1) := by decide +kernel
theorem dX2_markAlike_4 : decode cX2_markAlike 4 = .ok (.istore 5, 2) := by decide +kernel
theorem dX2_markAlike_6 : decode cX2_markAlike 6 = .ok (.iload_n 3, 1) := by decide +kernel
theorem dX2_markAlike_7 : decode cX2_markAlike 7 = .ok (.istore 6, 2) := by decide +kernel
theorem dX2_markAlike_9 : decode cX2_markAlike 9 = .ok (.iconst 0, 1) := by decide +kernel
theorem dX2_markAlike_10 : decode cX2_markAlike 10 = .ok (.istore 7, 2) := by decide +kernel
theorem dX2_markAlike_12 : decode cX2_markAlike 12 = .ok (.iload 7, 2) := by decide +kernel
theorem dX2_markAlike_14 : decode cX2_markAlike 14 = .ok (.bipush 12, 2) := by decide +kernel
theorem dX2_markAlike_16 : decode cX2_markAlike 16 = .ok (.if_icmp .ge 65, 3) := by decide +kernel
theorem dX2_markAlike_19 : decode cX2_markAlike 19 = .ok (.aload_n 0, 1) := by decide +kernel
theorem dX2_markAlike_20 : decode cX2_markAlike 20 = .ok (.getfield 13, 3) := by decide +kernel
theorem dX2_markAlike_23 : decode cX2_markAlike 23 = .ok (.iload 4, 2) := by decide +kernel
theorem dX2_markAlike_25 : decode cX2_markAlike 25 = .ok (.iload 5, 2) := by decide +kernel
theorem dX2_markAlike_27 : decode cX2_markAlike 27 = .ok (.iload 6, 2) := by decide +kernel
theorem dX2_markAlike_29 : decode cX2_markAlike 29 = .ok (.invokestatic 70, 3) := by decide +kernel
theorem dX2_markAlike_32 : decode cX2_markAlike 32 = .ok (.aload_n 0, 1) := by decide +kernel
theorem dX2_markAlike_33 : decode cX2_markAlike 33 = .ok (.getfield 54, 3) := by decide +kernel
theorem dX2_markAlike_36 : decode cX2_markAlike 36 = .ok (.iastore, 1) := by decide +kernel
theorem dX2_markAlike_37 : decode cX2_markAlike 37 = .ok (.iload 5, 2) := by decide +kernel
theorem dX2_markAlike_39 : decode cX2_markAlike 39 = .ok (.istore 8, 2) := by decide +kernel
theorem dX2_markAlike_41 : decode cX2_markAlike 41 = .ok (.iload 7, 2) := by decide +kernel
theorem dX2_markAlike_43 : decode cX2_markAlike 43 = .ok (.iconst 1, 1) := by decide +kernel
theorem dX2_markAlike_44 : decode cX2_markAlike 44 = .ok (.iand, 1) := by decide +kernel
theorem dX2_markAlike_45 : decode cX2_markAlike 45 = .ok (.ifCond .ne 14, 3) := by decide +kernel
theorem dX2_markAlike_48 : decode cX2_markAlike 48 = .ok (.iload 4, 2) := by decide +kernel
theorem dX2_markAlike_50 : decode cX2_markAlike 50 = .ok (.istore 5, 2) := by decide +kernel
theorem dX2_markAlike_52 : decode cX2_markAlike 52 = .ok (.iload 8, 2) := by decide +kernel
theorem dX2_markAlike_54 : decode cX2_markAlike 54 = .ok (.istore 4, 2) := by decide +kernel
theorem dX2_markAlike_56 : decode cX2_markAlike 56 = .ok (.goto 19, 3) := by decide +kernel
theorem dX2_markAlike_59 : decode cX2_markAlike 59 = .ok (.aload_n 0, 1) := by decide +kernel
theorem dX2_markAlike_60 : decode cX2_markAlike 60 = .ok (.iload 4, 2) := by decide +kernel
theorem dX2_markAlike_62 : decode cX2_markAlike 62 = .ok (.invokevirtual 78, 3) := by decide +kernel
theorem dX2_markAlike_65 : decode cX2_markAlike 65 = .ok (.istore 4, 2) := by decide +kernel
theorem dX2_markAlike_67 : decode cX2_markAlike 67 = .ok (.iload 6, 2) := by decide +kernel
theorem dX2_markAlike_69 : decode cX2_markAlike 69 = .ok (.istore 5, 2) := by decide +kernel
theorem dX2_markAlike_71 : decode cX2_markAlike 71 = .ok (.iload 8, 2) := by decide +kernel
theorem dX2_markAlike_73 : decode cX2_markAlike 73 = .ok (.istore 6, 2) := by decide +kernel
theorem dX2_markAlike_75 : decode cX2_markAlike 75 = .ok (.iinc 7 1, 3) := by decide +kernel
theorem dX2_markAlike_78 : decode cX2_markAlike 78 = .ok (.goto (-66), 3) := by decide +kernel
theorem dX2_markAlike_81 : decode cX2_markAlike 81 = .ok (.return_, 1) := by decide +kernel
set_option maxRecDepth 20000 in
theorem ggX2_findRight_J7_fill_53178 : GoodIn wsX2_findRight wsJ7_fill_53178 := goodIn_r _ [9] (by decide +kernel) (by decide +kernel)
set_option maxRecDepth 20000 in
theorem gX2_findRight_J7_fill_53178 : GoodIn wsX2_findRight (va_wsS RX2 64 yJ7_fill_53178 wsJ7_fill_53178) := goodIn_app (goodIn_of _ (by decide +kernel)) ggX2_findRight_J7_fill_53178
set_option maxRecDepth 20000 in
theorem ggX2_findRight_X2_buildCandidate : GoodIn wsX2_findRight wsX2_buildCandidate := goodIn_r _ [14, 4, 15, 16, 2, 17, 18, 19, 20, 21, 22, 23, 24, 7, 8, 9, 25, 26, 27, 28, 29, 30, 31, 32, 33, 34, 13, 35, 36, 37, 38, 68, 69, 70, 71, 72, 73, 74, 75, 76, 77, 78, 79] (by decide +kernel) (by decide +kernel)
set_option maxRecDepth 20000 in
theorem gX2_findRight_X2_buildCandidate : GoodIn wsX2_findRight (wsV RX2 57 RX2 yX2_buildCandidate wsX2_buildCandidate) := goodIn_app (goodIn_of _ (by decide +kernel)) ggX2_findRight_X2_buildCandidate
set_option maxRecDepth 20000 in
theorem ggX2_findRight_X1_threeHolds : GoodIn wsX2_findRight wsX1_threeHolds := goodIn_r _ [43, 44, 45, 46, 42, 47, 48, 49, 50, 20, 51, 22, 29, 30, 31, 52, 53, 54, 55, 56, 57, 78, 79, 80, 81, 82] (by decide +kernel) (by decide +kernel)
set_option maxRecDepth 20000 in
theorem gX2_findRight_X1_threeHolds : GoodIn wsX2_findRight (wsV RX2 82 RX1 yX1_threeHolds wsX1_threeHolds) := goodIn_app (goodIn_of _ (by decide +kernel)) ggX2_findRight_X1_threeHolds
set_option maxRecDepth 20000 in
theorem ggX2_findRight_X2_packedRow : GoodIn wsX2_findRight wsX2_packedRow := goodIn_r _ [61, 62, 2, 68, 69, 70, 71, 72, 73, 74, 75, 76, 77] (by decide +kernel) (by decide +kernel)
set_option maxRecDepth 20000 in
theorem gX2_findRight_X2_packedRow : GoodIn wsX2_findRight (wsV RX2 86 RX2 yX2_packedRow wsX2_packedRow) := goodIn_app (goodIn_of _ (by decide +kernel)) ggX2_findRight_X2_packedRow
set_option maxRecDepth 20000 in
theorem ggX2_findRight_X2_nextRow : GoodIn wsX2_findRight wsX2_nextRow := goodIn_r _ [66, 62, 2, 67, 68, 69, 70, 71, 72, 73, 74, 75, 76, 77] (by decide +kernel) (by decide +kernel)
set_option maxRecDepth 20000 in
theorem gX2_findRight_X2_nextRow : GoodIn wsX2_findRight (wsV RX2 90 RX2 yX2_nextRow wsX2_nextRow) := goodIn_app (goodIn_of _ (by decide +kernel)) ggX2_findRight_X2_nextRow
theorem dX2_findRight_0 : decode cX2_findRight 0 = .ok (.aload_n 0, 1) := by decide +kernel
theorem dX2_findRight_1 : decode cX2_findRight 1 = .ok (.iconst 0, 1) := by decide +kernel
theorem dX2_findRight_2 : decode cX2_findRight 2 = .ok (.putfield 51, 3) := by decide +kernel
theorem dX2_findRight_5 : decode cX2_findRight 5 = .ok (.aload_n 0, 1) := by decide +kernel
theorem dX2_findRight_6 : decode cX2_findRight 6 = .ok (.getfield 17, 3) := by decide +kernel
theorem dX2_findRight_9 : decode cX2_findRight 9 = .ok (.iconst 0, 1) := by decide +kernel
theorem dX2_findRight_10 : decode cX2_findRight 10 = .ok (.invokestatic 64, 3) := by decide +kernel
theorem dX2_findRight_13 : decode cX2_findRight 13 = .ok (.iconst 1, 1) := by decide +kernel
theorem dX2_findRight_14 : decode cX2_findRight 14 = .ok (.istore_n 1, 1) := by decide +kernel
theorem dX2_findRight_15 : decode cX2_findRight 15 = .ok (.iconst 0, 1) := by decide +kernel
theorem dX2_findRight_16 : decode cX2_findRight 16 = .ok (.istore_n 2, 1) := by decide +kernel
theorem dX2_findRight_17 : decode cX2_findRight 17 = .ok (.iload_n 2, 1) := by decide +kernel
theorem dX2_findRight_18 : decode cX2_findRight 18 = .ok (.sipush 1024, 3) := by decide +kernel
theorem dX2_findRight_21 : decode cX2_findRight 21 = .ok (.if_icmp .ge 59, 3) := by decide +kernel
theorem dX2_findRight_24 : decode cX2_findRight 24 = .ok (.iload_n 1, 1) := by decide +kernel
theorem dX2_findRight_25 : decode cX2_findRight 25 = .ok (.ifCond .eq 55, 3) := by decide +kernel
theorem dX2_findRight_28 : decode cX2_findRight 28 = .ok (.aload_n 0, 1) := by decide +kernel
theorem dX2_findRight_29 : decode cX2_findRight 29 = .ok (.invokevirtual 57, 3) := by decide +kernel
theorem dX2_findRight_32 : decode cX2_findRight 32 = .ok (.aload_n 0, 1) := by decide +kernel
theorem dX2_findRight_33 : decode cX2_findRight 33 = .ok (.getfield 31, 3) := by decide +kernel
theorem dX2_findRight_36 : decode cX2_findRight 36 = .ok (.aload_n 0, 1) := by decide +kernel
theorem dX2_findRight_37 : decode cX2_findRight 37 = .ok (.getfield 24, 3) := by decide +kernel
theorem dX2_findRight_40 : decode cX2_findRight 40 = .ok (.invokevirtual 82, 3) := by decide +kernel
theorem dX2_findRight_43 : decode cX2_findRight 43 = .ok (.ifCond .eq 26, 3) := by decide +kernel
theorem dX2_findRight_46 : decode cX2_findRight 46 = .ok (.aload_n 0, 1) := by decide +kernel
theorem dX2_findRight_47 : decode cX2_findRight 47 = .ok (.getfield 20, 3) := by decide +kernel
theorem dX2_findRight_50 : decode cX2_findRight 50 = .ok (.aload_n 0, 1) := by decide +kernel
theorem dX2_findRight_51 : decode cX2_findRight 51 = .ok (.getfield 51, 3) := by decide +kernel
theorem dX2_findRight_54 : decode cX2_findRight 54 = .ok (.aload_n 0, 1) := by decide +kernel
theorem dX2_findRight_55 : decode cX2_findRight 55 = .ok (.invokevirtual 86, 3) := by decide +kernel
theorem dX2_findRight_58 : decode cX2_findRight 58 = .ok (.iastore, 1) := by decide +kernel
theorem dX2_findRight_59 : decode cX2_findRight 59 = .ok (.aload_n 0, 1) := by decide +kernel
theorem dX2_findRight_60 : decode cX2_findRight 60 = .ok (.dup, 1) := by decide +kernel
theorem dX2_findRight_61 : decode cX2_findRight 61 = .ok (.getfield 51, 3) := by decide +kernel
theorem dX2_findRight_64 : decode cX2_findRight 64 = .ok (.iconst 1, 1) := by decide +kernel
theorem dX2_findRight_65 : decode cX2_findRight 65 = .ok (.iadd, 1) := by decide +kernel
theorem dX2_findRight_66 : decode cX2_findRight 66 = .ok (.putfield 51, 3) := by decide +kernel
theorem dX2_findRight_69 : decode cX2_findRight 69 = .ok (.aload_n 0, 1) := by decide +kernel
theorem dX2_findRight_70 : decode cX2_findRight 70 = .ok (.invokevirtual 90, 3) := by decide +kernel
theorem dX2_findRight_73 : decode cX2_findRight 73 = .ok (.istore_n 1, 1) := by decide +kernel
theorem dX2_findRight_74 : decode cX2_findRight 74 = .ok (.iinc 2 1, 3) := by decide +kernel
theorem dX2_findRight_77 : decode cX2_findRight 77 = .ok (.goto (-60), 3) := by decide +kernel
theorem dX2_findRight_80 : decode cX2_findRight 80 = .ok (.return_, 1) := by decide +kernel
set_option maxRecDepth 20000 in
theorem ggX2_buildCandidate_X7_reset : GoodIn wsX2_buildCandidate wsX7_reset := goodIn_r _ [9, 10, 11, 12, 13, 14, 15, 16, 17, 18, 8, 19, 20, 21, 22, 41, 42] (by decide +kernel) (by decide +kernel)
set_option maxRecDepth 20000 in
theorem gX2_buildCandidate_X7_reset : GoodIn wsX2_buildCandidate (wsV RX2 94 RX7 yX7_reset wsX7_reset) := goodIn_app (goodIn_of _ (by decide +kernel)) ggX2_buildCandidate_X7_reset
set_option maxRecDepth 20000 in
theorem ggX2_buildCandidate_X2_partnerOf : GoodIn wsX2_buildCandidate wsX2_partnerOf := goodIn_r _ [27, 28, 31, 32, 33, 34, 35, 36, 37, 38, 39, 40] (by decide +kernel) (by decide +kernel)
set_option maxRecDepth 20000 in
theorem gX2_buildCandidate_X2_partnerOf : GoodIn wsX2_buildCandidate (wsV RX2 78 RX2 yX2_partnerOf wsX2_partnerOf) := goodIn_app (goodIn_of _ (by decide +kernel)) ggX2_buildCandidate_X2_partnerOf
set_option maxRecDepth 20000 in
theorem ggX2_buildCandidate_X7_setNumber : GoodIn wsX2_buildCandidate wsX7_setNumber := goodIn_r _ [19, 10, 20, 21, 8, 22, 41, 42] (by decide +kernel) (by decide +kernel)
set_option maxRecDepth 20000 in
theorem gX2_buildCandidate_X7_setNumber : GoodIn wsX2_buildCandidate (wsV RX2 98 RX7 yX7_setNumber wsX7_setNumber) := goodIn_app (goodIn_of _ (by decide +kernel)) ggX2_buildCandidate_X7_setNumber
set_option maxRecDepth 20000 in
theorem ggX2_buildCandidate_X7_placeOf : GoodIn wsX2_buildCandidate wsX7_placeOf := goodIn_r _ [22] (by decide +kernel) (by decide +kernel)
set_option maxRecDepth 20000 in
theorem gX2_buildCandidate_X7_placeOf : GoodIn wsX2_buildCandidate (va_wsS RX2 70 yX7_placeOf wsX7_placeOf) := goodIn_app (goodIn_of _ (by decide +kernel)) ggX2_buildCandidate_X7_placeOf
theorem dX2_buildCandidate_0 : decode cX2_buildCandidate 0 = .ok (.aload_n 0, 1) := by decide +kernel
theorem dX2_buildCandidate_1 : decode cX2_buildCandidate 1 = .ok (.getfield 24, 3) := by decide +kernel
theorem dX2_buildCandidate_4 : decode cX2_buildCandidate 4 = .ok (.aload_n 0, 1) := by decide +kernel
theorem dX2_buildCandidate_5 : decode cX2_buildCandidate 5 = .ok (.getfield 35, 3) := by decide +kernel
theorem dX2_buildCandidate_8 : decode cX2_buildCandidate 8 = .ok (.invokevirtual 94, 3) := by decide +kernel
theorem dX2_buildCandidate_11 : decode cX2_buildCandidate 11 = .ok (.iconst 1, 1) := by decide +kernel
theorem dX2_buildCandidate_12 : decode cX2_buildCandidate 12 = .ok (.istore_n 1, 1) := by decide +kernel
theorem dX2_buildCandidate_13 : decode cX2_buildCandidate 13 = .ok (.iload_n 1, 1) := by decide +kernel
theorem dX2_buildCandidate_14 : decode cX2_buildCandidate 14 = .ok (.aload_n 0, 1) := by decide +kernel
theorem dX2_buildCandidate_15 : decode cX2_buildCandidate 15 = .ok (.getfield 35, 3) := by decide +kernel
theorem dX2_buildCandidate_18 : decode cX2_buildCandidate 18 = .ok (.if_icmp .ge 96, 3) := by decide +kernel
theorem dX2_buildCandidate_21 : decode cX2_buildCandidate 21 = .ok (.aload_n 0, 1) := by decide +kernel
theorem dX2_buildCandidate_22 : decode cX2_buildCandidate 22 = .ok (.getfield 24, 3) := by decide +kernel
theorem dX2_buildCandidate_25 : decode cX2_buildCandidate 25 = .ok (.iload_n 1, 1) := by decide +kernel
theorem dX2_buildCandidate_26 : decode cX2_buildCandidate 26 = .ok (.aload_n 0, 1) := by decide +kernel
theorem dX2_buildCandidate_27 : decode cX2_buildCandidate 27 = .ok (.iload_n 1, 1) := by decide +kernel
theorem dX2_buildCandidate_28 : decode cX2_buildCandidate 28 = .ok (.invokevirtual 78, 3) := by decide +kernel
theorem dX2_buildCandidate_31 : decode cX2_buildCandidate 31 = .ok (.iconst 0, 1) := by decide +kernel
theorem dX2_buildCandidate_32 : decode cX2_buildCandidate 32 = .ok (.iconst 1, 1) := by decide +kernel
theorem dX2_buildCandidate_33 : decode cX2_buildCandidate 33 = .ok (.invokevirtual 98, 3) := by decide +kernel
theorem dX2_buildCandidate_36 : decode cX2_buildCandidate 36 = .ok (.iconst 1, 1) := by decide +kernel
theorem dX2_buildCandidate_37 : decode cX2_buildCandidate 37 = .ok (.istore_n 2, 1) := by decide +kernel
theorem dX2_buildCandidate_38 : decode cX2_buildCandidate 38 = .ok (.iload_n 2, 1) := by decide +kernel
theorem dX2_buildCandidate_39 : decode cX2_buildCandidate 39 = .ok (.aload_n 0, 1) := by decide +kernel
theorem dX2_buildCandidate_40 : decode cX2_buildCandidate 40 = .ok (.getfield 35, 3) := by decide +kernel
theorem dX2_buildCandidate_43 : decode cX2_buildCandidate 43 = .ok (.if_icmp .ge 65, 3) := by decide +kernel
theorem dX2_buildCandidate_46 : decode cX2_buildCandidate 46 = .ok (.iconst 1, 1) := by decide +kernel
theorem dX2_buildCandidate_47 : decode cX2_buildCandidate 47 = .ok (.istore_n 3, 1) := by decide +kernel
theorem dX2_buildCandidate_48 : decode cX2_buildCandidate 48 = .ok (.iload_n 3, 1) := by decide +kernel
theorem dX2_buildCandidate_49 : decode cX2_buildCandidate 49 = .ok (.aload_n 0, 1) := by decide +kernel
theorem dX2_buildCandidate_50 : decode cX2_buildCandidate 50 = .ok (.getfield 35, 3) := by decide +kernel
theorem dX2_buildCandidate_53 : decode cX2_buildCandidate 53 = .ok (.if_icmp .ge 49, 3) := by decide +kernel
theorem dX2_buildCandidate_56 : decode cX2_buildCandidate 56 = .ok (.aload_n 0, 1) := by decide +kernel
theorem dX2_buildCandidate_57 : decode cX2_buildCandidate 57 = .ok (.getfield 13, 3) := by decide +kernel
theorem dX2_buildCandidate_60 : decode cX2_buildCandidate 60 = .ok (.iload_n 1, 1) := by decide +kernel
theorem dX2_buildCandidate_61 : decode cX2_buildCandidate 61 = .ok (.iload_n 2, 1) := by decide +kernel
theorem dX2_buildCandidate_62 : decode cX2_buildCandidate 62 = .ok (.iload_n 3, 1) := by decide +kernel
theorem dX2_buildCandidate_63 : decode cX2_buildCandidate 63 = .ok (.invokestatic 70, 3) := by decide +kernel
theorem dX2_buildCandidate_66 : decode cX2_buildCandidate 66 = .ok (.iaload, 1) := by decide +kernel
theorem dX2_buildCandidate_67 : decode cX2_buildCandidate 67 = .ok (.istore 4, 2) := by decide +kernel
theorem dX2_buildCandidate_69 : decode cX2_buildCandidate 69 = .ok (.aload_n 0, 1) := by decide +kernel
theorem dX2_buildCandidate_70 : decode cX2_buildCandidate 70 = .ok (.getfield 24, 3) := by decide +kernel
theorem dX2_buildCandidate_73 : decode cX2_buildCandidate 73 = .ok (.iload_n 1, 1) := by decide +kernel
theorem dX2_buildCandidate_74 : decode cX2_buildCandidate 74 = .ok (.iload_n 2, 1) := by decide +kernel
theorem dX2_buildCandidate_75 : decode cX2_buildCandidate 75 = .ok (.iload_n 3, 1) := by decide +kernel
theorem dX2_buildCandidate_76 : decode cX2_buildCandidate 76 = .ok (.iload 4, 2) := by decide +kernel
theorem dX2_buildCandidate_78 : decode cX2_buildCandidate 78 = .ok (.iconst (-1), 1) := by decide +kernel
theorem dX2_buildCandidate_79 : decode cX2_buildCandidate 79 = .ok (.if_icmp .ne 7, 3) := by decide +kernel
theorem dX2_buildCandidate_82 : decode cX2_buildCandidate 82 = .ok (.iconst 0, 1) := by decide +kernel
theorem dX2_buildCandidate_83 : decode cX2_buildCandidate 83 = .ok (.goto 10, 3) := by decide +kernel
theorem dX2_buildCandidate_86 : decode cX2_buildCandidate 86 = .ok (.aload_n 0, 1) := by decide +kernel
theorem dX2_buildCandidate_87 : decode cX2_buildCandidate 87 = .ok (.getfield 17, 3) := by decide +kernel
theorem dX2_buildCandidate_90 : decode cX2_buildCandidate 90 = .ok (.iload 4, 2) := by decide +kernel
theorem dX2_buildCandidate_92 : decode cX2_buildCandidate 92 = .ok (.iaload, 1) := by decide +kernel
theorem dX2_buildCandidate_93 : decode cX2_buildCandidate 93 = .ok (.invokevirtual 98, 3) := by decide +kernel
theorem dX2_buildCandidate_96 : decode cX2_buildCandidate 96 = .ok (.iinc 3 1, 3) := by decide +kernel
theorem dX2_buildCandidate_99 : decode cX2_buildCandidate 99 = .ok (.goto (-51), 3) := by decide +kernel
theorem dX2_buildCandidate_102 : decode cX2_buildCandidate 102 = .ok (.iinc 2 1, 3) := by decide +kernel
theorem dX2_buildCandidate_105 : decode cX2_buildCandidate 105 = .ok (.goto (-67), 3) := by decide +kernel
theorem dX2_buildCandidate_108 : decode cX2_buildCandidate 108 = .ok (.iinc 1 1, 3) := by decide +kernel
theorem dX2_buildCandidate_111 : decode cX2_buildCandidate 111 = .ok (.goto (-98), 3) := by decide +kernel
theorem dX2_buildCandidate_114 : decode cX2_buildCandidate 114 = .ok (.return_, 1) := by decide +kernel
theorem dX2_packedRow_0 : decode cX2_packedRow 0 = .ok (.iconst 0, 1) := by decide +kernel
theorem dX2_packedRow_1 : decode cX2_packedRow 1 = .ok (.istore_n 1, 1) := by decide +kernel
theorem dX2_packedRow_2 : decode cX2_packedRow 2 = .ok (.iconst 0, 1) := by decide +kernel
theorem dX2_packedRow_3 : decode cX2_packedRow 3 = .ok (.istore_n 2, 1) := by decide +kernel
theorem dX2_packedRow_4 : decode cX2_packedRow 4 = .ok (.iload_n 2, 1) := by decide +kernel
theorem dX2_packedRow_5 : decode cX2_packedRow 5 = .ok (.aload_n 0, 1) := by decide +kernel
theorem dX2_packedRow_6 : decode cX2_packedRow 6 = .ok (.getfield 54, 3) := by decide +kernel
theorem dX2_packedRow_9 : decode cX2_packedRow 9 = .ok (.if_icmp .ge 20, 3) := by decide +kernel
theorem dX2_packedRow_12 : decode cX2_packedRow 12 = .ok (.iload_n 1, 1) := by decide +kernel
theorem dX2_packedRow_13 : decode cX2_packedRow 13 = .ok (.iconst 2, 1) := by decide +kernel
theorem dX2_packedRow_14 : decode cX2_packedRow 14 = .ok (.ishl, 1) := by decide +kernel
theorem dX2_packedRow_15 : decode cX2_packedRow 15 = .ok (.aload_n 0, 1) := by decide +kernel
theorem dX2_packedRow_16 : decode cX2_packedRow 16 = .ok (.getfield 17, 3) := by decide +kernel
theorem dX2_packedRow_19 : decode cX2_packedRow 19 = .ok (.iload_n 2, 1) := by decide +kernel
theorem dX2_packedRow_20 : decode cX2_packedRow 20 = .ok (.iaload, 1) := by decide +kernel
theorem dX2_packedRow_21 : decode cX2_packedRow 21 = .ok (.ior, 1) := by decide +kernel
theorem dX2_packedRow_22 : decode cX2_packedRow 22 = .ok (.istore_n 1, 1) := by decide +kernel
theorem dX2_packedRow_23 : decode cX2_packedRow 23 = .ok (.iinc 2 1, 3) := by decide +kernel
theorem dX2_packedRow_26 : decode cX2_packedRow 26 = .ok (.goto (-22), 3) := by decide +kernel
theorem dX2_packedRow_29 : decode cX2_packedRow 29 = .ok (.iload_n 1, 1) := by decide +kernel
theorem dX2_packedRow_30 : decode cX2_packedRow 30 = .ok (.ireturn, 1) := by decide +kernel
theorem dX2_nextRow_0 : decode cX2_nextRow 0 = .ok (.aload_n 0, 1) := by decide +kernel
theorem dX2_nextRow_1 : decode cX2_nextRow 1 = .ok (.getfield 54, 3) := by decide +kernel
theorem dX2_nextRow_4 : decode cX2_nextRow 4 = .ok (.iconst 1, 1) := by decide +kernel
theorem dX2_nextRow_5 : decode cX2_nextRow 5 = .ok (.isub, 1) := by decide +kernel
theorem dX2_nextRow_6 : decode cX2_nextRow 6 = .ok (.istore_n 1, 1) := by decide +kernel
theorem dX2_nextRow_7 : decode cX2_nextRow 7 = .ok (.iload_n 1, 1) := by decide +kernel
theorem dX2_nextRow_8 : decode cX2_nextRow 8 = .ok (.ifCond .lt 41, 3) := by decide +kernel
theorem dX2_nextRow_11 : decode cX2_nextRow 11 = .ok (.aload_n 0, 1) := by decide +kernel
theorem dX2_nextRow_12 : decode cX2_nextRow 12 = .ok (.getfield 17, 3) := by decide +kernel
theorem dX2_nextRow_15 : decode cX2_nextRow 15 = .ok (.iload_n 1, 1) := by decide +kernel
theorem dX2_nextRow_16 : decode cX2_nextRow 16 = .ok (.iaload, 1) := by decide +kernel
theorem dX2_nextRow_17 : decode cX2_nextRow 17 = .ok (.aload_n 0, 1) := by decide +kernel
theorem dX2_nextRow_18 : decode cX2_nextRow 18 = .ok (.getfield 39, 3) := by decide +kernel
theorem dX2_nextRow_21 : decode cX2_nextRow 21 = .ok (.if_icmp .ge 15, 3) := by decide +kernel
theorem dX2_nextRow_24 : decode cX2_nextRow 24 = .ok (.aload_n 0, 1) := by decide +kernel
theorem dX2_nextRow_25 : decode cX2_nextRow 25 = .ok (.getfield 17, 3) := by decide +kernel
theorem dX2_nextRow_28 : decode cX2_nextRow 28 = .ok (.iload_n 1, 1) := by decide +kernel
theorem dX2_nextRow_29 : decode cX2_nextRow 29 = .ok (.dup2, 1) := by decide +kernel
theorem dX2_nextRow_30 : decode cX2_nextRow 30 = .ok (.iaload, 1) := by decide +kernel
theorem dX2_nextRow_31 : decode cX2_nextRow 31 = .ok (.iconst 1, 1) := by decide +kernel
theorem dX2_nextRow_32 : decode cX2_nextRow 32 = .ok (.iadd, 1) := by decide +kernel
theorem dX2_nextRow_33 : decode cX2_nextRow 33 = .ok (.iastore, 1) := by decide +kernel
theorem dX2_nextRow_34 : decode cX2_nextRow 34 = .ok (.iconst 1, 1) := by decide +kernel
theorem dX2_nextRow_35 : decode cX2_nextRow 35 = .ok (.ireturn, 1) := by decide +kernel
theorem dX2_nextRow_36 : decode cX2_nextRow 36 = .ok (.aload_n 0, 1) := by decide +kernel
theorem dX2_nextRow_37 : decode cX2_nextRow 37 = .ok (.getfield 17, 3) := by decide +kernel
theorem dX2_nextRow_40 : decode cX2_nextRow 40 = .ok (.iload_n 1, 1) := by decide +kernel
theorem dX2_nextRow_41 : decode cX2_nextRow 41 = .ok (.iconst 0, 1) := by decide +kernel
theorem dX2_nextRow_42 : decode cX2_nextRow 42 = .ok (.iastore, 1) := by decide +kernel
theorem dX2_nextRow_43 : decode cX2_nextRow 43 = .ok (.iinc 1 (-1), 3) := by decide +kernel
theorem dX2_nextRow_46 : decode cX2_nextRow 46 = .ok (.goto (-39), 3) := by decide +kernel
theorem dX2_nextRow_49 : decode cX2_nextRow 49 = .ok (.iconst 0, 1) := by decide +kernel
theorem dX2_nextRow_50 : decode cX2_nextRow 50 = .ok (.ireturn, 1) := by decide +kernel
theorem dX3_init_0 : decode cX3_init 0 = .ok (.aload_n 0, 1) := by decide +kernel
theorem dX3_init_1 : decode cX3_init 1 = .ok (.invokespecial 3, 3) := by decide +kernel
theorem dX3_init_4 : decode cX3_init 4 = .ok (.aload_n 0, 1) := by decide +kernel
theorem dX3_init_5 : decode cX3_init 5 = .ok (.iconst 5, 1) := by decide +kernel
theorem dX3_init_6 : decode cX3_init 6 = .ok (.newarray .int, 2) := by decide +kernel
theorem dX3_init_8 : decode cX3_init 8 = .ok (.putfield 9, 3) := by decide +kernel
theorem dX3_init_11 : decode cX3_init 11 = .ok (.return_, 1) := by decide +kernel
set_option maxRecDepth 20000 in
theorem ggX3_count_X3_countFrom : GoodIn wsX3_count wsX3_countFrom := goodIn_r _ [6, 1, 7, 8, 5, 9, 10, 11, 12, 13, 14, 15, 16, 17, 18, 3, 4, 19, 20] (by decide +kernel) (by decide +kernel)
set_option maxRecDepth 20000 in
theorem gX3_count_X3_countFrom : GoodIn wsX3_count (va_wsS RX3 21 yX3_countFrom wsX3_countFrom) := goodIn_app (goodIn_of _ (by decide +kernel)) ggX3_count_X3_countFrom
theorem dX3_count_0 : decode cX3_count 0 = .ok (.aload_n 1, 1) := by decide +kernel
theorem dX3_count_1 : decode cX3_count 1 = .ok (.getfield 15, 3) := by decide +kernel
theorem dX3_count_4 : decode cX3_count 4 = .ok (.aload_n 2, 1) := by decide +kernel
theorem dX3_count_5 : decode cX3_count 5 = .ok (.getfield 15, 3) := by decide +kernel
theorem dX3_count_8 : decode cX3_count 8 = .ok (.if_icmp .ne 17, 3) := by decide +kernel
theorem dX3_count_11 : decode cX3_count 11 = .ok (.aload_n 1, 1) := by decide +kernel
theorem dX3_count_12 : decode cX3_count 12 = .ok (.aload_n 2, 1) := by decide +kernel
theorem dX3_count_13 : decode cX3_count 13 = .ok (.aload_n 0, 1) := by decide +kernel
theorem dX3_count_14 : decode cX3_count 14 = .ok (.getfield 9, 3) := by decide +kernel
theorem dX3_count_17 : decode cX3_count 17 = .ok (.iconst 1, 1) := by decide +kernel
theorem dX3_count_18 : decode cX3_count 18 = .ok (.iconst 1, 1) := by decide +kernel
theorem dX3_count_19 : decode cX3_count 19 = .ok (.invokestatic 21, 3) := by decide +kernel
theorem dX3_count_22 : decode cX3_count 22 = .ok (.goto 4, 3) := by decide +kernel
theorem dX3_count_25 : decode cX3_count 25 = .ok (.iconst 0, 1) := by decide +kernel
theorem dX3_count_26 : decode cX3_count 26 = .ok (.ireturn, 1) := by decide +kernel
set_option maxRecDepth 20000 in
theorem ggX3_countFrom_X3_alike : GoodIn wsX3_countFrom wsX3_alike := goodIn_r _ [5, 1, 6, 7, 8, 9, 10, 11, 12, 13, 14, 17, 18] (by decide +kernel) (by decide +kernel)
set_option maxRecDepth 20000 in
theorem gX3_countFrom_X3_alike : GoodIn wsX3_countFrom (va_wsS RX3 25 yX3_alike wsX3_alike) := goodIn_app (goodIn_of _ (by decide +kernel)) ggX3_countFrom_X3_alike
set_option maxRecDepth 20000 in
theorem ggX3_countFrom_X3_countFrom : GoodIn wsX3_countFrom wsX3_countFrom := goodIn_r _ [0, 1, 2, 3, 4, 5, 6, 7, 8, 9, 10, 11, 12, 13, 14, 15, 16, 17, 18] (by decide +kernel) (by decide +kernel)
set_option maxRecDepth 20000 in
theorem gX3_countFrom_X3_countFrom : GoodIn wsX3_countFrom (va_wsS RX3 21 yX3_countFrom wsX3_countFrom) := goodIn_app (goodIn_of _ (by decide +kernel)) ggX3_countFrom_X3_countFrom
theorem dX3_countFrom_0 : decode cX3_countFrom 0 = .ok (.iload_n 3, 1) := by decide +kernel
theorem dX3_countFrom_1 : decode cX3_countFrom 1 = .ok (.aload_n 0, 1) := by decide +kernel
theorem dX3_countFrom_2 : decode cX3_countFrom 2 = .ok (.getfield 15, 3) := by decide +kernel
theorem dX3_countFrom_5 : decode cX3_countFrom 5 = .ok (.if_icmp .lt 18, 3) := by decide +kernel
theorem dX3_countFrom_8 : decode cX3_countFrom 8 = .ok (.aload_n 0, 1) := by decide +kernel
theorem dX3_countFrom_9 : decode cX3_countFrom 9 = .ok (.aload_n 1, 1) := by decide +kernel
theorem dX3_countFrom_10 : decode cX3_countFrom 10 = .ok (.aload_n 2, 1) := by decide +kernel
theorem dX3_countFrom_11 : decode cX3_countFrom 11 = .ok (.invokestatic 25, 3) := by decide +kernel
theorem dX3_countFrom_14 : decode cX3_countFrom 14 = .ok (.ifCond .eq 7, 3) := by decide +kernel
theorem dX3_countFrom_17 : decode cX3_countFrom 17 = .ok (.iconst 1, 1) := by decide +kernel
theorem dX3_countFrom_18 : decode cX3_countFrom 18 = .ok (.goto 4, 3) := by decide +kernel
theorem dX3_countFrom_21 : decode cX3_countFrom 21 = .ok (.iconst 0, 1) := by decide +kernel
theorem dX3_countFrom_22 : decode cX3_countFrom 22 = .ok (.ireturn, 1) := by decide +kernel
theorem dX3_countFrom_23 : decode cX3_countFrom 23 = .ok (.iconst 0, 1) := by decide +kernel
theorem dX3_countFrom_24 : decode cX3_countFrom 24 = .ok (.istore 5, 2) := by decide +kernel
theorem dX3_countFrom_26 : decode cX3_countFrom 26 = .ok (.iconst 1, 1) := by decide +kernel
theorem dX3_countFrom_27 : decode cX3_countFrom 27 = .ok (.istore 6, 2) := by decide +kernel
theorem dX3_countFrom_29 : decode cX3_countFrom 29 = .ok (.iload 6, 2) := by decide +kernel
theorem dX3_countFrom_31 : decode cX3_countFrom 31 = .ok (.aload_n 0, 1) := by decide +kernel
theorem dX3_countFrom_32 : decode cX3_countFrom 32 = .ok (.getfield 15, 3) := by decide +kernel
theorem dX3_countFrom_35 : decode cX3_countFrom 35 = .ok (.if_icmp .ge 45, 3) := by decide +kernel
theorem dX3_countFrom_38 : decode cX3_countFrom 38 = .ok (.iload 4, 2) := by decide +kernel
theorem dX3_countFrom_40 : decode cX3_countFrom 40 = .ok (.iload 6, 2) := by decide +kernel
theorem dX3_countFrom_42 : decode cX3_countFrom 42 = .ok (.ishr, 1) := by decide +kernel
theorem dX3_countFrom_43 : decode cX3_countFrom 43 = .ok (.iconst 1, 1) := by decide +kernel
theorem dX3_countFrom_44 : decode cX3_countFrom 44 = .ok (.iand, 1) := by decide +kernel
theorem dX3_countFrom_45 : decode cX3_countFrom 45 = .ok (.ifCond .ne 29, 3) := by decide +kernel
theorem dX3_countFrom_48 : decode cX3_countFrom 48 = .ok (.aload_n 2, 1) := by decide +kernel
theorem dX3_countFrom_49 : decode cX3_countFrom 49 = .ok (.iload_n 3, 1) := by decide +kernel
theorem dX3_countFrom_50 : decode cX3_countFrom 50 = .ok (.iload 6, 2) := by decide +kernel
theorem dX3_countFrom_52 : decode cX3_countFrom 52 = .ok (.iastore, 1) := by decide +kernel
theorem dX3_countFrom_53 : decode cX3_countFrom 53 = .ok (.iload 5, 2) := by decide +kernel
theorem dX3_countFrom_55 : decode cX3_countFrom 55 = .ok (.aload_n 0, 1) := by decide +kernel
theorem dX3_countFrom_56 : decode cX3_countFrom 56 = .ok (.aload_n 1, 1) := by decide +kernel
theorem dX3_countFrom_57 : decode cX3_countFrom 57 = .ok (.aload_n 2, 1) := by decide +kernel
theorem dX3_countFrom_58 : decode cX3_countFrom 58 = .ok (.iload_n 3, 1) := by decide +kernel
theorem dX3_countFrom_59 : decode cX3_countFrom 59 = .ok (.iconst 1, 1) := by decide +kernel
theorem dX3_countFrom_60 : decode cX3_countFrom 60 = .ok (.iadd, 1) := by decide +kernel
theorem dX3_countFrom_61 : decode cX3_countFrom 61 = .ok (.iload 4, 2) := by decide +kernel
theorem dX3_countFrom_63 : decode cX3_countFrom 63 = .ok (.iconst 1, 1) := by decide +kernel
theorem dX3_countFrom_64 : decode cX3_countFrom 64 = .ok (.iload 6, 2) := by decide +kernel
theorem dX3_countFrom_66 : decode cX3_countFrom 66 = .ok (.ishl, 1) := by decide +kernel
theorem dX3_countFrom_67 : decode cX3_countFrom 67 = .ok (.ior, 1) := by decide +kernel
theorem dX3_countFrom_68 : decode cX3_countFrom 68 = .ok (.invokestatic 21, 3) := by decide +kernel
theorem dX3_countFrom_71 : decode cX3_countFrom 71 = .ok (.iadd, 1) := by decide +kernel
theorem dX3_countFrom_72 : decode cX3_countFrom 72 = .ok (.istore 5, 2) := by decide +kernel
theorem dX3_countFrom_74 : decode cX3_countFrom 74 = .ok (.iinc 6 1, 3) := by decide +kernel
theorem dX3_countFrom_77 : decode cX3_countFrom 77 = .ok (.goto (-48), 3) := by decide +kernel
theorem dX3_countFrom_80 : decode cX3_countFrom 80 = .ok (.iload 5, 2) := by decide +kernel
theorem dX3_countFrom_82 : decode cX3_countFrom 82 = .ok (.ireturn, 1) := by decide +kernel
set_option maxRecDepth 20000 in
theorem ggX3_alike_X7_number : GoodIn wsX3_alike wsX7_number := goodIn_r _ [6, 7, 8, 9, 5, 10, 11, 12] (by decide +kernel) (by decide +kernel)
set_option maxRecDepth 20000 in
theorem gX3_alike_X7_number : GoodIn wsX3_alike (wsV RX3 29 RX7 yX7_number wsX7_number) := goodIn_app (goodIn_of _ (by decide +kernel)) ggX3_alike_X7_number
theorem dX3_alike_0 : decode cX3_alike 0 = .ok (.iconst 0, 1) := by decide +kernel
theorem dX3_alike_1 : decode cX3_alike 1 = .ok (.istore_n 3, 1) := by decide +kernel
theorem dX3_alike_2 : decode cX3_alike 2 = .ok (.iload_n 3, 1) := by decide +kernel
theorem dX3_alike_3 : decode cX3_alike 3 = .ok (.aload_n 0, 1) := by decide +kernel
theorem dX3_alike_4 : decode cX3_alike 4 = .ok (.getfield 15, 3) := by decide +kernel
theorem dX3_alike_7 : decode cX3_alike 7 = .ok (.if_icmp .ge 74, 3) := by decide +kernel
theorem dX3_alike_10 : decode cX3_alike 10 = .ok (.iconst 0, 1) := by decide +kernel
theorem dX3_alike_11 : decode cX3_alike 11 = .ok (.istore 4, 2) := by decide +kernel
theorem dX3_alike_13 : decode cX3_alike 13 = .ok (.iload 4, 2) := by decide +kernel
theorem dX3_alike_15 : decode cX3_alike 15 = .ok (.aload_n 0, 1) := by decide +kernel
theorem dX3_alike_16 : decode cX3_alike 16 = .ok (.getfield 15, 3) := by decide +kernel
theorem dX3_alike_19 : decode cX3_alike 19 = .ok (.if_icmp .ge 56, 3) := by decide +kernel
theorem dX3_alike_22 : decode cX3_alike 22 = .ok (.iconst 0, 1) := by decide +kernel
theorem dX3_alike_23 : decode cX3_alike 23 = .ok (.istore 5, 2) := by decide +kernel
theorem dX3_alike_25 : decode cX3_alike 25 = .ok (.iload 5, 2) := by decide +kernel
theorem dX3_alike_27 : decode cX3_alike 27 = .ok (.aload_n 0, 1) := by decide +kernel
theorem dX3_alike_28 : decode cX3_alike 28 = .ok (.getfield 15, 3) := by decide +kernel
theorem dX3_alike_31 : decode cX3_alike 31 = .ok (.if_icmp .ge 38, 3) := by decide +kernel
theorem dX3_alike_34 : decode cX3_alike 34 = .ok (.aload_n 0, 1) := by decide +kernel
theorem dX3_alike_35 : decode cX3_alike 35 = .ok (.iload_n 3, 1) := by decide +kernel
theorem dX3_alike_36 : decode cX3_alike 36 = .ok (.iload 4, 2) := by decide +kernel
theorem dX3_alike_38 : decode cX3_alike 38 = .ok (.iload 5, 2) := by decide +kernel
theorem dX3_alike_40 : decode cX3_alike 40 = .ok (.invokevirtual 29, 3) := by decide +kernel
theorem dX3_alike_43 : decode cX3_alike 43 = .ok (.aload_n 1, 1) := by decide +kernel
theorem dX3_alike_44 : decode cX3_alike 44 = .ok (.aload_n 2, 1) := by decide +kernel
theorem dX3_alike_45 : decode cX3_alike 45 = .ok (.iload_n 3, 1) := by decide +kernel
theorem dX3_alike_46 : decode cX3_alike 46 = .ok (.iaload, 1) := by decide +kernel
theorem dX3_alike_47 : decode cX3_alike 47 = .ok (.aload_n 2, 1) := by decide +kernel
theorem dX3_alike_48 : decode cX3_alike 48 = .ok (.iload 4, 2) := by decide +kernel
theorem dX3_alike_50 : decode cX3_alike 50 = .ok (.iaload, 1) := by decide +kernel
theorem dX3_alike_51 : decode cX3_alike 51 = .ok (.aload_n 2, 1) := by decide +kernel
theorem dX3_alike_52 : decode cX3_alike 52 = .ok (.iload 5, 2) := by decide +kernel
theorem dX3_alike_54 : decode cX3_alike 54 = .ok (.iaload, 1) := by decide +kernel
theorem dX3_alike_55 : decode cX3_alike 55 = .ok (.invokevirtual 29, 3) := by decide +kernel
theorem dX3_alike_58 : decode cX3_alike 58 = .ok (.if_icmp .eq 5, 3) := by decide +kernel
theorem dX3_alike_61 : decode cX3_alike 61 = .ok (.iconst 0, 1) := by decide +kernel
theorem dX3_alike_62 : decode cX3_alike 62 = .ok (.ireturn, 1) := by decide +kernel
theorem dX3_alike_63 : decode cX3_alike 63 = .ok (.iinc 5 1, 3) := by decide +kernel
theorem dX3_alike_66 : decode cX3_alike 66 = .ok (.goto (-41), 3) := by decide +kernel
theorem dX3_alike_69 : decode cX3_alike 69 = .ok (.iinc 4 1, 3) := by decide +kernel
theorem dX3_alike_72 : decode cX3_alike 72 = .ok (.goto (-59), 3) := by decide +kernel
theorem dX3_alike_75 : decode cX3_alike 75 = .ok (.iinc 3 1, 3) := by decide +kernel
theorem dX3_alike_78 : decode cX3_alike 78 = .ok (.goto (-76), 3) := by decide +kernel
theorem dX3_alike_81 : decode cX3_alike 81 = .ok (.iconst 1, 1) := by decide +kernel
theorem dX3_alike_82 : decode cX3_alike 82 = .ok (.ireturn, 1) := by decide +kernel
theorem dX4_init_0 : decode cX4_init 0 = .ok (.aload_n 0, 1) := by decide +kernel
theorem dX4_init_1 : decode cX4_init 1 = .ok (.invokespecial 3, 3) := by decide +kernel
theorem dX4_init_4 : decode cX4_init 4 = .ok (.aload_n 0, 1) := by decide +kernel
theorem dX4_init_5 : decode cX4_init 5 = .ok (.iconst 5, 1) := by decide +kernel
theorem dX4_init_6 : decode cX4_init 6 = .ok (.newarray .int, 2) := by decide +kernel
theorem dX4_init_8 : decode cX4_init 8 = .ok (.putfield 9, 3) := by decide +kernel
theorem dX4_init_11 : decode cX4_init 11 = .ok (.return_, 1) := by decide +kernel
set_option maxRecDepth 20000 in
theorem ggX4_count_X4_walk : GoodIn wsX4_count wsX4_walk := goodIn_r _ [6, 1, 7, 8, 9, 10, 11, 12, 13, 14, 15, 5, 16, 17, 18, 19, 20, 21, 22, 23, 24, 25, 26, 27, 28, 29, 30, 31, 32, 33, 34, 35, 36, 37] (by decide +kernel) (by decide +kernel)
set_option maxRecDepth 20000 in
theorem gX4_count_X4_walk : GoodIn wsX4_count (wsV RX4 15 RX4 yX4_walk wsX4_walk) := goodIn_app (goodIn_of _ (by decide +kernel)) ggX4_count_X4_walk
theorem dX4_count_0 : decode cX4_count 0 = .ok (.aload_n 0, 1) := by decide +kernel
theorem dX4_count_1 : decode cX4_count 1 = .ok (.aload_n 1, 1) := by decide +kernel
theorem dX4_count_2 : decode cX4_count 2 = .ok (.iload_n 2, 1) := by decide +kernel
theorem dX4_count_3 : decode cX4_count 3 = .ok (.iconst (-1), 1) := by decide +kernel
theorem dX4_count_4 : decode cX4_count 4 = .ok (.invokevirtual 15, 3) := by decide +kernel
theorem dX4_count_7 : decode cX4_count 7 = .ok (.pop, 1) := by decide +kernel
theorem dX4_count_8 : decode cX4_count 8 = .ok (.aload_n 0, 1) := by decide +kernel
theorem dX4_count_9 : decode cX4_count 9 = .ok (.getfield 19, 3) := by decide +kernel
theorem dX4_count_12 : decode cX4_count 12 = .ok (.ireturn, 1) := by decide +kernel
set_option maxRecDepth 20000 in
theorem ggX4_find_X4_walk : GoodIn wsX4_find wsX4_walk := goodIn_r _ [5, 6, 7, 8, 9, 10, 11, 12, 13, 14, 15, 4, 16, 17, 18, 19, 20, 21, 22, 23, 24, 25, 26, 27, 28, 29, 30, 31, 32, 33, 34, 35, 36, 37] (by decide +kernel) (by decide +kernel)
set_option maxRecDepth 20000 in
theorem gX4_find_X4_walk : GoodIn wsX4_find (wsV RX4 15 RX4 yX4_walk wsX4_walk) := goodIn_app (goodIn_of _ (by decide +kernel)) ggX4_find_X4_walk
theorem dX4_find_0 : decode cX4_find 0 = .ok (.aload_n 0, 1) := by decide +kernel
theorem dX4_find_1 : decode cX4_find 1 = .ok (.aload_n 1, 1) := by decide +kernel
theorem dX4_find_2 : decode cX4_find 2 = .ok (.iload_n 2, 1) := by decide +kernel
theorem dX4_find_3 : decode cX4_find 3 = .ok (.iload_n 3, 1) := by decide +kernel
theorem dX4_find_4 : decode cX4_find 4 = .ok (.invokevirtual 15, 3) := by decide +kernel
theorem dX4_find_7 : decode cX4_find 7 = .ok (.ireturn, 1) := by decide +kernel
set_option maxRecDepth 20000 in
theorem ggX4_walk_J7_fill_53178 : GoodIn wsX4_walk wsJ7_fill_53178 := goodIn_r _ [7] (by decide +kernel) (by decide +kernel)
set_option maxRecDepth 20000 in
theorem gX4_walk_J7_fill_53178 : GoodIn wsX4_walk (va_wsS RX4 23 yJ7_fill_53178 wsJ7_fill_53178) := goodIn_app (goodIn_of _ (by decide +kernel)) ggX4_walk_J7_fill_53178
set_option maxRecDepth 20000 in
theorem ggX4_walk_X4_lastOfBroken : GoodIn wsX4_walk wsX4_lastOfBroken := goodIn_r _ [12, 3, 2, 13, 14, 15, 16, 17, 18, 19, 20, 21, 22, 23, 24, 25, 32, 33, 30, 31] (by decide +kernel) (by decide +kernel)
set_option maxRecDepth 20000 in
theorem gX4_walk_X4_lastOfBroken : GoodIn wsX4_walk (wsV RX4 29 RX4 yX4_lastOfBroken wsX4_lastOfBroken) := goodIn_app (goodIn_of _ (by decide +kernel)) ggX4_walk_X4_lastOfBroken
set_option maxRecDepth 20000 in
theorem ggX4_walk_X4_nextRow : GoodIn wsX4_walk wsX4_nextRow := goodIn_r _ [29, 2, 30, 31] (by decide +kernel) (by decide +kernel)
set_option maxRecDepth 20000 in
theorem gX4_walk_X4_nextRow : GoodIn wsX4_walk (wsV RX4 38 RX4 yX4_nextRow wsX4_nextRow) := goodIn_app (goodIn_of _ (by decide +kernel)) ggX4_walk_X4_nextRow
theorem dX4_walk_0 : decode cX4_walk 0 = .ok (.aload_n 0, 1) := by decide +kernel
theorem dX4_walk_1 : decode cX4_walk 1 = .ok (.iconst 0, 1) := by decide +kernel
theorem dX4_walk_2 : decode cX4_walk 2 = .ok (.putfield 19, 3) := by decide +kernel
theorem dX4_walk_5 : decode cX4_walk 5 = .ok (.aload_n 0, 1) := by decide +kernel
theorem dX4_walk_6 : decode cX4_walk 6 = .ok (.getfield 9, 3) := by decide +kernel
theorem dX4_walk_9 : decode cX4_walk 9 = .ok (.iconst 0, 1) := by decide +kernel
theorem dX4_walk_10 : decode cX4_walk 10 = .ok (.invokestatic 23, 3) := by decide +kernel
theorem dX4_walk_13 : decode cX4_walk 13 = .ok (.aload_n 0, 1) := by decide +kernel
theorem dX4_walk_14 : decode cX4_walk 14 = .ok (.getfield 9, 3) := by decide +kernel
theorem dX4_walk_17 : decode cX4_walk 17 = .ok (.iconst 0, 1) := by decide +kernel
theorem dX4_walk_18 : decode cX4_walk 18 = .ok (.iconst 1, 1) := by decide +kernel
theorem dX4_walk_19 : decode cX4_walk 19 = .ok (.iastore, 1) := by decide +kernel
theorem dX4_walk_20 : decode cX4_walk 20 = .ok (.iload_n 2, 1) := by decide +kernel
theorem dX4_walk_21 : decode cX4_walk 21 = .ok (.ifCond .le 7, 3) := by decide +kernel
theorem dX4_walk_24 : decode cX4_walk 24 = .ok (.iconst 1, 1) := by decide +kernel
theorem dX4_walk_25 : decode cX4_walk 25 = .ok (.goto 4, 3) := by decide +kernel
theorem dX4_walk_28 : decode cX4_walk 28 = .ok (.iconst 0, 1) := by decide +kernel
theorem dX4_walk_29 : decode cX4_walk 29 = .ok (.istore 4, 2) := by decide +kernel
theorem dX4_walk_31 : decode cX4_walk 31 = .ok (.iconst 0, 1) := by decide +kernel
theorem dX4_walk_32 : decode cX4_walk 32 = .ok (.istore 5, 2) := by decide +kernel
theorem dX4_walk_34 : decode cX4_walk 34 = .ok (.iload 5, 2) := by decide +kernel
theorem dX4_walk_36 : decode cX4_walk 36 = .ok (.sipush 28561, 3) := by decide +kernel
theorem dX4_walk_39 : decode cX4_walk 39 = .ok (.if_icmp .ge 69, 3) := by decide +kernel
theorem dX4_walk_42 : decode cX4_walk 42 = .ok (.iload 4, 2) := by decide +kernel
theorem dX4_walk_44 : decode cX4_walk 44 = .ok (.ifCond .eq 64, 3) := by decide +kernel
theorem dX4_walk_47 : decode cX4_walk 47 = .ok (.aload_n 0, 1) := by decide +kernel
theorem dX4_walk_48 : decode cX4_walk 48 = .ok (.aload_n 1, 1) := by decide +kernel
theorem dX4_walk_49 : decode cX4_walk 49 = .ok (.iload_n 2, 1) := by decide +kernel
theorem dX4_walk_50 : decode cX4_walk 50 = .ok (.invokevirtual 29, 3) := by decide +kernel
theorem dX4_walk_53 : decode cX4_walk 53 = .ok (.istore 6, 2) := by decide +kernel
theorem dX4_walk_55 : decode cX4_walk 55 = .ok (.iload 6, 2) := by decide +kernel
theorem dX4_walk_57 : decode cX4_walk 57 = .ok (.iconst (-1), 1) := by decide +kernel
theorem dX4_walk_58 : decode cX4_walk 58 = .ok (.if_icmp .ne 31, 3) := by decide +kernel
theorem dX4_walk_61 : decode cX4_walk 61 = .ok (.aload_n 0, 1) := by decide +kernel
theorem dX4_walk_62 : decode cX4_walk 62 = .ok (.getfield 19, 3) := by decide +kernel
theorem dX4_walk_65 : decode cX4_walk 65 = .ok (.iload_n 3, 1) := by decide +kernel
theorem dX4_walk_66 : decode cX4_walk 66 = .ok (.if_icmp .ne 5, 3) := by decide +kernel
theorem dX4_walk_69 : decode cX4_walk 69 = .ok (.iconst 1, 1) := by decide +kernel
theorem dX4_walk_70 : decode cX4_walk 70 = .ok (.ireturn, 1) := by decide +kernel
theorem dX4_walk_71 : decode cX4_walk 71 = .ok (.aload_n 0, 1) := by decide +kernel
theorem dX4_walk_72 : decode cX4_walk 72 = .ok (.dup, 1) := by decide +kernel
theorem dX4_walk_73 : decode cX4_walk 73 = .ok (.getfield 19, 3) := by decide +kernel
theorem dX4_walk_76 : decode cX4_walk 76 = .ok (.iconst 1, 1) := by decide +kernel
theorem dX4_walk_77 : decode cX4_walk 77 = .ok (.iadd, 1) := by decide +kernel
theorem dX4_walk_78 : decode cX4_walk 78 = .ok (.putfield 19, 3) := by decide +kernel
theorem dX4_walk_81 : decode cX4_walk 81 = .ok (.aload_n 1, 1) := by decide +kernel
theorem dX4_walk_82 : decode cX4_walk 82 = .ok (.getfield 33, 3) := by decide +kernel
theorem dX4_walk_85 : decode cX4_walk 85 = .ok (.iconst 1, 1) := by decide +kernel
theorem dX4_walk_86 : decode cX4_walk 86 = .ok (.isub, 1) := by decide +kernel
theorem dX4_walk_87 : decode cX4_walk 87 = .ok (.istore 6, 2) := by decide +kernel
theorem dX4_walk_89 : decode cX4_walk 89 = .ok (.aload_n 0, 1) := by decide +kernel
theorem dX4_walk_90 : decode cX4_walk 90 = .ok (.aload_n 1, 1) := by decide +kernel
theorem dX4_walk_91 : decode cX4_walk 91 = .ok (.getfield 33, 3) := by decide +kernel
theorem dX4_walk_94 : decode cX4_walk 94 = .ok (.iload_n 2, 1) := by decide +kernel
theorem dX4_walk_95 : decode cX4_walk 95 = .ok (.iload 6, 2) := by decide +kernel
theorem dX4_walk_97 : decode cX4_walk 97 = .ok (.invokevirtual 38, 3) := by decide +kernel
theorem dX4_walk_100 : decode cX4_walk 100 = .ok (.istore 4, 2) := by decide +kernel
theorem dX4_walk_102 : decode cX4_walk 102 = .ok (.iinc 5 1, 3) := by decide +kernel
theorem dX4_walk_105 : decode cX4_walk 105 = .ok (.goto (-71), 3) := by decide +kernel
theorem dX4_walk_108 : decode cX4_walk 108 = .ok (.iconst 0, 1) := by decide +kernel
theorem dX4_walk_109 : decode cX4_walk 109 = .ok (.ireturn, 1) := by decide +kernel
set_option maxRecDepth 20000 in
theorem ggX4_lastOfBroken_X7_number : GoodIn wsX4_lastOfBroken wsX7_number := goodIn_r _ [11, 12, 13, 14, 10, 15, 16, 17] (by decide +kernel) (by decide +kernel)
set_option maxRecDepth 20000 in
theorem gX4_lastOfBroken_X7_number : GoodIn wsX4_lastOfBroken (wsV RX4 42 RX7 yX7_number wsX7_number) := goodIn_app (goodIn_of _ (by decide +kernel)) ggX4_lastOfBroken_X7_number
theorem dX4_lastOfBroken_0 : decode cX4_lastOfBroken 0 = .ok (.iconst 1, 1) := by decide +kernel
theorem dX4_lastOfBroken_1 : decode cX4_lastOfBroken 1 = .ok (.istore_n 3, 1) := by decide +kernel
theorem dX4_lastOfBroken_2 : decode cX4_lastOfBroken 2 = .ok (.iload_n 3, 1) := by decide +kernel
theorem dX4_lastOfBroken_3 : decode cX4_lastOfBroken 3 = .ok (.aload_n 1, 1) := by decide +kernel
theorem dX4_lastOfBroken_4 : decode cX4_lastOfBroken 4 = .ok (.getfield 33, 3) := by decide +kernel
theorem dX4_lastOfBroken_7 : decode cX4_lastOfBroken 7 = .ok (.if_icmp .ge 120, 3) := by decide +kernel
theorem dX4_lastOfBroken_10 : decode cX4_lastOfBroken 10 = .ok (.iconst 1, 1) := by decide +kernel
theorem dX4_lastOfBroken_11 : decode cX4_lastOfBroken 11 = .ok (.istore 4, 2) := by decide +kernel
theorem dX4_lastOfBroken_13 : decode cX4_lastOfBroken 13 = .ok (.iload 4, 2) := by decide +kernel
theorem dX4_lastOfBroken_15 : decode cX4_lastOfBroken 15 = .ok (.iload_n 3, 1) := by decide +kernel
theorem dX4_lastOfBroken_16 : decode cX4_lastOfBroken 16 = .ok (.if_icmp .gt 105, 3) := by decide +kernel
theorem dX4_lastOfBroken_19 : decode cX4_lastOfBroken 19 = .ok (.aload_n 0, 1) := by decide +kernel
theorem dX4_lastOfBroken_20 : decode cX4_lastOfBroken 20 = .ok (.getfield 9, 3) := by decide +kernel
theorem dX4_lastOfBroken_23 : decode cX4_lastOfBroken 23 = .ok (.iload_n 3, 1) := by decide +kernel
theorem dX4_lastOfBroken_24 : decode cX4_lastOfBroken 24 = .ok (.iaload, 1) := by decide +kernel
theorem dX4_lastOfBroken_25 : decode cX4_lastOfBroken 25 = .ok (.aload_n 0, 1) := by decide +kernel
theorem dX4_lastOfBroken_26 : decode cX4_lastOfBroken 26 = .ok (.getfield 9, 3) := by decide +kernel
theorem dX4_lastOfBroken_29 : decode cX4_lastOfBroken 29 = .ok (.iload 4, 2) := by decide +kernel
theorem dX4_lastOfBroken_31 : decode cX4_lastOfBroken 31 = .ok (.iaload, 1) := by decide +kernel
theorem dX4_lastOfBroken_32 : decode cX4_lastOfBroken 32 = .ok (.imul, 1) := by decide +kernel
theorem dX4_lastOfBroken_33 : decode cX4_lastOfBroken 33 = .ok (.istore 5, 2) := by decide +kernel
theorem dX4_lastOfBroken_35 : decode cX4_lastOfBroken 35 = .ok (.iload_n 3, 1) := by decide +kernel
theorem dX4_lastOfBroken_36 : decode cX4_lastOfBroken 36 = .ok (.istore 6, 2) := by decide +kernel
theorem dX4_lastOfBroken_38 : decode cX4_lastOfBroken 38 = .ok (.iconst 0, 1) := by decide +kernel
theorem dX4_lastOfBroken_39 : decode cX4_lastOfBroken 39 = .ok (.istore 7, 2) := by decide +kernel
theorem dX4_lastOfBroken_41 : decode cX4_lastOfBroken 41 = .ok (.iload 7, 2) := by decide +kernel
theorem dX4_lastOfBroken_43 : decode cX4_lastOfBroken 43 = .ok (.aload_n 1, 1) := by decide +kernel
theorem dX4_lastOfBroken_44 : decode cX4_lastOfBroken 44 = .ok (.getfield 33, 3) := by decide +kernel
theorem dX4_lastOfBroken_47 : decode cX4_lastOfBroken 47 = .ok (.if_icmp .ge 54, 3) := by decide +kernel
theorem dX4_lastOfBroken_50 : decode cX4_lastOfBroken 50 = .ok (.aload_n 1, 1) := by decide +kernel
theorem dX4_lastOfBroken_51 : decode cX4_lastOfBroken 51 = .ok (.iload_n 3, 1) := by decide +kernel
theorem dX4_lastOfBroken_52 : decode cX4_lastOfBroken 52 = .ok (.iload 4, 2) := by decide +kernel
theorem dX4_lastOfBroken_54 : decode cX4_lastOfBroken 54 = .ok (.iload 7, 2) := by decide +kernel
theorem dX4_lastOfBroken_56 : decode cX4_lastOfBroken 56 = .ok (.invokevirtual 42, 3) := by decide +kernel
theorem dX4_lastOfBroken_59 : decode cX4_lastOfBroken 59 = .ok (.istore 8, 2) := by decide +kernel
theorem dX4_lastOfBroken_61 : decode cX4_lastOfBroken 61 = .ok (.iload 5, 2) := by decide +kernel
theorem dX4_lastOfBroken_63 : decode cX4_lastOfBroken 63 = .ok (.iload 8, 2) := by decide +kernel
theorem dX4_lastOfBroken_65 : decode cX4_lastOfBroken 65 = .ok (.aload_n 0, 1) := by decide +kernel
theorem dX4_lastOfBroken_66 : decode cX4_lastOfBroken 66 = .ok (.getfield 9, 3) := by decide +kernel
theorem dX4_lastOfBroken_69 : decode cX4_lastOfBroken 69 = .ok (.iload 7, 2) := by decide +kernel
theorem dX4_lastOfBroken_71 : decode cX4_lastOfBroken 71 = .ok (.iaload, 1) := by decide +kernel
theorem dX4_lastOfBroken_72 : decode cX4_lastOfBroken 72 = .ok (.imul, 1) := by decide +kernel
theorem dX4_lastOfBroken_73 : decode cX4_lastOfBroken 73 = .ok (.isub, 1) := by decide +kernel
theorem dX4_lastOfBroken_74 : decode cX4_lastOfBroken 74 = .ok (.istore 5, 2) := by decide +kernel
theorem dX4_lastOfBroken_76 : decode cX4_lastOfBroken 76 = .ok (.iload 8, 2) := by decide +kernel
theorem dX4_lastOfBroken_78 : decode cX4_lastOfBroken 78 = .ok (.ifCond .le 13, 3) := by decide +kernel
theorem dX4_lastOfBroken_81 : decode cX4_lastOfBroken 81 = .ok (.iload 6, 2) := by decide +kernel
theorem dX4_lastOfBroken_83 : decode cX4_lastOfBroken 83 = .ok (.iload 7, 2) := by decide +kernel
theorem dX4_lastOfBroken_85 : decode cX4_lastOfBroken 85 = .ok (.invokestatic 46, 3) := by decide +kernel
theorem dX4_lastOfBroken_88 : decode cX4_lastOfBroken 88 = .ok (.goto 5, 3) := by decide +kernel
theorem dX4_lastOfBroken_91 : decode cX4_lastOfBroken 91 = .ok (.iload 6, 2) := by decide +kernel
theorem dX4_lastOfBroken_93 : decode cX4_lastOfBroken 93 = .ok (.istore 6, 2) := by decide +kernel
theorem dX4_lastOfBroken_95 : decode cX4_lastOfBroken 95 = .ok (.iinc 7 1, 3) := by decide +kernel
theorem dX4_lastOfBroken_98 : decode cX4_lastOfBroken 98 = .ok (.goto (-57), 3) := by decide +kernel
theorem dX4_lastOfBroken_101 : decode cX4_lastOfBroken 101 = .ok (.iload_n 2, 1) := by decide +kernel
theorem dX4_lastOfBroken_102 : decode cX4_lastOfBroken 102 = .ok (.ifCond .le 13, 3) := by decide +kernel
theorem dX4_lastOfBroken_105 : decode cX4_lastOfBroken 105 = .ok (.iload 5, 2) := by decide +kernel
theorem dX4_lastOfBroken_107 : decode cX4_lastOfBroken 107 = .ok (.iload_n 2, 1) := by decide +kernel
theorem dX4_lastOfBroken_108 : decode cX4_lastOfBroken 108 = .ok (.irem, 1) := by decide +kernel
theorem dX4_lastOfBroken_109 : decode cX4_lastOfBroken 109 = .ok (.ifCond .eq 6, 3) := by decide +kernel
theorem dX4_lastOfBroken_112 : decode cX4_lastOfBroken 112 = .ok (.iload 6, 2) := by decide +kernel
theorem dX4_lastOfBroken_114 : decode cX4_lastOfBroken 114 = .ok (.ireturn, 1) := by decide +kernel
theorem dX4_lastOfBroken_115 : decode cX4_lastOfBroken 115 = .ok (.iinc 4 1, 3) := by decide +kernel
theorem dX4_lastOfBroken_118 : decode cX4_lastOfBroken 118 = .ok (.goto (-105), 3) := by decide +kernel
theorem dX4_lastOfBroken_121 : decode cX4_lastOfBroken 121 = .ok (.iinc 3 1, 3) := by decide +kernel
theorem dX4_lastOfBroken_124 : decode cX4_lastOfBroken 124 = .ok (.goto (-122), 3) := by decide +kernel
theorem dX4_lastOfBroken_127 : decode cX4_lastOfBroken 127 = .ok (.iconst (-1), 1) := by decide +kernel
theorem dX4_lastOfBroken_128 : decode cX4_lastOfBroken 128 = .ok (.ireturn, 1) := by decide +kernel
theorem dX4_nextRow_0 : decode cX4_nextRow 0 = .ok (.iload_n 1, 1) := by decide +kernel
theorem dX4_nextRow_1 : decode cX4_nextRow 1 = .ok (.iconst 1, 1) := by decide +kernel
theorem dX4_nextRow_2 : decode cX4_nextRow 2 = .ok (.isub, 1) := by decide +kernel
theorem dX4_nextRow_3 : decode cX4_nextRow 3 = .ok (.istore 4, 2) := by decide +kernel
theorem dX4_nextRow_5 : decode cX4_nextRow 5 = .ok (.iload 4, 2) := by decide +kernel
theorem dX4_nextRow_7 : decode cX4_nextRow 7 = .ok (.iconst 1, 1) := by decide +kernel
theorem dX4_nextRow_8 : decode cX4_nextRow 8 = .ok (.if_icmp .lt 49, 3) := by decide +kernel
theorem dX4_nextRow_11 : decode cX4_nextRow 11 = .ok (.iload 4, 2) := by decide +kernel
theorem dX4_nextRow_13 : decode cX4_nextRow 13 = .ok (.iload_n 3, 1) := by decide +kernel
theorem dX4_nextRow_14 : decode cX4_nextRow 14 = .ok (.if_icmp .gt 29, 3) := by decide +kernel
theorem dX4_nextRow_17 : decode cX4_nextRow 17 = .ok (.aload_n 0, 1) := by decide +kernel
theorem dX4_nextRow_18 : decode cX4_nextRow 18 = .ok (.getfield 9, 3) := by decide +kernel
theorem dX4_nextRow_21 : decode cX4_nextRow 21 = .ok (.iload 4, 2) := by decide +kernel
theorem dX4_nextRow_23 : decode cX4_nextRow 23 = .ok (.iaload, 1) := by decide +kernel
theorem dX4_nextRow_24 : decode cX4_nextRow 24 = .ok (.iload_n 2, 1) := by decide +kernel
theorem dX4_nextRow_25 : decode cX4_nextRow 25 = .ok (.iconst 1, 1) := by decide +kernel
theorem dX4_nextRow_26 : decode cX4_nextRow 26 = .ok (.isub, 1) := by decide +kernel
theorem dX4_nextRow_27 : decode cX4_nextRow 27 = .ok (.if_icmp .ge 16, 3) := by decide +kernel
theorem dX4_nextRow_30 : decode cX4_nextRow 30 = .ok (.aload_n 0, 1) := by decide +kernel
theorem dX4_nextRow_31 : decode cX4_nextRow 31 = .ok (.getfield 9, 3) := by decide +kernel
theorem dX4_nextRow_34 : decode cX4_nextRow 34 = .ok (.iload 4, 2) := by decide +kernel
theorem dX4_nextRow_36 : decode cX4_nextRow 36 = .ok (.dup2, 1) := by decide +kernel
theorem dX4_nextRow_37 : decode cX4_nextRow 37 = .ok (.iaload, 1) := by decide +kernel
theorem dX4_nextRow_38 : decode cX4_nextRow 38 = .ok (.iconst 1, 1) := by decide +kernel
theorem dX4_nextRow_39 : decode cX4_nextRow 39 = .ok (.iadd, 1) := by decide +kernel
theorem dX4_nextRow_40 : decode cX4_nextRow 40 = .ok (.iastore, 1) := by decide +kernel
theorem dX4_nextRow_41 : decode cX4_nextRow 41 = .ok (.iconst 1, 1) := by decide +kernel
theorem dX4_nextRow_42 : decode cX4_nextRow 42 = .ok (.ireturn, 1) := by decide +kernel
theorem dX4_nextRow_43 : decode cX4_nextRow 43 = .ok (.aload_n 0, 1) := by decide +kernel
theorem dX4_nextRow_44 : decode cX4_nextRow 44 = .ok (.getfield 9, 3) := by decide +kernel
theorem dX4_nextRow_47 : decode cX4_nextRow 47 = .ok (.iload 4, 2) := by decide +kernel
theorem dX4_nextRow_49 : decode cX4_nextRow 49 = .ok (.iconst 0, 1) := by decide +kernel
theorem dX4_nextRow_50 : decode cX4_nextRow 50 = .ok (.iastore, 1) := by decide +kernel
theorem dX4_nextRow_51 : decode cX4_nextRow 51 = .ok (.iinc 4 (-1), 3) := by decide +kernel
theorem dX4_nextRow_54 : decode cX4_nextRow 54 = .ok (.goto (-49), 3) := by decide +kernel
theorem dX4_nextRow_57 : decode cX4_nextRow 57 = .ok (.iconst 0, 1) := by decide +kernel
theorem dX4_nextRow_58 : decode cX4_nextRow 58 = .ok (.ireturn, 1) := by decide +kernel
theorem dX5_holds_0 : decode cX5_holds 0 = .ok (.iload_n 0, 1) := by decide +kernel
theorem dX5_holds_1 : decode cX5_holds 1 = .ok (.iload_n 1, 1) := by decide +kernel
theorem dX5_holds_2 : decode cX5_holds 2 = .ok (.ishr, 1) := by decide +kernel
theorem dX5_holds_3 : decode cX5_holds 3 = .ok (.iconst 1, 1) := by decide +kernel
theorem dX5_holds_4 : decode cX5_holds 4 = .ok (.iand, 1) := by decide +kernel
theorem dX5_holds_5 : decode cX5_holds 5 = .ok (.ifCond .eq 7, 3) := by decide +kernel
theorem dX5_holds_8 : decode cX5_holds 8 = .ok (.iconst 1, 1) := by decide +kernel
theorem dX5_holds_9 : decode cX5_holds 9 = .ok (.goto 4, 3) := by decide +kernel
theorem dX5_holds_12 : decode cX5_holds 12 = .ok (.iconst 0, 1) := by decide +kernel
theorem dX5_holds_13 : decode cX5_holds 13 = .ok (.ireturn, 1) := by decide +kernel
set_option maxRecDepth 20000 in
theorem ggX5_firstOf_X5_holds : GoodIn wsX5_firstOf wsX5_holds := goodIn_r _ [4] (by decide +kernel) (by decide +kernel)
set_option maxRecDepth 20000 in
theorem gX5_firstOf_X5_holds : GoodIn wsX5_firstOf (va_wsS RX5 9 yX5_holds wsX5_holds) := goodIn_app (goodIn_of _ (by decide +kernel)) ggX5_firstOf_X5_holds
theorem dX5_firstOf_0 : decode cX5_firstOf 0 = .ok (.iconst 0, 1) := by decide +kernel
theorem dX5_firstOf_1 : decode cX5_firstOf 1 = .ok (.istore_n 1, 1) := by decide +kernel
theorem dX5_firstOf_2 : decode cX5_firstOf 2 = .ok (.iload_n 1, 1) := by decide +kernel
theorem dX5_firstOf_3 : decode cX5_firstOf 3 = .ok (.iconst 5, 1) := by decide +kernel
theorem dX5_firstOf_4 : decode cX5_firstOf 4 = .ok (.if_icmp .ge 19, 3) := by decide +kernel
theorem dX5_firstOf_7 : decode cX5_firstOf 7 = .ok (.iload_n 0, 1) := by decide +kernel
theorem dX5_firstOf_8 : decode cX5_firstOf 8 = .ok (.iload_n 1, 1) := by decide +kernel
theorem dX5_firstOf_9 : decode cX5_firstOf 9 = .ok (.invokestatic 9, 3) := by decide +kernel
theorem dX5_firstOf_12 : decode cX5_firstOf 12 = .ok (.ifCond .eq 5, 3) := by decide +kernel
theorem dX5_firstOf_15 : decode cX5_firstOf 15 = .ok (.iload_n 1, 1) := by decide +kernel
theorem dX5_firstOf_16 : decode cX5_firstOf 16 = .ok (.ireturn, 1) := by decide +kernel
theorem dX5_firstOf_17 : decode cX5_firstOf 17 = .ok (.iinc 1 1, 3) := by decide +kernel
theorem dX5_firstOf_20 : decode cX5_firstOf 20 = .ok (.goto (-18), 3) := by decide +kernel
theorem dX5_firstOf_23 : decode cX5_firstOf 23 = .ok (.iconst (-1), 1) := by decide +kernel
theorem dX5_firstOf_24 : decode cX5_firstOf 24 = .ok (.ireturn, 1) := by decide +kernel
set_option maxRecDepth 20000 in
theorem ggX5_fusedWithAny_X5_holds : GoodIn wsX5_fusedWithAny wsX5_holds := goodIn_r _ [5] (by decide +kernel) (by decide +kernel)
set_option maxRecDepth 20000 in
theorem gX5_fusedWithAny_X5_holds : GoodIn wsX5_fusedWithAny (va_wsS RX5 9 yX5_holds wsX5_holds) := goodIn_app (goodIn_of _ (by decide +kernel)) ggX5_fusedWithAny_X5_holds
set_option maxRecDepth 20000 in
theorem ggX5_fusedWithAny_X7_number : GoodIn wsX5_fusedWithAny wsX7_number := goodIn_r _ [10, 11, 12, 13, 9, 14, 15, 16] (by decide +kernel) (by decide +kernel)
set_option maxRecDepth 20000 in
theorem gX5_fusedWithAny_X7_number : GoodIn wsX5_fusedWithAny (wsV RX5 21 RX7 yX7_number wsX7_number) := goodIn_app (goodIn_of _ (by decide +kernel)) ggX5_fusedWithAny_X7_number
theorem dX5_fusedWithAny_0 : decode cX5_fusedWithAny 0 = .ok (.iconst 0, 1) := by decide +kernel
theorem dX5_fusedWithAny_1 : decode cX5_fusedWithAny 1 = .ok (.istore_n 3, 1) := by decide +kernel
theorem dX5_fusedWithAny_2 : decode cX5_fusedWithAny 2 = .ok (.iconst 0, 1) := by decide +kernel
theorem dX5_fusedWithAny_3 : decode cX5_fusedWithAny 3 = .ok (.istore 4, 2) := by decide +kernel
theorem dX5_fusedWithAny_5 : decode cX5_fusedWithAny 5 = .ok (.iload 4, 2) := by decide +kernel
theorem dX5_fusedWithAny_7 : decode cX5_fusedWithAny 7 = .ok (.aload_n 0, 1) := by decide +kernel
theorem dX5_fusedWithAny_8 : decode cX5_fusedWithAny 8 = .ok (.getfield 15, 3) := by decide +kernel
theorem dX5_fusedWithAny_11 : decode cX5_fusedWithAny 11 = .ok (.if_icmp .ge 55, 3) := by decide +kernel
theorem dX5_fusedWithAny_14 : decode cX5_fusedWithAny 14 = .ok (.iconst 0, 1) := by decide +kernel
theorem dX5_fusedWithAny_15 : decode cX5_fusedWithAny 15 = .ok (.istore 5, 2) := by decide +kernel
theorem dX5_fusedWithAny_17 : decode cX5_fusedWithAny 17 = .ok (.iload 5, 2) := by decide +kernel
theorem dX5_fusedWithAny_19 : decode cX5_fusedWithAny 19 = .ok (.aload_n 0, 1) := by decide +kernel
theorem dX5_fusedWithAny_20 : decode cX5_fusedWithAny 20 = .ok (.getfield 15, 3) := by decide +kernel
theorem dX5_fusedWithAny_23 : decode cX5_fusedWithAny 23 = .ok (.if_icmp .ge 37, 3) := by decide +kernel
theorem dX5_fusedWithAny_26 : decode cX5_fusedWithAny 26 = .ok (.iload_n 2, 1) := by decide +kernel
theorem dX5_fusedWithAny_27 : decode cX5_fusedWithAny 27 = .ok (.iload 4, 2) := by decide +kernel
theorem dX5_fusedWithAny_29 : decode cX5_fusedWithAny 29 = .ok (.invokestatic 9, 3) := by decide +kernel
theorem dX5_fusedWithAny_32 : decode cX5_fusedWithAny 32 = .ok (.ifCond .eq 22, 3) := by decide +kernel
theorem dX5_fusedWithAny_35 : decode cX5_fusedWithAny 35 = .ok (.aload_n 0, 1) := by decide +kernel
theorem dX5_fusedWithAny_36 : decode cX5_fusedWithAny 36 = .ok (.iload_n 1, 1) := by decide +kernel
theorem dX5_fusedWithAny_37 : decode cX5_fusedWithAny 37 = .ok (.iload 4, 2) := by decide +kernel
theorem dX5_fusedWithAny_39 : decode cX5_fusedWithAny 39 = .ok (.iload 5, 2) := by decide +kernel
theorem dX5_fusedWithAny_41 : decode cX5_fusedWithAny 41 = .ok (.invokevirtual 21, 3) := by decide +kernel
theorem dX5_fusedWithAny_44 : decode cX5_fusedWithAny 44 = .ok (.ifCond .le 10, 3) := by decide +kernel
theorem dX5_fusedWithAny_47 : decode cX5_fusedWithAny 47 = .ok (.iload_n 3, 1) := by decide +kernel
theorem dX5_fusedWithAny_48 : decode cX5_fusedWithAny 48 = .ok (.iconst 1, 1) := by decide +kernel
theorem dX5_fusedWithAny_49 : decode cX5_fusedWithAny 49 = .ok (.iload 5, 2) := by decide +kernel
theorem dX5_fusedWithAny_51 : decode cX5_fusedWithAny 51 = .ok (.ishl, 1) := by decide +kernel
theorem dX5_fusedWithAny_52 : decode cX5_fusedWithAny 52 = .ok (.ior, 1) := by decide +kernel
theorem dX5_fusedWithAny_53 : decode cX5_fusedWithAny 53 = .ok (.istore_n 3, 1) := by decide +kernel
theorem dX5_fusedWithAny_54 : decode cX5_fusedWithAny 54 = .ok (.iinc 5 1, 3) := by decide +kernel
theorem dX5_fusedWithAny_57 : decode cX5_fusedWithAny 57 = .ok (.goto (-40), 3) := by decide +kernel
theorem dX5_fusedWithAny_60 : decode cX5_fusedWithAny 60 = .ok (.iinc 4 1, 3) := by decide +kernel
theorem dX5_fusedWithAny_63 : decode cX5_fusedWithAny 63 = .ok (.goto (-58), 3) := by decide +kernel
theorem dX5_fusedWithAny_66 : decode cX5_fusedWithAny 66 = .ok (.iload_n 3, 1) := by decide +kernel
theorem dX5_fusedWithAny_67 : decode cX5_fusedWithAny 67 = .ok (.ireturn, 1) := by decide +kernel
set_option maxRecDepth 20000 in
theorem ggX5_closure_X5_grow : GoodIn wsX5_closure wsX5_grow := goodIn_r _ [5, 1, 6, 7, 4, 8, 9, 10, 11, 12, 13, 14, 15, 16, 17, 18, 19, 20, 21, 22] (by decide +kernel) (by decide +kernel)
set_option maxRecDepth 20000 in
theorem gX5_closure_X5_grow : GoodIn wsX5_closure (va_wsS RX5 25 yX5_grow wsX5_grow) := goodIn_app (goodIn_of _ (by decide +kernel)) ggX5_closure_X5_grow
theorem dX5_closure_0 : decode cX5_closure 0 = .ok (.iload_n 2, 1) := by decide +kernel
theorem dX5_closure_1 : decode cX5_closure 1 = .ok (.iconst 1, 1) := by decide +kernel
theorem dX5_closure_2 : decode cX5_closure 2 = .ok (.ior, 1) := by decide +kernel
theorem dX5_closure_3 : decode cX5_closure 3 = .ok (.istore_n 3, 1) := by decide +kernel
theorem dX5_closure_4 : decode cX5_closure 4 = .ok (.iconst 0, 1) := by decide +kernel
theorem dX5_closure_5 : decode cX5_closure 5 = .ok (.istore 4, 2) := by decide +kernel
theorem dX5_closure_7 : decode cX5_closure 7 = .ok (.iload 4, 2) := by decide +kernel
theorem dX5_closure_9 : decode cX5_closure 9 = .ok (.aload_n 0, 1) := by decide +kernel
theorem dX5_closure_10 : decode cX5_closure 10 = .ok (.getfield 15, 3) := by decide +kernel
theorem dX5_closure_13 : decode cX5_closure 13 = .ok (.if_icmp .ge 16, 3) := by decide +kernel
theorem dX5_closure_16 : decode cX5_closure 16 = .ok (.aload_n 0, 1) := by decide +kernel
theorem dX5_closure_17 : decode cX5_closure 17 = .ok (.aload_n 1, 1) := by decide +kernel
theorem dX5_closure_18 : decode cX5_closure 18 = .ok (.iload_n 3, 1) := by decide +kernel
theorem dX5_closure_19 : decode cX5_closure 19 = .ok (.invokestatic 25, 3) := by decide +kernel
theorem dX5_closure_22 : decode cX5_closure 22 = .ok (.istore_n 3, 1) := by decide +kernel
theorem dX5_closure_23 : decode cX5_closure 23 = .ok (.iinc 4 1, 3) := by decide +kernel
theorem dX5_closure_26 : decode cX5_closure 26 = .ok (.goto (-19), 3) := by decide +kernel
theorem dX5_closure_29 : decode cX5_closure 29 = .ok (.iload_n 3, 1) := by decide +kernel
theorem dX5_closure_30 : decode cX5_closure 30 = .ok (.ireturn, 1) := by decide +kernel
set_option maxRecDepth 20000 in
theorem ggX5_grow_X5_holds : GoodIn wsX5_grow wsX5_holds := goodIn_r _ [5] (by decide +kernel) (by decide +kernel)
set_option maxRecDepth 20000 in
theorem gX5_grow_X5_holds : GoodIn wsX5_grow (va_wsS RX5 9 yX5_holds wsX5_holds) := goodIn_app (goodIn_of _ (by decide +kernel)) ggX5_grow_X5_holds
set_option maxRecDepth 20000 in
theorem ggX5_grow_X5_fusedWithAny : GoodIn wsX5_grow wsX5_fusedWithAny := goodIn_r _ [8, 1, 2, 3, 4, 5, 9, 10, 11, 12, 13, 14, 15, 16, 17, 18, 19] (by decide +kernel) (by decide +kernel)
set_option maxRecDepth 20000 in
theorem gX5_grow_X5_fusedWithAny : GoodIn wsX5_grow (va_wsS RX5 29 yX5_fusedWithAny wsX5_fusedWithAny) := goodIn_app (goodIn_of _ (by decide +kernel)) ggX5_grow_X5_fusedWithAny
theorem dX5_grow_0 : decode cX5_grow 0 = .ok (.iload_n 2, 1) := by decide +kernel
theorem dX5_grow_1 : decode cX5_grow 1 = .ok (.istore_n 3, 1) := by decide +kernel
theorem dX5_grow_2 : decode cX5_grow 2 = .ok (.iconst 0, 1) := by decide +kernel
theorem dX5_grow_3 : decode cX5_grow 3 = .ok (.istore 4, 2) := by decide +kernel
theorem dX5_grow_5 : decode cX5_grow 5 = .ok (.iload 4, 2) := by decide +kernel
theorem dX5_grow_7 : decode cX5_grow 7 = .ok (.aload_n 0, 1) := by decide +kernel
theorem dX5_grow_8 : decode cX5_grow 8 = .ok (.getfield 15, 3) := by decide +kernel
theorem dX5_grow_11 : decode cX5_grow 11 = .ok (.if_icmp .ge 35, 3) := by decide +kernel
theorem dX5_grow_14 : decode cX5_grow 14 = .ok (.iload_n 2, 1) := by decide +kernel
theorem dX5_grow_15 : decode cX5_grow 15 = .ok (.iload 4, 2) := by decide +kernel
theorem dX5_grow_17 : decode cX5_grow 17 = .ok (.invokestatic 9, 3) := by decide +kernel
theorem dX5_grow_20 : decode cX5_grow 20 = .ok (.ifCond .eq 20, 3) := by decide +kernel
theorem dX5_grow_23 : decode cX5_grow 23 = .ok (.iload_n 3, 1) := by decide +kernel
theorem dX5_grow_24 : decode cX5_grow 24 = .ok (.iconst 1, 1) := by decide +kernel
theorem dX5_grow_25 : decode cX5_grow 25 = .ok (.aload_n 1, 1) := by decide +kernel
theorem dX5_grow_26 : decode cX5_grow 26 = .ok (.iload 4, 2) := by decide +kernel
theorem dX5_grow_28 : decode cX5_grow 28 = .ok (.iaload, 1) := by decide +kernel
theorem dX5_grow_29 : decode cX5_grow 29 = .ok (.ishl, 1) := by decide +kernel
theorem dX5_grow_30 : decode cX5_grow 30 = .ok (.aload_n 0, 1) := by decide +kernel
theorem dX5_grow_31 : decode cX5_grow 31 = .ok (.iload 4, 2) := by decide +kernel
theorem dX5_grow_33 : decode cX5_grow 33 = .ok (.iload_n 2, 1) := by decide +kernel
theorem dX5_grow_34 : decode cX5_grow 34 = .ok (.invokestatic 29, 3) := by decide +kernel
theorem dX5_grow_37 : decode cX5_grow 37 = .ok (.ior, 1) := by decide +kernel
theorem dX5_grow_38 : decode cX5_grow 38 = .ok (.ior, 1) := by decide +kernel
theorem dX5_grow_39 : decode cX5_grow 39 = .ok (.istore_n 3, 1) := by decide +kernel
theorem dX5_grow_40 : decode cX5_grow 40 = .ok (.iinc 4 1, 3) := by decide +kernel
theorem dX5_grow_43 : decode cX5_grow 43 = .ok (.goto (-38), 3) := by decide +kernel
theorem dX5_grow_46 : decode cX5_grow 46 = .ok (.iload_n 3, 1) := by decide +kernel
theorem dX5_grow_47 : decode cX5_grow 47 = .ok (.ireturn, 1) := by decide +kernel
set_option maxRecDepth 20000 in
theorem ggX5_innermost_X5_fusedWithAny : GoodIn wsX5_innermost wsX5_fusedWithAny := goodIn_r _ [5, 1, 6, 7, 4, 8, 9, 10, 11, 12, 13, 14, 15, 16, 17, 24, 25] (by decide +kernel) (by decide +kernel)
set_option maxRecDepth 20000 in
theorem gX5_innermost_X5_fusedWithAny : GoodIn wsX5_innermost (va_wsS RX5 29 yX5_fusedWithAny wsX5_fusedWithAny) := goodIn_app (goodIn_of _ (by decide +kernel)) ggX5_innermost_X5_fusedWithAny
set_option maxRecDepth 20000 in
theorem ggX5_innermost_X5_closure : GoodIn wsX5_innermost wsX5_closure := goodIn_r _ [20, 1, 21, 22, 4, 23, 6, 7, 8, 2, 3, 5, 9, 10, 11, 12, 13, 14, 15, 16, 17, 24, 25] (by decide +kernel) (by decide +kernel)
set_option maxRecDepth 20000 in
theorem gX5_innermost_X5_closure : GoodIn wsX5_innermost (va_wsS RX5 33 yX5_closure wsX5_closure) := goodIn_app (goodIn_of _ (by decide +kernel)) ggX5_innermost_X5_closure
theorem dX5_innermost_0 : decode cX5_innermost 0 = .ok (.iconst 0, 1) := by decide +kernel
theorem dX5_innermost_1 : decode cX5_innermost 1 = .ok (.istore_n 2, 1) := by decide +kernel
theorem dX5_innermost_2 : decode cX5_innermost 2 = .ok (.iconst 0, 1) := by decide +kernel
theorem dX5_innermost_3 : decode cX5_innermost 3 = .ok (.istore_n 3, 1) := by decide +kernel
theorem dX5_innermost_4 : decode cX5_innermost 4 = .ok (.iload_n 3, 1) := by decide +kernel
theorem dX5_innermost_5 : decode cX5_innermost 5 = .ok (.aload_n 0, 1) := by decide +kernel
theorem dX5_innermost_6 : decode cX5_innermost 6 = .ok (.getfield 15, 3) := by decide +kernel
theorem dX5_innermost_9 : decode cX5_innermost 9 = .ok (.if_icmp .ge 22, 3) := by decide +kernel
theorem dX5_innermost_12 : decode cX5_innermost 12 = .ok (.iload_n 2, 1) := by decide +kernel
theorem dX5_innermost_13 : decode cX5_innermost 13 = .ok (.aload_n 0, 1) := by decide +kernel
theorem dX5_innermost_14 : decode cX5_innermost 14 = .ok (.iload_n 3, 1) := by decide +kernel
theorem dX5_innermost_15 : decode cX5_innermost 15 = .ok (.iconst 1, 1) := by decide +kernel
theorem dX5_innermost_16 : decode cX5_innermost 16 = .ok (.aload_n 1, 1) := by decide +kernel
theorem dX5_innermost_17 : decode cX5_innermost 17 = .ok (.iload_n 3, 1) := by decide +kernel
theorem dX5_innermost_18 : decode cX5_innermost 18 = .ok (.iaload, 1) := by decide +kernel
theorem dX5_innermost_19 : decode cX5_innermost 19 = .ok (.ishl, 1) := by decide +kernel
theorem dX5_innermost_20 : decode cX5_innermost 20 = .ok (.invokestatic 29, 3) := by decide +kernel
theorem dX5_innermost_23 : decode cX5_innermost 23 = .ok (.ior, 1) := by decide +kernel
theorem dX5_innermost_24 : decode cX5_innermost 24 = .ok (.istore_n 2, 1) := by decide +kernel
theorem dX5_innermost_25 : decode cX5_innermost 25 = .ok (.iinc 3 1, 3) := by decide +kernel
theorem dX5_innermost_28 : decode cX5_innermost 28 = .ok (.goto (-24), 3) := by decide +kernel
theorem dX5_innermost_31 : decode cX5_innermost 31 = .ok (.aload_n 0, 1) := by decide +kernel
theorem dX5_innermost_32 : decode cX5_innermost 32 = .ok (.aload_n 1, 1) := by decide +kernel
theorem dX5_innermost_33 : decode cX5_innermost 33 = .ok (.iload_n 2, 1) := by decide +kernel
theorem dX5_innermost_34 : decode cX5_innermost 34 = .ok (.invokestatic 33, 3) := by decide +kernel
theorem dX5_innermost_37 : decode cX5_innermost 37 = .ok (.ireturn, 1) := by decide +kernel
set_option maxRecDepth 20000 in
theorem ggX5_countClosed_X5_grow : GoodIn wsX5_countClosed wsX5_grow := goodIn_r _ [5, 1, 6, 7, 4, 8, 9, 10, 11, 12, 13, 14, 15, 16, 17, 18, 19, 20, 21, 22] (by decide +kernel) (by decide +kernel)
set_option maxRecDepth 20000 in
theorem gX5_countClosed_X5_grow : GoodIn wsX5_countClosed (va_wsS RX5 25 yX5_grow wsX5_grow) := goodIn_app (goodIn_of _ (by decide +kernel)) ggX5_countClosed_X5_grow
theorem dX5_countClosed_0 : decode cX5_countClosed 0 = .ok (.iconst 0, 1) := by decide +kernel
theorem dX5_countClosed_1 : decode cX5_countClosed 1 = .ok (.istore_n 2, 1) := by decide +kernel
theorem dX5_countClosed_2 : decode cX5_countClosed 2 = .ok (.iconst 1, 1) := by decide +kernel
theorem dX5_countClosed_3 : decode cX5_countClosed 3 = .ok (.istore_n 3, 1) := by decide +kernel
theorem dX5_countClosed_4 : decode cX5_countClosed 4 = .ok (.iload_n 3, 1) := by decide +kernel
theorem dX5_countClosed_5 : decode cX5_countClosed 5 = .ok (.iconst 1, 1) := by decide +kernel
theorem dX5_countClosed_6 : decode cX5_countClosed 6 = .ok (.aload_n 0, 1) := by decide +kernel
theorem dX5_countClosed_7 : decode cX5_countClosed 7 = .ok (.getfield 15, 3) := by decide +kernel
theorem dX5_countClosed_10 : decode cX5_countClosed 10 = .ok (.ishl, 1) := by decide +kernel
theorem dX5_countClosed_11 : decode cX5_countClosed 11 = .ok (.if_icmp .ge 28, 3) := by decide +kernel
theorem dX5_countClosed_14 : decode cX5_countClosed 14 = .ok (.iload_n 3, 1) := by decide +kernel
theorem dX5_countClosed_15 : decode cX5_countClosed 15 = .ok (.iconst 1, 1) := by decide +kernel
theorem dX5_countClosed_16 : decode cX5_countClosed 16 = .ok (.iand, 1) := by decide +kernel
theorem dX5_countClosed_17 : decode cX5_countClosed 17 = .ok (.ifCond .eq 16, 3) := by decide +kernel
theorem dX5_countClosed_20 : decode cX5_countClosed 20 = .ok (.aload_n 0, 1) := by decide +kernel
theorem dX5_countClosed_21 : decode cX5_countClosed 21 = .ok (.aload_n 1, 1) := by decide +kernel
theorem dX5_countClosed_22 : decode cX5_countClosed 22 = .ok (.iload_n 3, 1) := by decide +kernel
theorem dX5_countClosed_23 : decode cX5_countClosed 23 = .ok (.invokestatic 25, 3) := by decide +kernel
theorem dX5_countClosed_26 : decode cX5_countClosed 26 = .ok (.iload_n 3, 1) := by decide +kernel
theorem dX5_countClosed_27 : decode cX5_countClosed 27 = .ok (.if_icmp .ne 6, 3) := by decide +kernel
theorem dX5_countClosed_30 : decode cX5_countClosed 30 = .ok (.iinc 2 1, 3) := by decide +kernel
theorem dX5_countClosed_33 : decode cX5_countClosed 33 = .ok (.iinc 3 1, 3) := by decide +kernel
theorem dX5_countClosed_36 : decode cX5_countClosed 36 = .ok (.goto (-32), 3) := by decide +kernel
theorem dX5_countClosed_39 : decode cX5_countClosed 39 = .ok (.iload_n 2, 1) := by decide +kernel
theorem dX5_countClosed_40 : decode cX5_countClosed 40 = .ok (.ireturn, 1) := by decide +kernel
theorem dX6_init_0 : decode cX6_init 0 = .ok (.aload_n 0, 1) := by decide +kernel
theorem dX6_init_1 : decode cX6_init 1 = .ok (.invokespecial 3, 3) := by decide +kernel
theorem dX6_init_4 : decode cX6_init 4 = .ok (.aload_n 0, 1) := by decide +kernel
theorem dX6_init_5 : decode cX6_init 5 = .ok (.iconst 5, 1) := by decide +kernel
theorem dX6_init_6 : decode cX6_init 6 = .ok (.newarray .long, 2) := by decide +kernel
theorem dX6_init_8 : decode cX6_init 8 = .ok (.putfield 9, 3) := by decide +kernel
theorem dX6_init_11 : decode cX6_init 11 = .ok (.aload_n 0, 1) := by decide +kernel
theorem dX6_init_12 : decode cX6_init 12 = .ok (.iconst 5, 1) := by decide +kernel
theorem dX6_init_13 : decode cX6_init 13 = .ok (.newarray .long, 2) := by decide +kernel
theorem dX6_init_15 : decode cX6_init 15 = .ok (.putfield 15, 3) := by decide +kernel
theorem dX6_init_18 : decode cX6_init 18 = .ok (.return_, 1) := by decide +kernel
set_option maxRecDepth 20000 in
theorem ggX6_begin_J7_fill_d0a16 : GoodIn wsX6_begin wsJ7_fill_d0a16 := goodIn_r _ [5] (by decide +kernel) (by decide +kernel)
set_option maxRecDepth 20000 in
theorem gX6_begin_J7_fill_d0a16 : GoodIn wsX6_begin (va_wsS RX6 18 yJ7_fill_d0a16 wsJ7_fill_d0a16) := goodIn_app (goodIn_of _ (by decide +kernel)) ggX6_begin_J7_fill_d0a16
theorem dX6_begin_0 : decode cX6_begin 0 = .ok (.aload_n 0, 1) := by decide +kernel
theorem dX6_begin_1 : decode cX6_begin 1 = .ok (.getfield 9, 3) := by decide +kernel
theorem dX6_begin_4 : decode cX6_begin 4 = .ok (.lconst 0, 1) := by decide +kernel
theorem dX6_begin_5 : decode cX6_begin 5 = .ok (.invokestatic 18, 3) := by decide +kernel
theorem dX6_begin_8 : decode cX6_begin 8 = .ok (.aload_n 0, 1) := by decide +kernel
theorem dX6_begin_9 : decode cX6_begin 9 = .ok (.getfield 9, 3) := by decide +kernel
theorem dX6_begin_12 : decode cX6_begin 12 = .ok (.iload_n 1, 1) := by decide +kernel
theorem dX6_begin_13 : decode cX6_begin 13 = .ok (.lconst 1, 1) := by decide +kernel
theorem dX6_begin_14 : decode cX6_begin 14 = .ok (.lastore, 1) := by decide +kernel
theorem dX6_begin_15 : decode cX6_begin 15 = .ok (.return_, 1) := by decide +kernel
set_option maxRecDepth 20000 in
theorem ggX6_fuseWith_X7_number : GoodIn wsX6_fuseWith wsX7_number := goodIn_r _ [12, 13, 14, 15, 11, 16, 17, 18] (by decide +kernel) (by decide +kernel)
set_option maxRecDepth 20000 in
theorem gX6_fuseWith_X7_number : GoodIn wsX6_fuseWith (wsV RX6 30 RX7 yX7_number wsX7_number) := goodIn_app (goodIn_of _ (by decide +kernel)) ggX6_fuseWith_X7_number
theorem dX6_fuseWith_0 : decode cX6_fuseWith 0 = .ok (.iconst 0, 1) := by decide +kernel
theorem dX6_fuseWith_1 : decode cX6_fuseWith 1 = .ok (.istore_n 3, 1) := by decide +kernel
theorem dX6_fuseWith_2 : decode cX6_fuseWith 2 = .ok (.iload_n 3, 1) := by decide +kernel
theorem dX6_fuseWith_3 : decode cX6_fuseWith 3 = .ok (.aload_n 1, 1) := by decide +kernel
theorem dX6_fuseWith_4 : decode cX6_fuseWith 4 = .ok (.getfield 24, 3) := by decide +kernel
theorem dX6_fuseWith_7 : decode cX6_fuseWith 7 = .ok (.if_icmp .ge 60, 3) := by decide +kernel
theorem dX6_fuseWith_10 : decode cX6_fuseWith 10 = .ok (.aload_n 0, 1) := by decide +kernel
theorem dX6_fuseWith_11 : decode cX6_fuseWith 11 = .ok (.getfield 15, 3) := by decide +kernel
theorem dX6_fuseWith_14 : decode cX6_fuseWith 14 = .ok (.iload_n 3, 1) := by decide +kernel
theorem dX6_fuseWith_15 : decode cX6_fuseWith 15 = .ok (.lconst 0, 1) := by decide +kernel
theorem dX6_fuseWith_16 : decode cX6_fuseWith 16 = .ok (.lastore, 1) := by decide +kernel
theorem dX6_fuseWith_17 : decode cX6_fuseWith 17 = .ok (.iconst 0, 1) := by decide +kernel
theorem dX6_fuseWith_18 : decode cX6_fuseWith 18 = .ok (.istore 4, 2) := by decide +kernel
theorem dX6_fuseWith_20 : decode cX6_fuseWith 20 = .ok (.iload 4, 2) := by decide +kernel
theorem dX6_fuseWith_22 : decode cX6_fuseWith 22 = .ok (.aload_n 1, 1) := by decide +kernel
theorem dX6_fuseWith_23 : decode cX6_fuseWith 23 = .ok (.getfield 24, 3) := by decide +kernel
theorem dX6_fuseWith_26 : decode cX6_fuseWith 26 = .ok (.if_icmp .ge 35, 3) := by decide +kernel
theorem dX6_fuseWith_29 : decode cX6_fuseWith 29 = .ok (.aload_n 0, 1) := by decide +kernel
theorem dX6_fuseWith_30 : decode cX6_fuseWith 30 = .ok (.getfield 15, 3) := by decide +kernel
theorem dX6_fuseWith_33 : decode cX6_fuseWith 33 = .ok (.iload_n 3, 1) := by decide +kernel
theorem dX6_fuseWith_34 : decode cX6_fuseWith 34 = .ok (.dup2, 1) := by decide +kernel
theorem dX6_fuseWith_35 : decode cX6_fuseWith 35 = .ok (.laload, 1) := by decide +kernel
theorem dX6_fuseWith_36 : decode cX6_fuseWith 36 = .ok (.aload_n 0, 1) := by decide +kernel
theorem dX6_fuseWith_37 : decode cX6_fuseWith 37 = .ok (.getfield 9, 3) := by decide +kernel
theorem dX6_fuseWith_40 : decode cX6_fuseWith 40 = .ok (.iload 4, 2) := by decide +kernel
theorem dX6_fuseWith_42 : decode cX6_fuseWith 42 = .ok (.laload, 1) := by decide +kernel
theorem dX6_fuseWith_43 : decode cX6_fuseWith 43 = .ok (.aload_n 1, 1) := by decide +kernel
theorem dX6_fuseWith_44 : decode cX6_fuseWith 44 = .ok (.iload 4, 2) := by decide +kernel
theorem dX6_fuseWith_46 : decode cX6_fuseWith 46 = .ok (.iload_n 2, 1) := by decide +kernel
theorem dX6_fuseWith_47 : decode cX6_fuseWith 47 = .ok (.iload_n 3, 1) := by decide +kernel
theorem dX6_fuseWith_48 : decode cX6_fuseWith 48 = .ok (.invokevirtual 30, 3) := by decide +kernel
theorem dX6_fuseWith_51 : decode cX6_fuseWith 51 = .ok (.i2l, 1) := by decide +kernel
theorem dX6_fuseWith_52 : decode cX6_fuseWith 52 = .ok (.lmul, 1) := by decide +kernel
theorem dX6_fuseWith_53 : decode cX6_fuseWith 53 = .ok (.ladd, 1) := by decide +kernel
theorem dX6_fuseWith_54 : decode cX6_fuseWith 54 = .ok (.lastore, 1) := by decide +kernel
theorem dX6_fuseWith_55 : decode cX6_fuseWith 55 = .ok (.iinc 4 1, 3) := by decide +kernel
theorem dX6_fuseWith_58 : decode cX6_fuseWith 58 = .ok (.goto (-38), 3) := by decide +kernel
theorem dX6_fuseWith_61 : decode cX6_fuseWith 61 = .ok (.iinc 3 1, 3) := by decide +kernel
theorem dX6_fuseWith_64 : decode cX6_fuseWith 64 = .ok (.goto (-62), 3) := by decide +kernel
theorem dX6_fuseWith_67 : decode cX6_fuseWith 67 = .ok (.aload_n 0, 1) := by decide +kernel
theorem dX6_fuseWith_68 : decode cX6_fuseWith 68 = .ok (.getfield 15, 3) := by decide +kernel
theorem dX6_fuseWith_71 : decode cX6_fuseWith 71 = .ok (.iconst 0, 1) := by decide +kernel
theorem dX6_fuseWith_72 : decode cX6_fuseWith 72 = .ok (.aload_n 0, 1) := by decide +kernel
theorem dX6_fuseWith_73 : decode cX6_fuseWith 73 = .ok (.getfield 9, 3) := by decide +kernel
theorem dX6_fuseWith_76 : decode cX6_fuseWith 76 = .ok (.iconst 0, 1) := by decide +kernel
theorem dX6_fuseWith_77 : decode cX6_fuseWith 77 = .ok (.aload_n 1, 1) := by decide +kernel
theorem dX6_fuseWith_78 : decode cX6_fuseWith 78 = .ok (.getfield 24, 3) := by decide +kernel
theorem dX6_fuseWith_81 : decode cX6_fuseWith 81 = .ok (.invokestatic 34, 3) := by decide +kernel
theorem dX6_fuseWith_84 : decode cX6_fuseWith 84 = .ok (.return_, 1) := by decide +kernel
set_option maxRecDepth 20000 in
theorem ggX7_init_X7_reset : GoodIn wsX7_init wsX7_reset := goodIn_r _ [10, 5, 11, 12, 13, 14, 15, 16, 17, 18, 9, 19, 20, 21, 22, 23, 24] (by decide +kernel) (by decide +kernel)
set_option maxRecDepth 20000 in
theorem gX7_init_X7_reset : GoodIn wsX7_init (wsV RX7 15 RX7 yX7_reset wsX7_reset) := goodIn_app (goodIn_of _ (by decide +kernel)) ggX7_init_X7_reset
theorem dX7_init_0 : decode cX7_init 0 = .ok (.aload_n 0, 1) := by decide +kernel
theorem dX7_init_1 : decode cX7_init 1 = .ok (.invokespecial 3, 3) := by decide +kernel
theorem dX7_init_4 : decode cX7_init 4 = .ok (.aload_n 0, 1) := by decide +kernel
theorem dX7_init_5 : decode cX7_init 5 = .ok (.bipush 125, 2) := by decide +kernel
theorem dX7_init_7 : decode cX7_init 7 = .ok (.newarray .int, 2) := by decide +kernel
theorem dX7_init_9 : decode cX7_init 9 = .ok (.putfield 11, 3) := by decide +kernel
theorem dX7_init_12 : decode cX7_init 12 = .ok (.aload_n 0, 1) := by decide +kernel
theorem dX7_init_13 : decode cX7_init 13 = .ok (.iconst 1, 1) := by decide +kernel
theorem dX7_init_14 : decode cX7_init 14 = .ok (.invokevirtual 15, 3) := by decide +kernel
theorem dX7_init_17 : decode cX7_init 17 = .ok (.return_, 1) := by decide +kernel
theorem dX7_placeOf_0 : decode cX7_placeOf 0 = .ok (.iload_n 0, 1) := by decide +kernel
theorem dX7_placeOf_1 : decode cX7_placeOf 1 = .ok (.iconst 5, 1) := by decide +kernel
theorem dX7_placeOf_2 : decode cX7_placeOf 2 = .ok (.imul, 1) := by decide +kernel
theorem dX7_placeOf_3 : decode cX7_placeOf 3 = .ok (.iload_n 1, 1) := by decide +kernel
theorem dX7_placeOf_4 : decode cX7_placeOf 4 = .ok (.iadd, 1) := by decide +kernel
theorem dX7_placeOf_5 : decode cX7_placeOf 5 = .ok (.iconst 5, 1) := by decide +kernel
theorem dX7_placeOf_6 : decode cX7_placeOf 6 = .ok (.imul, 1) := by decide +kernel
theorem dX7_placeOf_7 : decode cX7_placeOf 7 = .ok (.iload_n 2, 1) := by decide +kernel
theorem dX7_placeOf_8 : decode cX7_placeOf 8 = .ok (.iadd, 1) := by decide +kernel
theorem dX7_placeOf_9 : decode cX7_placeOf 9 = .ok (.ireturn, 1) := by decide +kernel
theorem dX7_has_0 : decode cX7_has 0 = .ok (.iload_n 1, 1) := by decide +kernel
theorem dX7_has_1 : decode cX7_has 1 = .ok (.ifCond .lt 15, 3) := by decide +kernel
theorem dX7_has_4 : decode cX7_has 4 = .ok (.iload_n 1, 1) := by decide +kernel
theorem dX7_has_5 : decode cX7_has 5 = .ok (.aload_n 0, 1) := by decide +kernel
theorem dX7_has_6 : decode cX7_has 6 = .ok (.getfield 19, 3) := by decide +kernel
theorem dX7_has_9 : decode cX7_has 9 = .ok (.if_icmp .ge 7, 3) := by decide +kernel
theorem dX7_has_12 : decode cX7_has 12 = .ok (.iconst 1, 1) := by decide +kernel
theorem dX7_has_13 : decode cX7_has 13 = .ok (.goto 4, 3) := by decide +kernel
theorem dX7_has_16 : decode cX7_has 16 = .ok (.iconst 0, 1) := by decide +kernel
theorem dX7_has_17 : decode cX7_has 17 = .ok (.ireturn, 1) := by decide +kernel
set_option maxRecDepth 20000 in
theorem ggX7_number_X7_placeOf : GoodIn wsX7_number wsX7_placeOf := goodIn_r _ [5] (by decide +kernel) (by decide +kernel)
set_option maxRecDepth 20000 in
theorem gX7_number_X7_placeOf : GoodIn wsX7_number (va_wsS RX7 23 yX7_placeOf wsX7_placeOf) := goodIn_app (goodIn_of _ (by decide +kernel)) ggX7_number_X7_placeOf
theorem dX7_number_0 : decode cX7_number 0 = .ok (.aload_n 0, 1) := by decide +kernel
theorem dX7_number_1 : decode cX7_number 1 = .ok (.getfield 11, 3) := by decide +kernel
theorem dX7_number_4 : decode cX7_number 4 = .ok (.iload_n 1, 1) := by decide +kernel
theorem dX7_number_5 : decode cX7_number 5 = .ok (.iload_n 2, 1) := by decide +kernel
theorem dX7_number_6 : decode cX7_number 6 = .ok (.iload_n 3, 1) := by decide +kernel
theorem dX7_number_7 : decode cX7_number 7 = .ok (.invokestatic 23, 3) := by decide +kernel
theorem dX7_number_10 : decode cX7_number 10 = .ok (.iaload, 1) := by decide +kernel
theorem dX7_number_11 : decode cX7_number 11 = .ok (.ireturn, 1) := by decide +kernel
set_option maxRecDepth 20000 in
theorem ggX7_setNumber_X7_placeOf : GoodIn wsX7_setNumber wsX7_placeOf := goodIn_r _ [5] (by decide +kernel) (by decide +kernel)
set_option maxRecDepth 20000 in
theorem gX7_setNumber_X7_placeOf : GoodIn wsX7_setNumber (va_wsS RX7 23 yX7_placeOf wsX7_placeOf) := goodIn_app (goodIn_of _ (by decide +kernel)) ggX7_setNumber_X7_placeOf
theorem dX7_setNumber_0 : decode cX7_setNumber 0 = .ok (.aload_n 0, 1) := by decide +kernel
theorem dX7_setNumber_1 : decode cX7_setNumber 1 = .ok (.getfield 11, 3) := by decide +kernel
theorem dX7_setNumber_4 : decode cX7_setNumber 4 = .ok (.iload_n 1, 1) := by decide +kernel
theorem dX7_setNumber_5 : decode cX7_setNumber 5 = .ok (.iload_n 2, 1) := by decide +kernel
theorem dX7_setNumber_6 : decode cX7_setNumber 6 = .ok (.iload_n 3, 1) := by decide +kernel
theorem dX7_setNumber_7 : decode cX7_setNumber 7 = .ok (.invokestatic 23, 3) := by decide +kernel
theorem dX7_setNumber_10 : decode cX7_setNumber 10 = .ok (.iload 4, 2) := by decide +kernel
theorem dX7_setNumber_12 : decode cX7_setNumber 12 = .ok (.iastore, 1) := by decide +kernel
theorem dX7_setNumber_13 : decode cX7_setNumber 13 = .ok (.return_, 1) := by decide +kernel
set_option maxRecDepth 20000 in
theorem ggX7_reset_J7_fill_53178 : GoodIn wsX7_reset wsJ7_fill_53178 := goodIn_r _ [6] (by decide +kernel) (by decide +kernel)
set_option maxRecDepth 20000 in
theorem gX7_reset_J7_fill_53178 : GoodIn wsX7_reset (va_wsS RX7 27 yJ7_fill_53178 wsJ7_fill_53178) := goodIn_app (goodIn_of _ (by decide +kernel)) ggX7_reset_J7_fill_53178
set_option maxRecDepth 20000 in
theorem ggX7_reset_X7_setNumber : GoodIn wsX7_reset wsX7_setNumber := goodIn_r _ [11, 1, 12, 13, 10, 14, 15, 16] (by decide +kernel) (by decide +kernel)
set_option maxRecDepth 20000 in
theorem gX7_reset_X7_setNumber : GoodIn wsX7_reset (wsV RX7 33 RX7 yX7_setNumber wsX7_setNumber) := goodIn_app (goodIn_of _ (by decide +kernel)) ggX7_reset_X7_setNumber
theorem dX7_reset_0 : decode cX7_reset 0 = .ok (.aload_n 0, 1) := by decide +kernel
theorem dX7_reset_1 : decode cX7_reset 1 = .ok (.getfield 11, 3) := by decide +kernel
theorem dX7_reset_4 : decode cX7_reset 4 = .ok (.iconst 0, 1) := by decide +kernel
theorem dX7_reset_5 : decode cX7_reset 5 = .ok (.invokestatic 27, 3) := by decide +kernel
theorem dX7_reset_8 : decode cX7_reset 8 = .ok (.aload_n 0, 1) := by decide +kernel
theorem dX7_reset_9 : decode cX7_reset 9 = .ok (.iload_n 1, 1) := by decide +kernel
theorem dX7_reset_10 : decode cX7_reset 10 = .ok (.putfield 19, 3) := by decide +kernel
theorem dX7_reset_13 : decode cX7_reset 13 = .ok (.iconst 0, 1) := by decide +kernel
theorem dX7_reset_14 : decode cX7_reset 14 = .ok (.istore_n 2, 1) := by decide +kernel
theorem dX7_reset_15 : decode cX7_reset 15 = .ok (.iload_n 2, 1) := by decide +kernel
theorem dX7_reset_16 : decode cX7_reset 16 = .ok (.iload_n 1, 1) := by decide +kernel
theorem dX7_reset_17 : decode cX7_reset 17 = .ok (.if_icmp .ge 25, 3) := by decide +kernel
theorem dX7_reset_20 : decode cX7_reset 20 = .ok (.aload_n 0, 1) := by decide +kernel
theorem dX7_reset_21 : decode cX7_reset 21 = .ok (.iconst 0, 1) := by decide +kernel
theorem dX7_reset_22 : decode cX7_reset 22 = .ok (.iload_n 2, 1) := by decide +kernel
theorem dX7_reset_23 : decode cX7_reset 23 = .ok (.iload_n 2, 1) := by decide +kernel
theorem dX7_reset_24 : decode cX7_reset 24 = .ok (.iconst 1, 1) := by decide +kernel
theorem dX7_reset_25 : decode cX7_reset 25 = .ok (.invokevirtual 33, 3) := by decide +kernel
theorem dX7_reset_28 : decode cX7_reset 28 = .ok (.aload_n 0, 1) := by decide +kernel
theorem dX7_reset_29 : decode cX7_reset 29 = .ok (.iload_n 2, 1) := by decide +kernel
theorem dX7_reset_30 : decode cX7_reset 30 = .ok (.iconst 0, 1) := by decide +kernel
theorem dX7_reset_31 : decode cX7_reset 31 = .ok (.iload_n 2, 1) := by decide +kernel
theorem dX7_reset_32 : decode cX7_reset 32 = .ok (.iconst 1, 1) := by decide +kernel
theorem dX7_reset_33 : decode cX7_reset 33 = .ok (.invokevirtual 33, 3) := by decide +kernel
theorem dX7_reset_36 : decode cX7_reset 36 = .ok (.iinc 2 1, 3) := by decide +kernel
theorem dX7_reset_39 : decode cX7_reset 39 = .ok (.goto (-24), 3) := by decide +kernel
theorem dX7_reset_42 : decode cX7_reset 42 = .ok (.return_, 1) := by decide +kernel
theorem dX7_become_0 : decode cX7_become 0 = .ok (.aload_n 0, 1) := by decide +kernel
theorem dX7_become_1 : decode cX7_become 1 = .ok (.aload_n 1, 1) := by decide +kernel
theorem dX7_become_2 : decode cX7_become 2 = .ok (.getfield 19, 3) := by decide +kernel
theorem dX7_become_5 : decode cX7_become 5 = .ok (.putfield 19, 3) := by decide +kernel
theorem dX7_become_8 : decode cX7_become 8 = .ok (.aload_n 1, 1) := by decide +kernel
theorem dX7_become_9 : decode cX7_become 9 = .ok (.getfield 11, 3) := by decide +kernel
theorem dX7_become_12 : decode cX7_become 12 = .ok (.iconst 0, 1) := by decide +kernel
theorem dX7_become_13 : decode cX7_become 13 = .ok (.aload_n 0, 1) := by decide +kernel
theorem dX7_become_14 : decode cX7_become 14 = .ok (.getfield 11, 3) := by decide +kernel
theorem dX7_become_17 : decode cX7_become 17 = .ok (.iconst 0, 1) := by decide +kernel
theorem dX7_become_18 : decode cX7_become 18 = .ok (.bipush 125, 2) := by decide +kernel
theorem dX7_become_20 : decode cX7_become 20 = .ok (.invokestatic 37, 3) := by decide +kernel
theorem dX7_become_23 : decode cX7_become 23 = .ok (.return_, 1) := by decide +kernel
set_option maxRecDepth 20000 in
theorem ggX7_fuseAsGroup_X7_setNumber : GoodIn wsX7_fuseAsGroup wsX7_setNumber := goodIn_r _ [5, 6, 7, 8, 4, 9, 10, 11] (by decide +kernel) (by decide +kernel)
set_option maxRecDepth 20000 in
theorem gX7_fuseAsGroup_X7_setNumber : GoodIn wsX7_fuseAsGroup (wsV RX7 33 RX7 yX7_setNumber wsX7_setNumber) := goodIn_app (goodIn_of _ (by decide +kernel)) ggX7_fuseAsGroup_X7_setNumber
theorem dX7_fuseAsGroup_0 : decode cX7_fuseAsGroup 0 = .ok (.iconst 0, 1) := by decide +kernel
theorem dX7_fuseAsGroup_1 : decode cX7_fuseAsGroup 1 = .ok (.istore_n 2, 1) := by decide +kernel
theorem dX7_fuseAsGroup_2 : decode cX7_fuseAsGroup 2 = .ok (.iload_n 2, 1) := by decide +kernel
theorem dX7_fuseAsGroup_3 : decode cX7_fuseAsGroup 3 = .ok (.iload_n 1, 1) := by decide +kernel
theorem dX7_fuseAsGroup_4 : decode cX7_fuseAsGroup 4 = .ok (.if_icmp .ge 51, 3) := by decide +kernel
theorem dX7_fuseAsGroup_7 : decode cX7_fuseAsGroup 7 = .ok (.iconst 0, 1) := by decide +kernel
theorem dX7_fuseAsGroup_8 : decode cX7_fuseAsGroup 8 = .ok (.istore_n 3, 1) := by decide +kernel
theorem dX7_fuseAsGroup_9 : decode cX7_fuseAsGroup 9 = .ok (.iload_n 3, 1) := by decide +kernel
theorem dX7_fuseAsGroup_10 : decode cX7_fuseAsGroup 10 = .ok (.iload_n 1, 1) := by decide +kernel
theorem dX7_fuseAsGroup_11 : decode cX7_fuseAsGroup 11 = .ok (.if_icmp .ge 38, 3) := by decide +kernel
theorem dX7_fuseAsGroup_14 : decode cX7_fuseAsGroup 14 = .ok (.iload_n 2, 1) := by decide +kernel
theorem dX7_fuseAsGroup_15 : decode cX7_fuseAsGroup 15 = .ok (.iload_n 3, 1) := by decide +kernel
theorem dX7_fuseAsGroup_16 : decode cX7_fuseAsGroup 16 = .ok (.iadd, 1) := by decide +kernel
theorem dX7_fuseAsGroup_17 : decode cX7_fuseAsGroup 17 = .ok (.iload_n 1, 1) := by decide +kernel
theorem dX7_fuseAsGroup_18 : decode cX7_fuseAsGroup 18 = .ok (.if_icmp .lt 11, 3) := by decide +kernel
theorem dX7_fuseAsGroup_21 : decode cX7_fuseAsGroup 21 = .ok (.iload_n 2, 1) := by decide +kernel
theorem dX7_fuseAsGroup_22 : decode cX7_fuseAsGroup 22 = .ok (.iload_n 3, 1) := by decide +kernel
theorem dX7_fuseAsGroup_23 : decode cX7_fuseAsGroup 23 = .ok (.iadd, 1) := by decide +kernel
theorem dX7_fuseAsGroup_24 : decode cX7_fuseAsGroup 24 = .ok (.iload_n 1, 1) := by decide +kernel
theorem dX7_fuseAsGroup_25 : decode cX7_fuseAsGroup 25 = .ok (.isub, 1) := by decide +kernel
theorem dX7_fuseAsGroup_26 : decode cX7_fuseAsGroup 26 = .ok (.goto 6, 3) := by decide +kernel
theorem dX7_fuseAsGroup_29 : decode cX7_fuseAsGroup 29 = .ok (.iload_n 2, 1) := by decide +kernel
theorem dX7_fuseAsGroup_30 : decode cX7_fuseAsGroup 30 = .ok (.iload_n 3, 1) := by decide +kernel
theorem dX7_fuseAsGroup_31 : decode cX7_fuseAsGroup 31 = .ok (.iadd, 1) := by decide +kernel
theorem dX7_fuseAsGroup_32 : decode cX7_fuseAsGroup 32 = .ok (.istore 4, 2) := by decide +kernel
theorem dX7_fuseAsGroup_34 : decode cX7_fuseAsGroup 34 = .ok (.aload_n 0, 1) := by decide +kernel
theorem dX7_fuseAsGroup_35 : decode cX7_fuseAsGroup 35 = .ok (.iload_n 2, 1) := by decide +kernel
theorem dX7_fuseAsGroup_36 : decode cX7_fuseAsGroup 36 = .ok (.iload_n 3, 1) := by decide +kernel
theorem dX7_fuseAsGroup_37 : decode cX7_fuseAsGroup 37 = .ok (.iload 4, 2) := by decide +kernel
theorem dX7_fuseAsGroup_39 : decode cX7_fuseAsGroup 39 = .ok (.iconst 1, 1) := by decide +kernel
theorem dX7_fuseAsGroup_40 : decode cX7_fuseAsGroup 40 = .ok (.invokevirtual 33, 3) := by decide +kernel
theorem dX7_fuseAsGroup_43 : decode cX7_fuseAsGroup 43 = .ok (.iinc 3 1, 3) := by decide +kernel
theorem dX7_fuseAsGroup_46 : decode cX7_fuseAsGroup 46 = .ok (.goto (-37), 3) := by decide +kernel
theorem dX7_fuseAsGroup_49 : decode cX7_fuseAsGroup 49 = .ok (.iinc 2 1, 3) := by decide +kernel
theorem dX7_fuseAsGroup_52 : decode cX7_fuseAsGroup 52 = .ok (.goto (-50), 3) := by decide +kernel
theorem dX7_fuseAsGroup_55 : decode cX7_fuseAsGroup 55 = .ok (.return_, 1) := by decide +kernel
set_option maxRecDepth 20000 in
theorem ggX7_becomeProduct_X7_reset : GoodIn wsX7_becomeProduct wsX7_reset := goodIn_r _ [6, 7, 1, 8, 9, 10, 11, 12, 13, 14, 5, 15, 16, 17, 18, 27, 28] (by decide +kernel) (by decide +kernel)
set_option maxRecDepth 20000 in
theorem gX7_becomeProduct_X7_reset : GoodIn wsX7_becomeProduct (wsV RX7 15 RX7 yX7_reset wsX7_reset) := goodIn_app (goodIn_of _ (by decide +kernel)) ggX7_becomeProduct_X7_reset
set_option maxRecDepth 20000 in
theorem ggX7_becomeProduct_X7_number : GoodIn wsX7_becomeProduct wsX7_number := goodIn_r _ [22, 7, 16, 17, 5, 18, 27, 28] (by decide +kernel) (by decide +kernel)
set_option maxRecDepth 20000 in
theorem gX7_becomeProduct_X7_number : GoodIn wsX7_becomeProduct (wsV RX7 43 RX7 yX7_number wsX7_number) := goodIn_app (goodIn_of _ (by decide +kernel)) ggX7_becomeProduct_X7_number
set_option maxRecDepth 20000 in
theorem ggX7_becomeProduct_X7_placeBlock : GoodIn wsX7_becomeProduct wsX7_placeBlock := goodIn_r _ [26, 1, 19, 20, 21, 5, 22, 7, 16, 17, 18, 12, 13, 14, 15, 27, 28] (by decide +kernel) (by decide +kernel)
set_option maxRecDepth 20000 in
theorem gX7_becomeProduct_X7_placeBlock : GoodIn wsX7_becomeProduct (wsV RX7 46 RX7 yX7_placeBlock wsX7_placeBlock) := goodIn_app (goodIn_of _ (by decide +kernel)) ggX7_becomeProduct_X7_placeBlock
theorem dX7_becomeProduct_0 : decode cX7_becomeProduct 0 = .ok (.aload_n 2, 1) := by decide +kernel
theorem dX7_becomeProduct_1 : decode cX7_becomeProduct 1 = .ok (.getfield 19, 3) := by decide +kernel
theorem dX7_becomeProduct_4 : decode cX7_becomeProduct 4 = .ok (.istore_n 3, 1) := by decide +kernel
theorem dX7_becomeProduct_5 : decode cX7_becomeProduct 5 = .ok (.aload_n 0, 1) := by decide +kernel
theorem dX7_becomeProduct_6 : decode cX7_becomeProduct 6 = .ok (.aload_n 1, 1) := by decide +kernel
theorem dX7_becomeProduct_7 : decode cX7_becomeProduct 7 = .ok (.getfield 19, 3) := by decide +kernel
theorem dX7_becomeProduct_10 : decode cX7_becomeProduct 10 = .ok (.iload_n 3, 1) := by decide +kernel
theorem dX7_becomeProduct_11 : decode cX7_becomeProduct 11 = .ok (.imul, 1) := by decide +kernel
theorem dX7_becomeProduct_12 : decode cX7_becomeProduct 12 = .ok (.invokevirtual 15, 3) := by decide +kernel
theorem dX7_becomeProduct_15 : decode cX7_becomeProduct 15 = .ok (.iconst 0, 1) := by decide +kernel
theorem dX7_becomeProduct_16 : decode cX7_becomeProduct 16 = .ok (.istore 4, 2) := by decide +kernel
theorem dX7_becomeProduct_18 : decode cX7_becomeProduct 18 = .ok (.iload 4, 2) := by decide +kernel
theorem dX7_becomeProduct_20 : decode cX7_becomeProduct 20 = .ok (.aload_n 1, 1) := by decide +kernel
theorem dX7_becomeProduct_21 : decode cX7_becomeProduct 21 = .ok (.getfield 19, 3) := by decide +kernel
theorem dX7_becomeProduct_24 : decode cX7_becomeProduct 24 = .ok (.if_icmp .ge 77, 3) := by decide +kernel
theorem dX7_becomeProduct_27 : decode cX7_becomeProduct 27 = .ok (.iconst 0, 1) := by decide +kernel
theorem dX7_becomeProduct_28 : decode cX7_becomeProduct 28 = .ok (.istore 5, 2) := by decide +kernel
theorem dX7_becomeProduct_30 : decode cX7_becomeProduct 30 = .ok (.iload 5, 2) := by decide +kernel
theorem dX7_becomeProduct_32 : decode cX7_becomeProduct 32 = .ok (.aload_n 1, 1) := by decide +kernel
theorem dX7_becomeProduct_33 : decode cX7_becomeProduct 33 = .ok (.getfield 19, 3) := by decide +kernel
theorem dX7_becomeProduct_36 : decode cX7_becomeProduct 36 = .ok (.if_icmp .ge 59, 3) := by decide +kernel
theorem dX7_becomeProduct_39 : decode cX7_becomeProduct 39 = .ok (.iconst 0, 1) := by decide +kernel
theorem dX7_becomeProduct_40 : decode cX7_becomeProduct 40 = .ok (.istore 6, 2) := by decide +kernel
theorem dX7_becomeProduct_42 : decode cX7_becomeProduct 42 = .ok (.iload 6, 2) := by decide +kernel
theorem dX7_becomeProduct_44 : decode cX7_becomeProduct 44 = .ok (.aload_n 1, 1) := by decide +kernel
theorem dX7_becomeProduct_45 : decode cX7_becomeProduct 45 = .ok (.getfield 19, 3) := by decide +kernel
theorem dX7_becomeProduct_48 : decode cX7_becomeProduct 48 = .ok (.if_icmp .ge 41, 3) := by decide +kernel
theorem dX7_becomeProduct_51 : decode cX7_becomeProduct 51 = .ok (.aload_n 0, 1) := by decide +kernel
theorem dX7_becomeProduct_52 : decode cX7_becomeProduct 52 = .ok (.aload_n 2, 1) := by decide +kernel
theorem dX7_becomeProduct_53 : decode cX7_becomeProduct 53 = .ok (.aload_n 1, 1) := by decide +kernel
theorem dX7_becomeProduct_54 : decode cX7_becomeProduct 54 = .ok (.iload 4, 2) := by decide +kernel
theorem dX7_becomeProduct_56 : decode cX7_becomeProduct 56 = .ok (.iload 5, 2) := by decide +kernel
