theorem dX9_breaksPartners_99 : decode cX9_breaksPartners 99 = .ok (.iconst (-1), 1) := by decide +kernel
theorem dX9_breaksPartners_100 : decode cX9_breaksPartners 100 = .ok (.iconst (-1), 1) := by decide +kernel
theorem dX9_breaksPartners_101 : decode cX9_breaksPartners 101 = .ok (.iconst (-1), 1) := by decide +kernel
theorem dX9_breaksPartners_102 : decode cX9_breaksPartners 102 = .ok (.invokevirtual 78, 3) := by decide +kernel
theorem dX9_breaksPartners_105 : decode cX9_breaksPartners 105 = .ok (.ireturn, 1) := by decide +kernel
theorem dX9_breaksPartners_106 : decode cX9_breaksPartners 106 = .ok (.iinc 2 1, 3) := by decide +kernel
theorem dX9_breaksPartners_109 : decode cX9_breaksPartners 109 = .ok (.goto (-107), 3) := by decide +kernel
theorem dX9_breaksPartners_112 : decode cX9_breaksPartners 112 = .ok (.iconst 0, 1) := by decide +kernel
theorem dX9_breaksPartners_113 : decode cX9_breaksPartners 113 = .ok (.ireturn, 1) := by decide +kernel
set_option maxRecDepth 20000 in
theorem ggX9_breaksThree_X9_n : GoodIn wsX9_breaksThree wsX9_n := goodIn_r _ [7, 8, 14, 15, 16, 17, 18, 19, 20, 21, 22, 23, 24, 25, 26, 27, 28] (by decide +kernel) (by decide +kernel)
set_option maxRecDepth 20000 in
theorem gX9_breaksThree_X9_n : GoodIn wsX9_breaksThree (wsV RX9 74 RX9 yX9_n wsX9_n) := goodIn_app (goodIn_of _ (by decide +kernel)) ggX9_breaksThree_X9_n
set_option maxRecDepth 20000 in
theorem ggX9_breaksThree_X9_tell : GoodIn wsX9_breaksThree wsX9_tell := goodIn_r _ [12, 13, 14, 15, 16, 17, 18, 19, 20, 21, 22, 23, 24, 25, 26, 27, 28] (by decide +kernel) (by decide +kernel)
set_option maxRecDepth 20000 in
theorem gX9_breaksThree_X9_tell : GoodIn wsX9_breaksThree (wsV RX9 78 RX9 yX9_tell wsX9_tell) := goodIn_app (goodIn_of _ (by decide +kernel)) ggX9_breaksThree_X9_tell
theorem dX9_breaksThree_0 : decode cX9_breaksThree 0 = .ok (.aload_n 0, 1) := by decide +kernel
theorem dX9_breaksThree_1 : decode cX9_breaksThree 1 = .ok (.getfield 7, 3) := by decide +kernel
theorem dX9_breaksThree_4 : decode cX9_breaksThree 4 = .ok (.iload_n 1, 1) := by decide +kernel
theorem dX9_breaksThree_5 : decode cX9_breaksThree 5 = .ok (.iaload, 1) := by decide +kernel
theorem dX9_breaksThree_6 : decode cX9_breaksThree 6 = .ok (.istore_n 3, 1) := by decide +kernel
theorem dX9_breaksThree_7 : decode cX9_breaksThree 7 = .ok (.iconst 0, 1) := by decide +kernel
theorem dX9_breaksThree_8 : decode cX9_breaksThree 8 = .ok (.istore 4, 2) := by decide +kernel
theorem dX9_breaksThree_10 : decode cX9_breaksThree 10 = .ok (.iload 4, 2) := by decide +kernel
theorem dX9_breaksThree_12 : decode cX9_breaksThree 12 = .ok (.iload_n 3, 1) := by decide +kernel
theorem dX9_breaksThree_13 : decode cX9_breaksThree 13 = .ok (.iload_n 3, 1) := by decide +kernel
theorem dX9_breaksThree_14 : decode cX9_breaksThree 14 = .ok (.imul, 1) := by decide +kernel
theorem dX9_breaksThree_15 : decode cX9_breaksThree 15 = .ok (.iload_n 3, 1) := by decide +kernel
theorem dX9_breaksThree_16 : decode cX9_breaksThree 16 = .ok (.imul, 1) := by decide +kernel
theorem dX9_breaksThree_17 : decode cX9_breaksThree 17 = .ok (.if_icmp .ge 97, 3) := by decide +kernel
theorem dX9_breaksThree_20 : decode cX9_breaksThree 20 = .ok (.iload 4, 2) := by decide +kernel
theorem dX9_breaksThree_22 : decode cX9_breaksThree 22 = .ok (.iload_n 3, 1) := by decide +kernel
theorem dX9_breaksThree_23 : decode cX9_breaksThree 23 = .ok (.iload_n 3, 1) := by decide +kernel
theorem dX9_breaksThree_24 : decode cX9_breaksThree 24 = .ok (.imul, 1) := by decide +kernel
theorem dX9_breaksThree_25 : decode cX9_breaksThree 25 = .ok (.idiv, 1) := by decide +kernel
theorem dX9_breaksThree_26 : decode cX9_breaksThree 26 = .ok (.istore 5, 2) := by decide +kernel
theorem dX9_breaksThree_28 : decode cX9_breaksThree 28 = .ok (.iload 4, 2) := by decide +kernel
theorem dX9_breaksThree_30 : decode cX9_breaksThree 30 = .ok (.iload_n 3, 1) := by decide +kernel
theorem dX9_breaksThree_31 : decode cX9_breaksThree 31 = .ok (.idiv, 1) := by decide +kernel
theorem dX9_breaksThree_32 : decode cX9_breaksThree 32 = .ok (.iload_n 3, 1) := by decide +kernel
theorem dX9_breaksThree_33 : decode cX9_breaksThree 33 = .ok (.irem, 1) := by decide +kernel
theorem dX9_breaksThree_34 : decode cX9_breaksThree 34 = .ok (.istore 6, 2) := by decide +kernel
theorem dX9_breaksThree_36 : decode cX9_breaksThree 36 = .ok (.iload 4, 2) := by decide +kernel
theorem dX9_breaksThree_38 : decode cX9_breaksThree 38 = .ok (.iload_n 3, 1) := by decide +kernel
theorem dX9_breaksThree_39 : decode cX9_breaksThree 39 = .ok (.irem, 1) := by decide +kernel
theorem dX9_breaksThree_40 : decode cX9_breaksThree 40 = .ok (.istore 7, 2) := by decide +kernel
theorem dX9_breaksThree_42 : decode cX9_breaksThree 42 = .ok (.iload_n 2, 1) := by decide +kernel
theorem dX9_breaksThree_43 : decode cX9_breaksThree 43 = .ok (.iconst 2, 1) := by decide +kernel
theorem dX9_breaksThree_44 : decode cX9_breaksThree 44 = .ok (.if_icmp .ne 17, 3) := by decide +kernel
theorem dX9_breaksThree_47 : decode cX9_breaksThree 47 = .ok (.aload_n 0, 1) := by decide +kernel
theorem dX9_breaksThree_48 : decode cX9_breaksThree 48 = .ok (.iload_n 1, 1) := by decide +kernel
theorem dX9_breaksThree_49 : decode cX9_breaksThree 49 = .ok (.iload 6, 2) := by decide +kernel
theorem dX9_breaksThree_51 : decode cX9_breaksThree 51 = .ok (.iload 5, 2) := by decide +kernel
theorem dX9_breaksThree_53 : decode cX9_breaksThree 53 = .ok (.iload 7, 2) := by decide +kernel
theorem dX9_breaksThree_55 : decode cX9_breaksThree 55 = .ok (.invokevirtual 74, 3) := by decide +kernel
theorem dX9_breaksThree_58 : decode cX9_breaksThree 58 = .ok (.goto 19, 3) := by decide +kernel
theorem dX9_breaksThree_61 : decode cX9_breaksThree 61 = .ok (.aload_n 0, 1) := by decide +kernel
theorem dX9_breaksThree_62 : decode cX9_breaksThree 62 = .ok (.iload_n 1, 1) := by decide +kernel
theorem dX9_breaksThree_63 : decode cX9_breaksThree 63 = .ok (.aload_n 0, 1) := by decide +kernel
theorem dX9_breaksThree_64 : decode cX9_breaksThree 64 = .ok (.getfield 19, 3) := by decide +kernel
theorem dX9_breaksThree_67 : decode cX9_breaksThree 67 = .ok (.iload 5, 2) := by decide +kernel
theorem dX9_breaksThree_69 : decode cX9_breaksThree 69 = .ok (.iaload, 1) := by decide +kernel
theorem dX9_breaksThree_70 : decode cX9_breaksThree 70 = .ok (.iload 7, 2) := by decide +kernel
theorem dX9_breaksThree_72 : decode cX9_breaksThree 72 = .ok (.iload 6, 2) := by decide +kernel
theorem dX9_breaksThree_74 : decode cX9_breaksThree 74 = .ok (.invokevirtual 74, 3) := by decide +kernel
theorem dX9_breaksThree_77 : decode cX9_breaksThree 77 = .ok (.istore 8, 2) := by decide +kernel
theorem dX9_breaksThree_79 : decode cX9_breaksThree 79 = .ok (.aload_n 0, 1) := by decide +kernel
theorem dX9_breaksThree_80 : decode cX9_breaksThree 80 = .ok (.iload_n 1, 1) := by decide +kernel
theorem dX9_breaksThree_81 : decode cX9_breaksThree 81 = .ok (.iload 5, 2) := by decide +kernel
theorem dX9_breaksThree_83 : decode cX9_breaksThree 83 = .ok (.iload 6, 2) := by decide +kernel
theorem dX9_breaksThree_85 : decode cX9_breaksThree 85 = .ok (.iload 7, 2) := by decide +kernel
theorem dX9_breaksThree_87 : decode cX9_breaksThree 87 = .ok (.invokevirtual 74, 3) := by decide +kernel
theorem dX9_breaksThree_90 : decode cX9_breaksThree 90 = .ok (.iload 8, 2) := by decide +kernel
theorem dX9_breaksThree_92 : decode cX9_breaksThree 92 = .ok (.if_icmp .eq 16, 3) := by decide +kernel
theorem dX9_breaksThree_95 : decode cX9_breaksThree 95 = .ok (.aload_n 0, 1) := by decide +kernel
theorem dX9_breaksThree_96 : decode cX9_breaksThree 96 = .ok (.iload_n 2, 1) := by decide +kernel
theorem dX9_breaksThree_97 : decode cX9_breaksThree 97 = .ok (.iload 5, 2) := by decide +kernel
theorem dX9_breaksThree_99 : decode cX9_breaksThree 99 = .ok (.iload 6, 2) := by decide +kernel
theorem dX9_breaksThree_101 : decode cX9_breaksThree 101 = .ok (.iload 7, 2) := by decide +kernel
theorem dX9_breaksThree_103 : decode cX9_breaksThree 103 = .ok (.iconst (-1), 1) := by decide +kernel
theorem dX9_breaksThree_104 : decode cX9_breaksThree 104 = .ok (.invokevirtual 78, 3) := by decide +kernel
theorem dX9_breaksThree_107 : decode cX9_breaksThree 107 = .ok (.ireturn, 1) := by decide +kernel
theorem dX9_breaksThree_108 : decode cX9_breaksThree 108 = .ok (.iinc 4 1, 3) := by decide +kernel
theorem dX9_breaksThree_111 : decode cX9_breaksThree 111 = .ok (.goto (-101), 3) := by decide +kernel
theorem dX9_breaksThree_114 : decode cX9_breaksThree 114 = .ok (.iconst 0, 1) := by decide +kernel
theorem dX9_breaksThree_115 : decode cX9_breaksThree 115 = .ok (.ireturn, 1) := by decide +kernel
set_option maxRecDepth 20000 in
theorem ggX9_breaksSums_X9_n : GoodIn wsX9_breaksSums wsX9_n := goodIn_r _ [6, 7, 13, 14, 15, 16, 17, 18, 19, 20, 21, 22, 23, 24, 25, 26, 27] (by decide +kernel) (by decide +kernel)
set_option maxRecDepth 20000 in
theorem gX9_breaksSums_X9_n : GoodIn wsX9_breaksSums (wsV RX9 74 RX9 yX9_n wsX9_n) := goodIn_app (goodIn_of _ (by decide +kernel)) ggX9_breaksSums_X9_n
set_option maxRecDepth 20000 in
theorem ggX9_breaksSums_X9_tell : GoodIn wsX9_breaksSums wsX9_tell := goodIn_r _ [11, 12, 13, 14, 15, 16, 17, 18, 19, 20, 21, 22, 23, 24, 25, 26, 27] (by decide +kernel) (by decide +kernel)
set_option maxRecDepth 20000 in
theorem gX9_breaksSums_X9_tell : GoodIn wsX9_breaksSums (wsV RX9 78 RX9 yX9_tell wsX9_tell) := goodIn_app (goodIn_of _ (by decide +kernel)) ggX9_breaksSums_X9_tell
theorem dX9_breaksSums_0 : decode cX9_breaksSums 0 = .ok (.aload_n 0, 1) := by decide +kernel
theorem dX9_breaksSums_1 : decode cX9_breaksSums 1 = .ok (.getfield 7, 3) := by decide +kernel
theorem dX9_breaksSums_4 : decode cX9_breaksSums 4 = .ok (.iload_n 1, 1) := by decide +kernel
theorem dX9_breaksSums_5 : decode cX9_breaksSums 5 = .ok (.iaload, 1) := by decide +kernel
theorem dX9_breaksSums_6 : decode cX9_breaksSums 6 = .ok (.istore_n 2, 1) := by decide +kernel
theorem dX9_breaksSums_7 : decode cX9_breaksSums 7 = .ok (.iconst 0, 1) := by decide +kernel
theorem dX9_breaksSums_8 : decode cX9_breaksSums 8 = .ok (.istore_n 3, 1) := by decide +kernel
theorem dX9_breaksSums_9 : decode cX9_breaksSums 9 = .ok (.iload_n 3, 1) := by decide +kernel
theorem dX9_breaksSums_10 : decode cX9_breaksSums 10 = .ok (.iload_n 2, 1) := by decide +kernel
theorem dX9_breaksSums_11 : decode cX9_breaksSums 11 = .ok (.iload_n 2, 1) := by decide +kernel
theorem dX9_breaksSums_12 : decode cX9_breaksSums 12 = .ok (.imul, 1) := by decide +kernel
theorem dX9_breaksSums_13 : decode cX9_breaksSums 13 = .ok (.iload_n 2, 1) := by decide +kernel
theorem dX9_breaksSums_14 : decode cX9_breaksSums 14 = .ok (.imul, 1) := by decide +kernel
theorem dX9_breaksSums_15 : decode cX9_breaksSums 15 = .ok (.iload_n 2, 1) := by decide +kernel
theorem dX9_breaksSums_16 : decode cX9_breaksSums 16 = .ok (.imul, 1) := by decide +kernel
theorem dX9_breaksSums_17 : decode cX9_breaksSums 17 = .ok (.if_icmp .ge 128, 3) := by decide +kernel
theorem dX9_breaksSums_20 : decode cX9_breaksSums 20 = .ok (.iload_n 3, 1) := by decide +kernel
theorem dX9_breaksSums_21 : decode cX9_breaksSums 21 = .ok (.iload_n 2, 1) := by decide +kernel
theorem dX9_breaksSums_22 : decode cX9_breaksSums 22 = .ok (.iload_n 2, 1) := by decide +kernel
theorem dX9_breaksSums_23 : decode cX9_breaksSums 23 = .ok (.imul, 1) := by decide +kernel
theorem dX9_breaksSums_24 : decode cX9_breaksSums 24 = .ok (.iload_n 2, 1) := by decide +kernel
theorem dX9_breaksSums_25 : decode cX9_breaksSums 25 = .ok (.imul, 1) := by decide +kernel
theorem dX9_breaksSums_26 : decode cX9_breaksSums 26 = .ok (.idiv, 1) := by decide +kernel
theorem dX9_breaksSums_27 : decode cX9_breaksSums 27 = .ok (.istore 4, 2) := by decide +kernel
theorem dX9_breaksSums_29 : decode cX9_breaksSums 29 = .ok (.iload_n 3, 1) := by decide +kernel
theorem dX9_breaksSums_30 : decode cX9_breaksSums 30 = .ok (.iload_n 2, 1) := by decide +kernel
theorem dX9_breaksSums_31 : decode cX9_breaksSums 31 = .ok (.iload_n 2, 1) := by decide +kernel
theorem dX9_breaksSums_32 : decode cX9_breaksSums 32 = .ok (.imul, 1) := by decide +kernel
theorem dX9_breaksSums_33 : decode cX9_breaksSums 33 = .ok (.idiv, 1) := by decide +kernel
theorem dX9_breaksSums_34 : decode cX9_breaksSums 34 = .ok (.iload_n 2, 1) := by decide +kernel
theorem dX9_breaksSums_35 : decode cX9_breaksSums 35 = .ok (.irem, 1) := by decide +kernel
theorem dX9_breaksSums_36 : decode cX9_breaksSums 36 = .ok (.istore 5, 2) := by decide +kernel
theorem dX9_breaksSums_38 : decode cX9_breaksSums 38 = .ok (.iload_n 3, 1) := by decide +kernel
theorem dX9_breaksSums_39 : decode cX9_breaksSums 39 = .ok (.iload_n 2, 1) := by decide +kernel
theorem dX9_breaksSums_40 : decode cX9_breaksSums 40 = .ok (.idiv, 1) := by decide +kernel
theorem dX9_breaksSums_41 : decode cX9_breaksSums 41 = .ok (.iload_n 2, 1) := by decide +kernel
theorem dX9_breaksSums_42 : decode cX9_breaksSums 42 = .ok (.irem, 1) := by decide +kernel
theorem dX9_breaksSums_43 : decode cX9_breaksSums 43 = .ok (.istore 6, 2) := by decide +kernel
theorem dX9_breaksSums_45 : decode cX9_breaksSums 45 = .ok (.iload_n 3, 1) := by decide +kernel
theorem dX9_breaksSums_46 : decode cX9_breaksSums 46 = .ok (.iload_n 2, 1) := by decide +kernel
theorem dX9_breaksSums_47 : decode cX9_breaksSums 47 = .ok (.irem, 1) := by decide +kernel
theorem dX9_breaksSums_48 : decode cX9_breaksSums 48 = .ok (.istore 7, 2) := by decide +kernel
theorem dX9_breaksSums_50 : decode cX9_breaksSums 50 = .ok (.iconst 0, 1) := by decide +kernel
theorem dX9_breaksSums_51 : decode cX9_breaksSums 51 = .ok (.istore 8, 2) := by decide +kernel
theorem dX9_breaksSums_53 : decode cX9_breaksSums 53 = .ok (.iconst 0, 1) := by decide +kernel
theorem dX9_breaksSums_54 : decode cX9_breaksSums 54 = .ok (.istore 9, 2) := by decide +kernel
theorem dX9_breaksSums_56 : decode cX9_breaksSums 56 = .ok (.iload 9, 2) := by decide +kernel
theorem dX9_breaksSums_58 : decode cX9_breaksSums 58 = .ok (.iload_n 2, 1) := by decide +kernel
theorem dX9_breaksSums_59 : decode cX9_breaksSums 59 = .ok (.if_icmp .ge 61, 3) := by decide +kernel
theorem dX9_breaksSums_62 : decode cX9_breaksSums 62 = .ok (.iload 8, 2) := by decide +kernel
theorem dX9_breaksSums_64 : decode cX9_breaksSums 64 = .ok (.aload_n 0, 1) := by decide +kernel
theorem dX9_breaksSums_65 : decode cX9_breaksSums 65 = .ok (.iload_n 1, 1) := by decide +kernel
theorem dX9_breaksSums_66 : decode cX9_breaksSums 66 = .ok (.iload 4, 2) := by decide +kernel
theorem dX9_breaksSums_68 : decode cX9_breaksSums 68 = .ok (.iload 5, 2) := by decide +kernel
theorem dX9_breaksSums_70 : decode cX9_breaksSums 70 = .ok (.iload 9, 2) := by decide +kernel
theorem dX9_breaksSums_72 : decode cX9_breaksSums 72 = .ok (.invokevirtual 74, 3) := by decide +kernel
theorem dX9_breaksSums_75 : decode cX9_breaksSums 75 = .ok (.aload_n 0, 1) := by decide +kernel
theorem dX9_breaksSums_76 : decode cX9_breaksSums 76 = .ok (.iload_n 1, 1) := by decide +kernel
theorem dX9_breaksSums_77 : decode cX9_breaksSums 77 = .ok (.iload 9, 2) := by decide +kernel
theorem dX9_breaksSums_79 : decode cX9_breaksSums 79 = .ok (.iload 6, 2) := by decide +kernel
theorem dX9_breaksSums_81 : decode cX9_breaksSums 81 = .ok (.iload 7, 2) := by decide +kernel
theorem dX9_breaksSums_83 : decode cX9_breaksSums 83 = .ok (.invokevirtual 74, 3) := by decide +kernel
theorem dX9_breaksSums_86 : decode cX9_breaksSums 86 = .ok (.imul, 1) := by decide +kernel
theorem dX9_breaksSums_87 : decode cX9_breaksSums 87 = .ok (.aload_n 0, 1) := by decide +kernel
theorem dX9_breaksSums_88 : decode cX9_breaksSums 88 = .ok (.iload_n 1, 1) := by decide +kernel
theorem dX9_breaksSums_89 : decode cX9_breaksSums 89 = .ok (.iload 5, 2) := by decide +kernel
theorem dX9_breaksSums_91 : decode cX9_breaksSums 91 = .ok (.iload 6, 2) := by decide +kernel
theorem dX9_breaksSums_93 : decode cX9_breaksSums 93 = .ok (.iload 9, 2) := by decide +kernel
theorem dX9_breaksSums_95 : decode cX9_breaksSums 95 = .ok (.invokevirtual 74, 3) := by decide +kernel
theorem dX9_breaksSums_98 : decode cX9_breaksSums 98 = .ok (.aload_n 0, 1) := by decide +kernel
theorem dX9_breaksSums_99 : decode cX9_breaksSums 99 = .ok (.iload_n 1, 1) := by decide +kernel
theorem dX9_breaksSums_100 : decode cX9_breaksSums 100 = .ok (.iload 4, 2) := by decide +kernel
theorem dX9_breaksSums_102 : decode cX9_breaksSums 102 = .ok (.iload 9, 2) := by decide +kernel
theorem dX9_breaksSums_104 : decode cX9_breaksSums 104 = .ok (.iload 7, 2) := by decide +kernel
theorem dX9_breaksSums_106 : decode cX9_breaksSums 106 = .ok (.invokevirtual 74, 3) := by decide +kernel
theorem dX9_breaksSums_109 : decode cX9_breaksSums 109 = .ok (.imul, 1) := by decide +kernel
theorem dX9_breaksSums_110 : decode cX9_breaksSums 110 = .ok (.isub, 1) := by decide +kernel
theorem dX9_breaksSums_111 : decode cX9_breaksSums 111 = .ok (.iadd, 1) := by decide +kernel
theorem dX9_breaksSums_112 : decode cX9_breaksSums 112 = .ok (.istore 8, 2) := by decide +kernel
theorem dX9_breaksSums_114 : decode cX9_breaksSums 114 = .ok (.iinc 9 1, 3) := by decide +kernel
theorem dX9_breaksSums_117 : decode cX9_breaksSums 117 = .ok (.goto (-61), 3) := by decide +kernel
theorem dX9_breaksSums_120 : decode cX9_breaksSums 120 = .ok (.iload 8, 2) := by decide +kernel
theorem dX9_breaksSums_122 : decode cX9_breaksSums 122 = .ok (.ifCond .eq 17, 3) := by decide +kernel
theorem dX9_breaksSums_125 : decode cX9_breaksSums 125 = .ok (.aload_n 0, 1) := by decide +kernel
theorem dX9_breaksSums_126 : decode cX9_breaksSums 126 = .ok (.iconst 5, 1) := by decide +kernel
theorem dX9_breaksSums_127 : decode cX9_breaksSums 127 = .ok (.iload 4, 2) := by decide +kernel
theorem dX9_breaksSums_129 : decode cX9_breaksSums 129 = .ok (.iload 5, 2) := by decide +kernel
theorem dX9_breaksSums_131 : decode cX9_breaksSums 131 = .ok (.iload 6, 2) := by decide +kernel
theorem dX9_breaksSums_133 : decode cX9_breaksSums 133 = .ok (.iload 7, 2) := by decide +kernel
theorem dX9_breaksSums_135 : decode cX9_breaksSums 135 = .ok (.invokevirtual 78, 3) := by decide +kernel
theorem dX9_breaksSums_138 : decode cX9_breaksSums 138 = .ok (.ireturn, 1) := by decide +kernel
theorem dX9_breaksSums_139 : decode cX9_breaksSums 139 = .ok (.iinc 3 1, 3) := by decide +kernel
theorem dX9_breaksSums_142 : decode cX9_breaksSums 142 = .ok (.goto (-133), 3) := by decide +kernel
theorem dX9_breaksSums_145 : decode cX9_breaksSums 145 = .ok (.iconst 0, 1) := by decide +kernel
theorem dX9_breaksSums_146 : decode cX9_breaksSums 146 = .ok (.ireturn, 1) := by decide +kernel
set_option maxRecDepth 20000 in
theorem ggX9_isRight_X9_breaksUnit : GoodIn wsX9_isRight wsX9_breaksUnit := goodIn_r _ [5, 6, 7, 8, 9, 4, 10, 11, 12, 13, 14, 15, 16, 30, 31, 32, 33, 34, 35, 36, 37, 38, 39, 40, 41, 42, 43, 44] (by decide +kernel) (by decide +kernel)
set_option maxRecDepth 20000 in
theorem gX9_isRight_X9_breaksUnit : GoodIn wsX9_isRight (wsV RX9 82 RX9 yX9_breaksUnit wsX9_breaksUnit) := goodIn_app (goodIn_of _ (by decide +kernel)) ggX9_isRight_X9_breaksUnit
set_option maxRecDepth 20000 in
theorem ggX9_isRight_X9_breaksThree : GoodIn wsX9_isRight wsX9_breaksThree := goodIn_r _ [20, 6, 21, 7, 8, 9, 4, 10, 11, 12, 13, 14, 15, 16, 30, 31, 32, 33, 34, 35, 36, 37, 38, 39, 40, 41, 42, 43, 44] (by decide +kernel) (by decide +kernel)
set_option maxRecDepth 20000 in
theorem gX9_isRight_X9_breaksThree : GoodIn wsX9_isRight (wsV RX9 85 RX9 yX9_breaksThree wsX9_breaksThree) := goodIn_app (goodIn_of _ (by decide +kernel)) ggX9_isRight_X9_breaksThree
set_option maxRecDepth 20000 in
theorem ggX9_isRight_X9_breaksPartners : GoodIn wsX9_isRight wsX9_breaksPartners := goodIn_r _ [25, 6, 21, 7, 8, 9, 4, 10, 11, 12, 13, 14, 15, 16, 30, 31, 32, 33, 34, 35, 36, 37, 38, 39, 40, 41, 42, 43, 44] (by decide +kernel) (by decide +kernel)
set_option maxRecDepth 20000 in
theorem gX9_isRight_X9_breaksPartners : GoodIn wsX9_isRight (wsV RX9 88 RX9 yX9_breaksPartners wsX9_breaksPartners) := goodIn_app (goodIn_of _ (by decide +kernel)) ggX9_isRight_X9_breaksPartners
set_option maxRecDepth 20000 in
theorem ggX9_isRight_X9_breaksSums : GoodIn wsX9_isRight wsX9_breaksSums := goodIn_r _ [29, 6, 7, 8, 9, 4, 10, 11, 12, 13, 14, 15, 16, 30, 31, 32, 33, 34, 35, 36, 37, 38, 39, 40, 41, 42, 43, 44] (by decide +kernel) (by decide +kernel)
set_option maxRecDepth 20000 in
theorem gX9_isRight_X9_breaksSums : GoodIn wsX9_isRight (wsV RX9 91 RX9 yX9_breaksSums wsX9_breaksSums) := goodIn_app (goodIn_of _ (by decide +kernel)) ggX9_isRight_X9_breaksSums
set_option maxRecDepth 20000 in
theorem ggX9_isRight_X9_tell : GoodIn wsX9_isRight wsX9_tell := goodIn_r _ [15, 16, 30, 31, 32, 33, 34, 35, 36, 37, 38, 39, 40, 41, 42, 43, 44] (by decide +kernel) (by decide +kernel)
set_option maxRecDepth 20000 in
theorem gX9_isRight_X9_tell : GoodIn wsX9_isRight (wsV RX9 78 RX9 yX9_tell wsX9_tell) := goodIn_app (goodIn_of _ (by decide +kernel)) ggX9_isRight_X9_tell
theorem dX9_isRight_0 : decode cX9_isRight 0 = .ok (.aload_n 0, 1) := by decide +kernel
theorem dX9_isRight_1 : decode cX9_isRight 1 = .ok (.iload_n 1, 1) := by decide +kernel
theorem dX9_isRight_2 : decode cX9_isRight 2 = .ok (.invokevirtual 82, 3) := by decide +kernel
theorem dX9_isRight_5 : decode cX9_isRight 5 = .ok (.ifCond .ne 37, 3) := by decide +kernel
theorem dX9_isRight_8 : decode cX9_isRight 8 = .ok (.aload_n 0, 1) := by decide +kernel
theorem dX9_isRight_9 : decode cX9_isRight 9 = .ok (.iload_n 1, 1) := by decide +kernel
theorem dX9_isRight_10 : decode cX9_isRight 10 = .ok (.iconst 2, 1) := by decide +kernel
theorem dX9_isRight_11 : decode cX9_isRight 11 = .ok (.invokevirtual 85, 3) := by decide +kernel
theorem dX9_isRight_14 : decode cX9_isRight 14 = .ok (.ifCond .ne 28, 3) := by decide +kernel
theorem dX9_isRight_17 : decode cX9_isRight 17 = .ok (.aload_n 0, 1) := by decide +kernel
theorem dX9_isRight_18 : decode cX9_isRight 18 = .ok (.iload_n 1, 1) := by decide +kernel
theorem dX9_isRight_19 : decode cX9_isRight 19 = .ok (.invokevirtual 88, 3) := by decide +kernel
theorem dX9_isRight_22 : decode cX9_isRight 22 = .ok (.ifCond .ne 20, 3) := by decide +kernel
theorem dX9_isRight_25 : decode cX9_isRight 25 = .ok (.aload_n 0, 1) := by decide +kernel
theorem dX9_isRight_26 : decode cX9_isRight 26 = .ok (.iload_n 1, 1) := by decide +kernel
theorem dX9_isRight_27 : decode cX9_isRight 27 = .ok (.iconst 4, 1) := by decide +kernel
theorem dX9_isRight_28 : decode cX9_isRight 28 = .ok (.invokevirtual 85, 3) := by decide +kernel
theorem dX9_isRight_31 : decode cX9_isRight 31 = .ok (.ifCond .ne 11, 3) := by decide +kernel
theorem dX9_isRight_34 : decode cX9_isRight 34 = .ok (.aload_n 0, 1) := by decide +kernel
theorem dX9_isRight_35 : decode cX9_isRight 35 = .ok (.iload_n 1, 1) := by decide +kernel
theorem dX9_isRight_36 : decode cX9_isRight 36 = .ok (.invokevirtual 91, 3) := by decide +kernel
theorem dX9_isRight_39 : decode cX9_isRight 39 = .ok (.ifCond .eq 7, 3) := by decide +kernel
theorem dX9_isRight_42 : decode cX9_isRight 42 = .ok (.iconst 1, 1) := by decide +kernel
theorem dX9_isRight_43 : decode cX9_isRight 43 = .ok (.goto 4, 3) := by decide +kernel
theorem dX9_isRight_46 : decode cX9_isRight 46 = .ok (.iconst 0, 1) := by decide +kernel
theorem dX9_isRight_47 : decode cX9_isRight 47 = .ok (.istore_n 2, 1) := by decide +kernel
theorem dX9_isRight_48 : decode cX9_isRight 48 = .ok (.iload_n 2, 1) := by decide +kernel
theorem dX9_isRight_49 : decode cX9_isRight 49 = .ok (.ifCond .ne 13, 3) := by decide +kernel
theorem dX9_isRight_52 : decode cX9_isRight 52 = .ok (.aload_n 0, 1) := by decide +kernel
theorem dX9_isRight_53 : decode cX9_isRight 53 = .ok (.iconst 0, 1) := by decide +kernel
theorem dX9_isRight_54 : decode cX9_isRight 54 = .ok (.iconst (-1), 1) := by decide +kernel
theorem dX9_isRight_55 : decode cX9_isRight 55 = .ok (.iconst (-1), 1) := by decide +kernel
theorem dX9_isRight_56 : decode cX9_isRight 56 = .ok (.iconst (-1), 1) := by decide +kernel
theorem dX9_isRight_57 : decode cX9_isRight 57 = .ok (.iconst (-1), 1) := by decide +kernel
theorem dX9_isRight_58 : decode cX9_isRight 58 = .ok (.invokevirtual 78, 3) := by decide +kernel
theorem dX9_isRight_61 : decode cX9_isRight 61 = .ok (.istore_n 3, 1) := by decide +kernel
theorem dX9_isRight_62 : decode cX9_isRight 62 = .ok (.iload_n 2, 1) := by decide +kernel
theorem dX9_isRight_63 : decode cX9_isRight 63 = .ok (.ifCond .ne 7, 3) := by decide +kernel
theorem dX9_isRight_66 : decode cX9_isRight 66 = .ok (.iconst 1, 1) := by decide +kernel
theorem dX9_isRight_67 : decode cX9_isRight 67 = .ok (.goto 4, 3) := by decide +kernel
theorem dX9_isRight_70 : decode cX9_isRight 70 = .ok (.iconst 0, 1) := by decide +kernel
theorem dX9_isRight_71 : decode cX9_isRight 71 = .ok (.ireturn, 1) := by decide +kernel
set_option maxRecDepth 20000 in
theorem ggX9_fault_X9_noTable : GoodIn wsX9_fault wsX9_noTable := goodIn_r _ [6, 7, 8, 9, 5, 10] (by decide +kernel) (by decide +kernel)
set_option maxRecDepth 20000 in
theorem gX9_fault_X9_noTable : GoodIn wsX9_fault (va_wsS RX9 64 yX9_noTable wsX9_noTable) := goodIn_app (goodIn_of _ (by decide +kernel)) ggX9_fault_X9_noTable
set_option maxRecDepth 20000 in
theorem ggX9_fault_X9_in : GoodIn wsX9_fault wsX9_in := goodIn_r _ [10] (by decide +kernel) (by decide +kernel)
set_option maxRecDepth 20000 in
theorem gX9_fault_X9_in : GoodIn wsX9_fault (va_wsS RX9 60 yX9_in wsX9_in) := goodIn_app (goodIn_of _ (by decide +kernel)) ggX9_fault_X9_in
set_option maxRecDepth 20000 in
theorem ggX9_fault_X9_isRight : GoodIn wsX9_fault wsX9_isRight := goodIn_r _ [14, 15, 16, 17, 5, 18, 19, 20, 21, 22, 23, 24, 25, 26, 27, 28, 2, 29, 30, 31, 32, 33, 34, 35, 36, 37, 38, 39, 40, 41, 42, 43, 44, 45, 46, 47, 48, 49, 50, 51, 52, 53, 54, 55, 56] (by decide +kernel) (by decide +kernel)
set_option maxRecDepth 20000 in
theorem gX9_fault_X9_isRight : GoodIn wsX9_fault (wsV RX9 96 RX9 yX9_isRight wsX9_isRight) := goodIn_app (goodIn_of _ (by decide +kernel)) ggX9_fault_X9_isRight
theorem dX9_fault_0 : decode cX9_fault 0 = .ok (.iload_n 1, 1) := by decide +kernel
theorem dX9_fault_1 : decode cX9_fault 1 = .ok (.invokestatic 64, 3) := by decide +kernel
theorem dX9_fault_4 : decode cX9_fault 4 = .ok (.ifCond .ne 15, 3) := by decide +kernel
theorem dX9_fault_7 : decode cX9_fault 7 = .ok (.iload_n 2, 1) := by decide +kernel
theorem dX9_fault_8 : decode cX9_fault 8 = .ok (.i2l, 1) := by decide +kernel
theorem dX9_fault_9 : decode cX9_fault 9 = .ok (.lconst 0, 1) := by decide +kernel
theorem dX9_fault_10 : decode cX9_fault 10 = .ok (.ldc2_w 94, 3) := by decide +kernel
theorem dX9_fault_13 : decode cX9_fault 13 = .ok (.invokestatic 60, 3) := by decide +kernel
theorem dX9_fault_16 : decode cX9_fault 16 = .ok (.ifCond .ne 6, 3) := by decide +kernel
theorem dX9_fault_19 : decode cX9_fault 19 = .ok (.bipush (-2), 2) := by decide +kernel
theorem dX9_fault_21 : decode cX9_fault 21 = .ok (.ireturn, 1) := by decide +kernel
theorem dX9_fault_22 : decode cX9_fault 22 = .ok (.aload_n 0, 1) := by decide +kernel
theorem dX9_fault_23 : decode cX9_fault 23 = .ok (.iload_n 1, 1) := by decide +kernel
theorem dX9_fault_24 : decode cX9_fault 24 = .ok (.invokevirtual 96, 3) := by decide +kernel
theorem dX9_fault_27 : decode cX9_fault 27 = .ok (.istore_n 3, 1) := by decide +kernel
theorem dX9_fault_28 : decode cX9_fault 28 = .ok (.aload_n 0, 1) := by decide +kernel
theorem dX9_fault_29 : decode cX9_fault 29 = .ok (.getfield 16, 3) := by decide +kernel
theorem dX9_fault_32 : decode cX9_fault 32 = .ok (.iload_n 2, 1) := by decide +kernel
theorem dX9_fault_33 : decode cX9_fault 33 = .ok (.iaload, 1) := by decide +kernel
theorem dX9_fault_34 : decode cX9_fault 34 = .ok (.ireturn, 1) := by decide +kernel
set_option maxRecDepth 20000 in
theorem ggX9_partner_X9_noTable : GoodIn wsX9_partner wsX9_noTable := goodIn_r _ [5, 6, 7, 8, 4, 9] (by decide +kernel) (by decide +kernel)
set_option maxRecDepth 20000 in
theorem gX9_partner_X9_noTable : GoodIn wsX9_partner (va_wsS RX9 64 yX9_noTable wsX9_noTable) := goodIn_app (goodIn_of _ (by decide +kernel)) ggX9_partner_X9_noTable
set_option maxRecDepth 20000 in
theorem ggX9_partner_X9_isKind : GoodIn wsX9_partner wsX9_isKind := goodIn_r _ [13, 14, 7, 8, 4, 9, 45, 46, 47, 48, 49, 50, 51, 52, 53, 54, 55, 56, 57, 58, 59] (by decide +kernel) (by decide +kernel)
set_option maxRecDepth 20000 in
theorem gX9_partner_X9_isKind : GoodIn wsX9_partner (wsV RX9 68 RX9 yX9_isKind wsX9_isKind) := goodIn_app (goodIn_of _ (by decide +kernel)) ggX9_partner_X9_isKind
set_option maxRecDepth 20000 in
theorem ggX9_partner_X9_isRight : GoodIn wsX9_partner wsX9_isRight := goodIn_r _ [18, 19, 20, 21, 4, 22, 14, 23, 24, 25, 26, 27, 28, 29, 30, 31, 32, 33, 34, 35, 36, 1, 37, 38, 39, 40, 41, 42, 43, 44, 45, 46, 47, 48, 49, 50, 51, 52, 53, 54, 55, 56, 57, 58, 59] (by decide +kernel) (by decide +kernel)
set_option maxRecDepth 20000 in
theorem gX9_partner_X9_isRight : GoodIn wsX9_partner (wsV RX9 96 RX9 yX9_isRight wsX9_isRight) := goodIn_app (goodIn_of _ (by decide +kernel)) ggX9_partner_X9_isRight
theorem dX9_partner_0 : decode cX9_partner 0 = .ok (.iload_n 1, 1) := by decide +kernel
theorem dX9_partner_1 : decode cX9_partner 1 = .ok (.invokestatic 64, 3) := by decide +kernel
theorem dX9_partner_4 : decode cX9_partner 4 = .ok (.ifCond .ne 12, 3) := by decide +kernel
theorem dX9_partner_7 : decode cX9_partner 7 = .ok (.aload_n 0, 1) := by decide +kernel
theorem dX9_partner_8 : decode cX9_partner 8 = .ok (.iload_n 1, 1) := by decide +kernel
theorem dX9_partner_9 : decode cX9_partner 9 = .ok (.iload_n 2, 1) := by decide +kernel
theorem dX9_partner_10 : decode cX9_partner 10 = .ok (.invokevirtual 68, 3) := by decide +kernel
theorem dX9_partner_13 : decode cX9_partner 13 = .ok (.ifCond .ne 6, 3) := by decide +kernel
theorem dX9_partner_16 : decode cX9_partner 16 = .ok (.bipush (-2), 2) := by decide +kernel
theorem dX9_partner_18 : decode cX9_partner 18 = .ok (.ireturn, 1) := by decide +kernel
theorem dX9_partner_19 : decode cX9_partner 19 = .ok (.aload_n 0, 1) := by decide +kernel
theorem dX9_partner_20 : decode cX9_partner 20 = .ok (.iload_n 1, 1) := by decide +kernel
theorem dX9_partner_21 : decode cX9_partner 21 = .ok (.invokevirtual 96, 3) := by decide +kernel
theorem dX9_partner_24 : decode cX9_partner 24 = .ok (.ifCond .eq 12, 3) := by decide +kernel
theorem dX9_partner_27 : decode cX9_partner 27 = .ok (.aload_n 0, 1) := by decide +kernel
theorem dX9_partner_28 : decode cX9_partner 28 = .ok (.getfield 19, 3) := by decide +kernel
theorem dX9_partner_31 : decode cX9_partner 31 = .ok (.iload_n 2, 1) := by decide +kernel
theorem dX9_partner_32 : decode cX9_partner 32 = .ok (.iaload, 1) := by decide +kernel
theorem dX9_partner_33 : decode cX9_partner 33 = .ok (.goto 5, 3) := by decide +kernel
theorem dX9_partner_36 : decode cX9_partner 36 = .ok (.bipush (-3), 2) := by decide +kernel
theorem dX9_partner_38 : decode cX9_partner 38 = .ok (.ireturn, 1) := by decide +kernel
set_option maxRecDepth 20000 in
theorem ggX9_copy_X9_noTable : GoodIn wsX9_copy wsX9_noTable := goodIn_r _ [5, 6, 7, 8, 4, 9] (by decide +kernel) (by decide +kernel)
set_option maxRecDepth 20000 in
theorem gX9_copy_X9_noTable : GoodIn wsX9_copy (va_wsS RX9 64 yX9_noTable wsX9_noTable) := goodIn_app (goodIn_of _ (by decide +kernel)) ggX9_copy_X9_noTable
set_option maxRecDepth 20000 in
theorem ggX9_copy_X9_carry : GoodIn wsX9_copy wsX9_carry := goodIn_r _ [13, 1, 14, 15, 16, 17, 18, 19, 20, 21, 22, 23, 24, 25, 26, 27, 28, 29] (by decide +kernel) (by decide +kernel)
set_option maxRecDepth 20000 in
theorem gX9_copy_X9_carry : GoodIn wsX9_copy (wsV RX9 99 RX9 yX9_carry wsX9_carry) := goodIn_app (goodIn_of _ (by decide +kernel)) ggX9_copy_X9_carry
theorem dX9_copy_0 : decode cX9_copy 0 = .ok (.iload_n 1, 1) := by decide +kernel
theorem dX9_copy_1 : decode cX9_copy 1 = .ok (.invokestatic 64, 3) := by decide +kernel
theorem dX9_copy_4 : decode cX9_copy 4 = .ok (.ifCond .ne 10, 3) := by decide +kernel
theorem dX9_copy_7 : decode cX9_copy 7 = .ok (.iload_n 2, 1) := by decide +kernel
theorem dX9_copy_8 : decode cX9_copy 8 = .ok (.invokestatic 64, 3) := by decide +kernel
theorem dX9_copy_11 : decode cX9_copy 11 = .ok (.ifCond .eq 6, 3) := by decide +kernel
theorem dX9_copy_14 : decode cX9_copy 14 = .ok (.bipush (-2), 2) := by decide +kernel
theorem dX9_copy_16 : decode cX9_copy 16 = .ok (.ireturn, 1) := by decide +kernel
theorem dX9_copy_17 : decode cX9_copy 17 = .ok (.aload_n 0, 1) := by decide +kernel
theorem dX9_copy_18 : decode cX9_copy 18 = .ok (.iload_n 1, 1) := by decide +kernel
theorem dX9_copy_19 : decode cX9_copy 19 = .ok (.iload_n 2, 1) := by decide +kernel
theorem dX9_copy_20 : decode cX9_copy 20 = .ok (.invokevirtual 99, 3) := by decide +kernel
theorem dX9_copy_23 : decode cX9_copy 23 = .ok (.aload_n 0, 1) := by decide +kernel
theorem dX9_copy_24 : decode cX9_copy 24 = .ok (.getfield 7, 3) := by decide +kernel
theorem dX9_copy_27 : decode cX9_copy 27 = .ok (.iload_n 2, 1) := by decide +kernel
theorem dX9_copy_28 : decode cX9_copy 28 = .ok (.iaload, 1) := by decide +kernel
theorem dX9_copy_29 : decode cX9_copy 29 = .ok (.ireturn, 1) := by decide +kernel
set_option maxRecDepth 20000 in
theorem ggX9_layGroup_X9_lay : GoodIn wsX9_layGroup wsX9_lay := goodIn_r _ [5, 6, 7, 8, 9, 10, 11, 12, 13, 14, 15, 16, 17, 18, 19, 20, 21] (by decide +kernel) (by decide +kernel)
set_option maxRecDepth 20000 in
theorem gX9_layGroup_X9_lay : GoodIn wsX9_layGroup (wsV RX9 54 RX9 yX9_lay wsX9_lay) := goodIn_app (goodIn_of _ (by decide +kernel)) ggX9_layGroup_X9_lay
theorem dX9_layGroup_0 : decode cX9_layGroup 0 = .ok (.iconst 0, 1) := by decide +kernel
theorem dX9_layGroup_1 : decode cX9_layGroup 1 = .ok (.istore_n 3, 1) := by decide +kernel
theorem dX9_layGroup_2 : decode cX9_layGroup 2 = .ok (.iload_n 3, 1) := by decide +kernel
theorem dX9_layGroup_3 : decode cX9_layGroup 3 = .ok (.iload_n 2, 1) := by decide +kernel
theorem dX9_layGroup_4 : decode cX9_layGroup 4 = .ok (.if_icmp .ge 54, 3) := by decide +kernel
theorem dX9_layGroup_7 : decode cX9_layGroup 7 = .ok (.iconst 0, 1) := by decide +kernel
theorem dX9_layGroup_8 : decode cX9_layGroup 8 = .ok (.istore 4, 2) := by decide +kernel
theorem dX9_layGroup_10 : decode cX9_layGroup 10 = .ok (.iload 4, 2) := by decide +kernel
theorem dX9_layGroup_12 : decode cX9_layGroup 12 = .ok (.iload_n 2, 1) := by decide +kernel
theorem dX9_layGroup_13 : decode cX9_layGroup 13 = .ok (.if_icmp .ge 39, 3) := by decide +kernel
theorem dX9_layGroup_16 : decode cX9_layGroup 16 = .ok (.aload_n 0, 1) := by decide +kernel
theorem dX9_layGroup_17 : decode cX9_layGroup 17 = .ok (.iload_n 1, 1) := by decide +kernel
theorem dX9_layGroup_18 : decode cX9_layGroup 18 = .ok (.iload_n 3, 1) := by decide +kernel
theorem dX9_layGroup_19 : decode cX9_layGroup 19 = .ok (.iload 4, 2) := by decide +kernel
theorem dX9_layGroup_21 : decode cX9_layGroup 21 = .ok (.iload_n 3, 1) := by decide +kernel
theorem dX9_layGroup_22 : decode cX9_layGroup 22 = .ok (.iload 4, 2) := by decide +kernel
theorem dX9_layGroup_24 : decode cX9_layGroup 24 = .ok (.iadd, 1) := by decide +kernel
theorem dX9_layGroup_25 : decode cX9_layGroup 25 = .ok (.iload_n 2, 1) := by decide +kernel
theorem dX9_layGroup_26 : decode cX9_layGroup 26 = .ok (.if_icmp .lt 12, 3) := by decide +kernel
theorem dX9_layGroup_29 : decode cX9_layGroup 29 = .ok (.iload_n 3, 1) := by decide +kernel
theorem dX9_layGroup_30 : decode cX9_layGroup 30 = .ok (.iload 4, 2) := by decide +kernel
theorem dX9_layGroup_32 : decode cX9_layGroup 32 = .ok (.iadd, 1) := by decide +kernel
theorem dX9_layGroup_33 : decode cX9_layGroup 33 = .ok (.iload_n 2, 1) := by decide +kernel
theorem dX9_layGroup_34 : decode cX9_layGroup 34 = .ok (.isub, 1) := by decide +kernel
theorem dX9_layGroup_35 : decode cX9_layGroup 35 = .ok (.goto 7, 3) := by decide +kernel
theorem dX9_layGroup_38 : decode cX9_layGroup 38 = .ok (.iload_n 3, 1) := by decide +kernel
theorem dX9_layGroup_39 : decode cX9_layGroup 39 = .ok (.iload 4, 2) := by decide +kernel
theorem dX9_layGroup_41 : decode cX9_layGroup 41 = .ok (.iadd, 1) := by decide +kernel
theorem dX9_layGroup_42 : decode cX9_layGroup 42 = .ok (.iconst 1, 1) := by decide +kernel
theorem dX9_layGroup_43 : decode cX9_layGroup 43 = .ok (.invokevirtual 54, 3) := by decide +kernel
theorem dX9_layGroup_46 : decode cX9_layGroup 46 = .ok (.iinc 4 1, 3) := by decide +kernel
theorem dX9_layGroup_49 : decode cX9_layGroup 49 = .ok (.goto (-39), 3) := by decide +kernel
theorem dX9_layGroup_52 : decode cX9_layGroup 52 = .ok (.iinc 3 1, 3) := by decide +kernel
theorem dX9_layGroup_55 : decode cX9_layGroup 55 = .ok (.goto (-53), 3) := by decide +kernel
theorem dX9_layGroup_58 : decode cX9_layGroup 58 = .ok (.return_, 1) := by decide +kernel
set_option maxRecDepth 20000 in
theorem ggX9_group_X9_noTable : GoodIn wsX9_group wsX9_noTable := goodIn_r _ [5, 1, 6, 7, 4, 8] (by decide +kernel) (by decide +kernel)
set_option maxRecDepth 20000 in
theorem gX9_group_X9_noTable : GoodIn wsX9_group (va_wsS RX9 64 yX9_noTable wsX9_noTable) := goodIn_app (goodIn_of _ (by decide +kernel)) ggX9_group_X9_noTable
set_option maxRecDepth 20000 in
theorem ggX9_group_X9_in : GoodIn wsX9_group wsX9_in := goodIn_r _ [8] (by decide +kernel) (by decide +kernel)
set_option maxRecDepth 20000 in
theorem gX9_group_X9_in : GoodIn wsX9_group (va_wsS RX9 60 yX9_in wsX9_in) := goodIn_app (goodIn_of _ (by decide +kernel)) ggX9_group_X9_in
set_option maxRecDepth 20000 in
theorem ggX9_group_X9_begin : GoodIn wsX9_group wsX9_begin := goodIn_r _ [12, 13, 14, 15, 16, 17, 4, 18, 23, 24, 25, 26, 27, 28, 29, 30, 31, 32, 33, 34, 35, 36, 37] (by decide +kernel) (by decide +kernel)
set_option maxRecDepth 20000 in
theorem gX9_group_X9_begin : GoodIn wsX9_group (wsV RX9 50 RX9 yX9_begin wsX9_begin) := goodIn_app (goodIn_of _ (by decide +kernel)) ggX9_group_X9_begin
set_option maxRecDepth 20000 in
theorem ggX9_group_X9_layGroup : GoodIn wsX9_group wsX9_layGroup := goodIn_r _ [22, 15, 16, 17, 4, 18, 14, 23, 24, 25, 26, 27, 28, 29, 30, 31, 32, 33, 34, 35, 36, 37] (by decide +kernel) (by decide +kernel)
set_option maxRecDepth 20000 in
theorem gX9_group_X9_layGroup : GoodIn wsX9_group (wsV RX9 102 RX9 yX9_layGroup wsX9_layGroup) := goodIn_app (goodIn_of _ (by decide +kernel)) ggX9_group_X9_layGroup
theorem dX9_group_0 : decode cX9_group 0 = .ok (.iload_n 1, 1) := by decide +kernel
theorem dX9_group_1 : decode cX9_group 1 = .ok (.invokestatic 64, 3) := by decide +kernel
theorem dX9_group_4 : decode cX9_group 4 = .ok (.ifCond .ne 15, 3) := by decide +kernel
theorem dX9_group_7 : decode cX9_group 7 = .ok (.iload_n 2, 1) := by decide +kernel
theorem dX9_group_8 : decode cX9_group 8 = .ok (.i2l, 1) := by decide +kernel
theorem dX9_group_9 : decode cX9_group 9 = .ok (.lconst 1, 1) := by decide +kernel
theorem dX9_group_10 : decode cX9_group 10 = .ok (.ldc2_w 58, 3) := by decide +kernel
theorem dX9_group_13 : decode cX9_group 13 = .ok (.invokestatic 60, 3) := by decide +kernel
theorem dX9_group_16 : decode cX9_group 16 = .ok (.ifCond .ne 6, 3) := by decide +kernel
theorem dX9_group_19 : decode cX9_group 19 = .ok (.bipush (-2), 2) := by decide +kernel
theorem dX9_group_21 : decode cX9_group 21 = .ok (.ireturn, 1) := by decide +kernel
theorem dX9_group_22 : decode cX9_group 22 = .ok (.aload_n 0, 1) := by decide +kernel
theorem dX9_group_23 : decode cX9_group 23 = .ok (.iload_n 1, 1) := by decide +kernel
theorem dX9_group_24 : decode cX9_group 24 = .ok (.iload_n 2, 1) := by decide +kernel
theorem dX9_group_25 : decode cX9_group 25 = .ok (.invokevirtual 50, 3) := by decide +kernel
theorem dX9_group_28 : decode cX9_group 28 = .ok (.aload_n 0, 1) := by decide +kernel
theorem dX9_group_29 : decode cX9_group 29 = .ok (.iload_n 1, 1) := by decide +kernel
theorem dX9_group_30 : decode cX9_group 30 = .ok (.iload_n 2, 1) := by decide +kernel
theorem dX9_group_31 : decode cX9_group 31 = .ok (.invokevirtual 102, 3) := by decide +kernel
theorem dX9_group_34 : decode cX9_group 34 = .ok (.iconst 1, 1) := by decide +kernel
theorem dX9_group_35 : decode cX9_group 35 = .ok (.ireturn, 1) := by decide +kernel
set_option maxRecDepth 20000 in
theorem ggX9_near_X9_noTable : GoodIn wsX9_near wsX9_noTable := goodIn_r _ [6, 7, 8, 9, 5, 10] (by decide +kernel) (by decide +kernel)
set_option maxRecDepth 20000 in
theorem gX9_near_X9_noTable : GoodIn wsX9_near (va_wsS RX9 64 yX9_noTable wsX9_noTable) := goodIn_app (goodIn_of _ (by decide +kernel)) ggX9_near_X9_noTable
set_option maxRecDepth 20000 in
theorem ggX9_near_X9_in : GoodIn wsX9_near wsX9_in := goodIn_r _ [10] (by decide +kernel) (by decide +kernel)
set_option maxRecDepth 20000 in
theorem gX9_near_X9_in : GoodIn wsX9_near (va_wsS RX9 60 yX9_in wsX9_in) := goodIn_app (goodIn_of _ (by decide +kernel)) ggX9_near_X9_in
set_option maxRecDepth 20000 in
theorem ggX9_near_X9_begin : GoodIn wsX9_near wsX9_begin := goodIn_r _ [14, 15, 16, 17, 18, 19, 5, 20, 25, 26, 27, 28, 29, 30, 31, 32, 33, 34, 35, 36, 37, 38, 39] (by decide +kernel) (by decide +kernel)
set_option maxRecDepth 20000 in
theorem gX9_near_X9_begin : GoodIn wsX9_near (wsV RX9 50 RX9 yX9_begin wsX9_begin) := goodIn_app (goodIn_of _ (by decide +kernel)) ggX9_near_X9_begin
set_option maxRecDepth 20000 in
theorem ggX9_near_X9_layGroup : GoodIn wsX9_near wsX9_layGroup := goodIn_r _ [24, 17, 18, 19, 5, 20, 16, 25, 26, 27, 28, 29, 30, 31, 32, 33, 34, 35, 36, 37, 38, 39] (by decide +kernel) (by decide +kernel)
set_option maxRecDepth 20000 in
theorem gX9_near_X9_layGroup : GoodIn wsX9_near (wsV RX9 102 RX9 yX9_layGroup wsX9_layGroup) := goodIn_app (goodIn_of _ (by decide +kernel)) ggX9_near_X9_layGroup
set_option maxRecDepth 20000 in
theorem ggX9_near_X9_lay : GoodIn wsX9_near wsX9_lay := goodIn_r _ [20, 16, 25, 26, 27, 28, 29, 30, 31, 32, 33, 34, 35, 36, 37, 38, 39] (by decide +kernel) (by decide +kernel)
set_option maxRecDepth 20000 in
theorem gX9_near_X9_lay : GoodIn wsX9_near (wsV RX9 54 RX9 yX9_lay wsX9_lay) := goodIn_app (goodIn_of _ (by decide +kernel)) ggX9_near_X9_lay
theorem dX9_near_0 : decode cX9_near 0 = .ok (.iload_n 1, 1) := by decide +kernel
theorem dX9_near_1 : decode cX9_near 1 = .ok (.invokestatic 64, 3) := by decide +kernel
theorem dX9_near_4 : decode cX9_near 4 = .ok (.ifCond .ne 27, 3) := by decide +kernel
theorem dX9_near_7 : decode cX9_near 7 = .ok (.iload_n 2, 1) := by decide +kernel
theorem dX9_near_8 : decode cX9_near 8 = .ok (.i2l, 1) := by decide +kernel
theorem dX9_near_9 : decode cX9_near 9 = .ok (.lconst 1, 1) := by decide +kernel
theorem dX9_near_10 : decode cX9_near 10 = .ok (.ldc2_w 94, 3) := by decide +kernel
theorem dX9_near_13 : decode cX9_near 13 = .ok (.invokestatic 60, 3) := by decide +kernel
theorem dX9_near_16 : decode cX9_near 16 = .ok (.ifCond .eq 15, 3) := by decide +kernel
theorem dX9_near_19 : decode cX9_near 19 = .ok (.iload_n 3, 1) := by decide +kernel
theorem dX9_near_20 : decode cX9_near 20 = .ok (.i2l, 1) := by decide +kernel
theorem dX9_near_21 : decode cX9_near 21 = .ok (.lconst 0, 1) := by decide +kernel
theorem dX9_near_22 : decode cX9_near 22 = .ok (.ldc2_w 72, 3) := by decide +kernel
theorem dX9_near_25 : decode cX9_near 25 = .ok (.invokestatic 60, 3) := by decide +kernel
theorem dX9_near_28 : decode cX9_near 28 = .ok (.ifCond .ne 6, 3) := by decide +kernel
theorem dX9_near_31 : decode cX9_near 31 = .ok (.bipush (-2), 2) := by decide +kernel
theorem dX9_near_33 : decode cX9_near 33 = .ok (.ireturn, 1) := by decide +kernel
theorem dX9_near_34 : decode cX9_near 34 = .ok (.aload_n 0, 1) := by decide +kernel
theorem dX9_near_35 : decode cX9_near 35 = .ok (.iload_n 1, 1) := by decide +kernel
theorem dX9_near_36 : decode cX9_near 36 = .ok (.iload_n 2, 1) := by decide +kernel
theorem dX9_near_37 : decode cX9_near 37 = .ok (.iconst 1, 1) := by decide +kernel
theorem dX9_near_38 : decode cX9_near 38 = .ok (.iadd, 1) := by decide +kernel
theorem dX9_near_39 : decode cX9_near 39 = .ok (.invokevirtual 50, 3) := by decide +kernel
theorem dX9_near_42 : decode cX9_near 42 = .ok (.aload_n 0, 1) := by decide +kernel
theorem dX9_near_43 : decode cX9_near 43 = .ok (.iload_n 1, 1) := by decide +kernel
theorem dX9_near_44 : decode cX9_near 44 = .ok (.iload_n 2, 1) := by decide +kernel
theorem dX9_near_45 : decode cX9_near 45 = .ok (.invokevirtual 102, 3) := by decide +kernel
theorem dX9_near_48 : decode cX9_near 48 = .ok (.iconst 0, 1) := by decide +kernel
theorem dX9_near_49 : decode cX9_near 49 = .ok (.istore 4, 2) := by decide +kernel
theorem dX9_near_51 : decode cX9_near 51 = .ok (.iload 4, 2) := by decide +kernel
theorem dX9_near_53 : decode cX9_near 53 = .ok (.iload_n 2, 1) := by decide +kernel
theorem dX9_near_54 : decode cX9_near 54 = .ok (.if_icmp .ge 39, 3) := by decide +kernel
theorem dX9_near_57 : decode cX9_near 57 = .ok (.aload_n 0, 1) := by decide +kernel
theorem dX9_near_58 : decode cX9_near 58 = .ok (.iload_n 1, 1) := by decide +kernel
theorem dX9_near_59 : decode cX9_near 59 = .ok (.iload 4, 2) := by decide +kernel
theorem dX9_near_61 : decode cX9_near 61 = .ok (.iload_n 2, 1) := by decide +kernel
theorem dX9_near_62 : decode cX9_near 62 = .ok (.iload_n 2, 1) := by decide +kernel
theorem dX9_near_63 : decode cX9_near 63 = .ok (.iconst 1, 1) := by decide +kernel
theorem dX9_near_64 : decode cX9_near 64 = .ok (.invokevirtual 54, 3) := by decide +kernel
theorem dX9_near_67 : decode cX9_near 67 = .ok (.aload_n 0, 1) := by decide +kernel
theorem dX9_near_68 : decode cX9_near 68 = .ok (.iload_n 1, 1) := by decide +kernel
theorem dX9_near_69 : decode cX9_near 69 = .ok (.iload_n 2, 1) := by decide +kernel
theorem dX9_near_70 : decode cX9_near 70 = .ok (.iload 4, 2) := by decide +kernel
theorem dX9_near_72 : decode cX9_near 72 = .ok (.iload_n 2, 1) := by decide +kernel
theorem dX9_near_73 : decode cX9_near 73 = .ok (.iconst 1, 1) := by decide +kernel
theorem dX9_near_74 : decode cX9_near 74 = .ok (.invokevirtual 54, 3) := by decide +kernel
theorem dX9_near_77 : decode cX9_near 77 = .ok (.aload_n 0, 1) := by decide +kernel
theorem dX9_near_78 : decode cX9_near 78 = .ok (.iload_n 1, 1) := by decide +kernel
theorem dX9_near_79 : decode cX9_near 79 = .ok (.iload_n 2, 1) := by decide +kernel
theorem dX9_near_80 : decode cX9_near 80 = .ok (.iload_n 2, 1) := by decide +kernel
theorem dX9_near_81 : decode cX9_near 81 = .ok (.iload 4, 2) := by decide +kernel
theorem dX9_near_83 : decode cX9_near 83 = .ok (.iconst 1, 1) := by decide +kernel
theorem dX9_near_84 : decode cX9_near 84 = .ok (.invokevirtual 54, 3) := by decide +kernel
theorem dX9_near_87 : decode cX9_near 87 = .ok (.iinc 4 1, 3) := by decide +kernel
theorem dX9_near_90 : decode cX9_near 90 = .ok (.goto (-39), 3) := by decide +kernel
theorem dX9_near_93 : decode cX9_near 93 = .ok (.aload_n 0, 1) := by decide +kernel
theorem dX9_near_94 : decode cX9_near 94 = .ok (.iload_n 1, 1) := by decide +kernel
theorem dX9_near_95 : decode cX9_near 95 = .ok (.iload_n 2, 1) := by decide +kernel
theorem dX9_near_96 : decode cX9_near 96 = .ok (.iload_n 2, 1) := by decide +kernel
theorem dX9_near_97 : decode cX9_near 97 = .ok (.iload_n 2, 1) := by decide +kernel
theorem dX9_near_98 : decode cX9_near 98 = .ok (.iload_n 3, 1) := by decide +kernel
theorem dX9_near_99 : decode cX9_near 99 = .ok (.invokevirtual 54, 3) := by decide +kernel
theorem dX9_near_102 : decode cX9_near 102 = .ok (.iconst 1, 1) := by decide +kernel
theorem dX9_near_103 : decode cX9_near 103 = .ok (.ireturn, 1) := by decide +kernel
set_option maxRecDepth 20000 in
theorem ggX9_together_X9_noTable : GoodIn wsX9_together wsX9_noTable := goodIn_r _ [5, 6, 7, 8, 4, 9] (by decide +kernel) (by decide +kernel)
set_option maxRecDepth 20000 in
theorem gX9_together_X9_noTable : GoodIn wsX9_together (va_wsS RX9 64 yX9_noTable wsX9_noTable) := goodIn_app (goodIn_of _ (by decide +kernel)) ggX9_together_X9_noTable
set_option maxRecDepth 20000 in
theorem ggX9_together_X9_begin : GoodIn wsX9_together wsX9_begin := goodIn_r _ [13, 1, 14, 15, 16, 17, 4, 18, 27, 28, 29, 30, 31, 32, 33, 34, 35, 36, 37, 38, 39, 40, 41] (by decide +kernel) (by decide +kernel)
set_option maxRecDepth 20000 in
theorem gX9_together_X9_begin : GoodIn wsX9_together (wsV RX9 50 RX9 yX9_begin wsX9_begin) := goodIn_app (goodIn_of _ (by decide +kernel)) ggX9_together_X9_begin
set_option maxRecDepth 20000 in
theorem ggX9_together_X9_n : GoodIn wsX9_together wsX9_n := goodIn_r _ [22, 14, 27, 28, 29, 30, 31, 32, 33, 34, 35, 36, 37, 38, 39, 40, 41] (by decide +kernel) (by decide +kernel)
set_option maxRecDepth 20000 in
theorem gX9_together_X9_n : GoodIn wsX9_together (wsV RX9 74 RX9 yX9_n wsX9_n) := goodIn_app (goodIn_of _ (by decide +kernel)) ggX9_together_X9_n
set_option maxRecDepth 20000 in
theorem ggX9_together_X9_lay : GoodIn wsX9_together wsX9_lay := goodIn_r _ [18, 14, 27, 28, 29, 30, 31, 32, 33, 34, 35, 36, 37, 38, 39, 40, 41] (by decide +kernel) (by decide +kernel)
set_option maxRecDepth 20000 in
theorem gX9_together_X9_lay : GoodIn wsX9_together (wsV RX9 54 RX9 yX9_lay wsX9_lay) := goodIn_app (goodIn_of _ (by decide +kernel)) ggX9_together_X9_lay
set_option maxRecDepth 20000 in
theorem ggX9_together_X9_carry : GoodIn wsX9_together wsX9_carry := goodIn_r _ [26, 1, 14, 27, 28, 29, 30, 31, 32, 33, 34, 35, 36, 37, 38, 39, 40, 41] (by decide +kernel) (by decide +kernel)
set_option maxRecDepth 20000 in
theorem gX9_together_X9_carry : GoodIn wsX9_together (wsV RX9 99 RX9 yX9_carry wsX9_carry) := goodIn_app (goodIn_of _ (by decide +kernel)) ggX9_together_X9_carry
theorem dX9_together_0 : decode cX9_together 0 = .ok (.iload_n 1, 1) := by decide +kernel
theorem dX9_together_1 : decode cX9_together 1 = .ok (.invokestatic 64, 3) := by decide +kernel
theorem dX9_together_4 : decode cX9_together 4 = .ok (.ifCond .ne 17, 3) := by decide +kernel
theorem dX9_together_7 : decode cX9_together 7 = .ok (.iload_n 2, 1) := by decide +kernel
theorem dX9_together_8 : decode cX9_together 8 = .ok (.invokestatic 64, 3) := by decide +kernel
theorem dX9_together_11 : decode cX9_together 11 = .ok (.ifCond .ne 10, 3) := by decide +kernel
theorem dX9_together_14 : decode cX9_together 14 = .ok (.iload_n 3, 1) := by decide +kernel
theorem dX9_together_15 : decode cX9_together 15 = .ok (.invokestatic 64, 3) := by decide +kernel
theorem dX9_together_18 : decode cX9_together 18 = .ok (.ifCond .eq 6, 3) := by decide +kernel
theorem dX9_together_21 : decode cX9_together 21 = .ok (.bipush (-2), 2) := by decide +kernel
theorem dX9_together_23 : decode cX9_together 23 = .ok (.ireturn, 1) := by decide +kernel
theorem dX9_together_24 : decode cX9_together 24 = .ok (.aload_n 0, 1) := by decide +kernel
theorem dX9_together_25 : decode cX9_together 25 = .ok (.getfield 7, 3) := by decide +kernel
theorem dX9_together_28 : decode cX9_together 28 = .ok (.iload_n 1, 1) := by decide +kernel
theorem dX9_together_29 : decode cX9_together 29 = .ok (.iaload, 1) := by decide +kernel
theorem dX9_together_30 : decode cX9_together 30 = .ok (.istore 4, 2) := by decide +kernel
theorem dX9_together_32 : decode cX9_together 32 = .ok (.aload_n 0, 1) := by decide +kernel
theorem dX9_together_33 : decode cX9_together 33 = .ok (.getfield 7, 3) := by decide +kernel
theorem dX9_together_36 : decode cX9_together 36 = .ok (.iload_n 2, 1) := by decide +kernel
theorem dX9_together_37 : decode cX9_together 37 = .ok (.iaload, 1) := by decide +kernel
theorem dX9_together_38 : decode cX9_together 38 = .ok (.istore 5, 2) := by decide +kernel
theorem dX9_together_40 : decode cX9_together 40 = .ok (.iload 4, 2) := by decide +kernel
theorem dX9_together_42 : decode cX9_together 42 = .ok (.iload 5, 2) := by decide +kernel
theorem dX9_together_44 : decode cX9_together 44 = .ok (.imul, 1) := by decide +kernel
theorem dX9_together_45 : decode cX9_together 45 = .ok (.iconst 5, 1) := by decide +kernel
theorem dX9_together_46 : decode cX9_together 46 = .ok (.if_icmp .le 6, 3) := by decide +kernel
theorem dX9_together_49 : decode cX9_together 49 = .ok (.bipush (-3), 2) := by decide +kernel
theorem dX9_together_51 : decode cX9_together 51 = .ok (.ireturn, 1) := by decide +kernel
theorem dX9_together_52 : decode cX9_together 52 = .ok (.aload_n 0, 1) := by decide +kernel
theorem dX9_together_53 : decode cX9_together 53 = .ok (.bipush 6, 2) := by decide +kernel
theorem dX9_together_55 : decode cX9_together 55 = .ok (.iload 4, 2) := by decide +kernel
theorem dX9_together_57 : decode cX9_together 57 = .ok (.iload 5, 2) := by decide +kernel
theorem dX9_together_59 : decode cX9_together 59 = .ok (.imul, 1) := by decide +kernel
theorem dX9_together_60 : decode cX9_together 60 = .ok (.invokevirtual 50, 3) := by decide +kernel
theorem dX9_together_63 : decode cX9_together 63 = .ok (.iconst 0, 1) := by decide +kernel
theorem dX9_together_64 : decode cX9_together 64 = .ok (.istore 6, 2) := by decide +kernel
theorem dX9_together_66 : decode cX9_together 66 = .ok (.iload 6, 2) := by decide +kernel
theorem dX9_together_68 : decode cX9_together 68 = .ok (.iload 4, 2) := by decide +kernel
theorem dX9_together_70 : decode cX9_together 70 = .ok (.iload 5, 2) := by decide +kernel
theorem dX9_together_72 : decode cX9_together 72 = .ok (.imul, 1) := by decide +kernel
theorem dX9_together_73 : decode cX9_together 73 = .ok (.if_icmp .ge 114, 3) := by decide +kernel
theorem dX9_together_76 : decode cX9_together 76 = .ok (.iconst 0, 1) := by decide +kernel
theorem dX9_together_77 : decode cX9_together 77 = .ok (.istore 7, 2) := by decide +kernel
theorem dX9_together_79 : decode cX9_together 79 = .ok (.iload 7, 2) := by decide +kernel
theorem dX9_together_81 : decode cX9_together 81 = .ok (.iload 4, 2) := by decide +kernel
theorem dX9_together_83 : decode cX9_together 83 = .ok (.iload 5, 2) := by decide +kernel
theorem dX9_together_85 : decode cX9_together 85 = .ok (.imul, 1) := by decide +kernel
theorem dX9_together_86 : decode cX9_together 86 = .ok (.if_icmp .ge 95, 3) := by decide +kernel
theorem dX9_together_89 : decode cX9_together 89 = .ok (.iconst 0, 1) := by decide +kernel
theorem dX9_together_90 : decode cX9_together 90 = .ok (.istore 8, 2) := by decide +kernel
theorem dX9_together_92 : decode cX9_together 92 = .ok (.iload 8, 2) := by decide +kernel
theorem dX9_together_94 : decode cX9_together 94 = .ok (.iload 4, 2) := by decide +kernel
theorem dX9_together_96 : decode cX9_together 96 = .ok (.iload 5, 2) := by decide +kernel
theorem dX9_together_98 : decode cX9_together 98 = .ok (.imul, 1) := by decide +kernel
theorem dX9_together_99 : decode cX9_together 99 = .ok (.if_icmp .ge 76, 3) := by decide +kernel
theorem dX9_together_102 : decode cX9_together 102 = .ok (.aload_n 0, 1) := by decide +kernel
theorem dX9_together_103 : decode cX9_together 103 = .ok (.iload_n 1, 1) := by decide +kernel
theorem dX9_together_104 : decode cX9_together 104 = .ok (.iload 6, 2) := by decide +kernel
theorem dX9_together_106 : decode cX9_together 106 = .ok (.iload 5, 2) := by decide +kernel
theorem dX9_together_108 : decode cX9_together 108 = .ok (.idiv, 1) := by decide +kernel
theorem dX9_together_109 : decode cX9_together 109 = .ok (.iload 7, 2) := by decide +kernel
theorem dX9_together_111 : decode cX9_together 111 = .ok (.iload 5, 2) := by decide +kernel
theorem dX9_together_113 : decode cX9_together 113 = .ok (.idiv, 1) := by decide +kernel
theorem dX9_together_114 : decode cX9_together 114 = .ok (.iload 8, 2) := by decide +kernel
theorem dX9_together_116 : decode cX9_together 116 = .ok (.iload 5, 2) := by decide +kernel
theorem dX9_together_118 : decode cX9_together 118 = .ok (.idiv, 1) := by decide +kernel
theorem dX9_together_119 : decode cX9_together 119 = .ok (.invokevirtual 74, 3) := by decide +kernel
theorem dX9_together_122 : decode cX9_together 122 = .ok (.aload_n 0, 1) := by decide +kernel
theorem dX9_together_123 : decode cX9_together 123 = .ok (.iload_n 2, 1) := by decide +kernel
theorem dX9_together_124 : decode cX9_together 124 = .ok (.iload 6, 2) := by decide +kernel
theorem dX9_together_126 : decode cX9_together 126 = .ok (.iload 5, 2) := by decide +kernel
theorem dX9_together_128 : decode cX9_together 128 = .ok (.irem, 1) := by decide +kernel
theorem dX9_together_129 : decode cX9_together 129 = .ok (.iload 7, 2) := by decide +kernel
theorem dX9_together_131 : decode cX9_together 131 = .ok (.iload 5, 2) := by decide +kernel
theorem dX9_together_133 : decode cX9_together 133 = .ok (.irem, 1) := by decide +kernel
theorem dX9_together_134 : decode cX9_together 134 = .ok (.iload 8, 2) := by decide +kernel
theorem dX9_together_136 : decode cX9_together 136 = .ok (.iload 5, 2) := by decide +kernel
theorem dX9_together_138 : decode cX9_together 138 = .ok (.irem, 1) := by decide +kernel
theorem dX9_together_139 : decode cX9_together 139 = .ok (.invokevirtual 74, 3) := by decide +kernel
theorem dX9_together_142 : decode cX9_together 142 = .ok (.imul, 1) := by decide +kernel
theorem dX9_together_143 : decode cX9_together 143 = .ok (.istore 9, 2) := by decide +kernel
theorem dX9_together_145 : decode cX9_together 145 = .ok (.iload 9, 2) := by decide +kernel
theorem dX9_together_147 : decode cX9_together 147 = .ok (.bipush 9, 2) := by decide +kernel
theorem dX9_together_149 : decode cX9_together 149 = .ok (.if_icmp .le 6, 3) := by decide +kernel
theorem dX9_together_152 : decode cX9_together 152 = .ok (.bipush (-3), 2) := by decide +kernel
theorem dX9_together_154 : decode cX9_together 154 = .ok (.ireturn, 1) := by decide +kernel
theorem dX9_together_155 : decode cX9_together 155 = .ok (.aload_n 0, 1) := by decide +kernel
theorem dX9_together_156 : decode cX9_together 156 = .ok (.bipush 6, 2) := by decide +kernel
theorem dX9_together_158 : decode cX9_together 158 = .ok (.iload 6, 2) := by decide +kernel
theorem dX9_together_160 : decode cX9_together 160 = .ok (.iload 7, 2) := by decide +kernel
theorem dX9_together_162 : decode cX9_together 162 = .ok (.iload 8, 2) := by decide +kernel
theorem dX9_together_164 : decode cX9_together 164 = .ok (.iload 9, 2) := by decide +kernel
theorem dX9_together_166 : decode cX9_together 166 = .ok (.invokevirtual 54, 3) := by decide +kernel
theorem dX9_together_169 : decode cX9_together 169 = .ok (.iinc 8 1, 3) := by decide +kernel
theorem dX9_together_172 : decode cX9_together 172 = .ok (.goto (-80), 3) := by decide +kernel
theorem dX9_together_175 : decode cX9_together 175 = .ok (.iinc 7 1, 3) := by decide +kernel
theorem dX9_together_178 : decode cX9_together 178 = .ok (.goto (-99), 3) := by decide +kernel
theorem dX9_together_181 : decode cX9_together 181 = .ok (.iinc 6 1, 3) := by decide +kernel
theorem dX9_together_184 : decode cX9_together 184 = .ok (.goto (-118), 3) := by decide +kernel
theorem dX9_together_187 : decode cX9_together 187 = .ok (.aload_n 0, 1) := by decide +kernel
theorem dX9_together_188 : decode cX9_together 188 = .ok (.bipush 6, 2) := by decide +kernel
theorem dX9_together_190 : decode cX9_together 190 = .ok (.iload_n 3, 1) := by decide +kernel
theorem dX9_together_191 : decode cX9_together 191 = .ok (.invokevirtual 99, 3) := by decide +kernel
theorem dX9_together_194 : decode cX9_together 194 = .ok (.iload 4, 2) := by decide +kernel
theorem dX9_together_196 : decode cX9_together 196 = .ok (.iload 5, 2) := by decide +kernel
theorem dX9_together_198 : decode cX9_together 198 = .ok (.imul, 1) := by decide +kernel
theorem dX9_together_199 : decode cX9_together 199 = .ok (.ireturn, 1) := by decide +kernel
theorem dX9_mate_0 : decode cX9_mate 0 = .ok (.iload_n 1, 1) := by decide +kernel
theorem dX9_mate_1 : decode cX9_mate 1 = .ok (.iconst 1, 1) := by decide +kernel
theorem dX9_mate_2 : decode cX9_mate 2 = .ok (.if_icmp .ne 19, 3) := by decide +kernel
theorem dX9_mate_5 : decode cX9_mate 5 = .ok (.iload_n 0, 1) := by decide +kernel
theorem dX9_mate_6 : decode cX9_mate 6 = .ok (.iconst 1, 1) := by decide +kernel
theorem dX9_mate_7 : decode cX9_mate 7 = .ok (.if_icmp .eq 8, 3) := by decide +kernel
theorem dX9_mate_10 : decode cX9_mate 10 = .ok (.iload_n 0, 1) := by decide +kernel
theorem dX9_mate_11 : decode cX9_mate 11 = .ok (.iconst 2, 1) := by decide +kernel
theorem dX9_mate_12 : decode cX9_mate 12 = .ok (.if_icmp .ne 9, 3) := by decide +kernel
theorem dX9_mate_15 : decode cX9_mate 15 = .ok (.iconst 3, 1) := by decide +kernel
theorem dX9_mate_16 : decode cX9_mate 16 = .ok (.iload_n 0, 1) := by decide +kernel
theorem dX9_mate_17 : decode cX9_mate 17 = .ok (.isub, 1) := by decide +kernel
theorem dX9_mate_18 : decode cX9_mate 18 = .ok (.goto 4, 3) := by decide +kernel
theorem dX9_mate_21 : decode cX9_mate 21 = .ok (.iload_n 0, 1) := by decide +kernel
theorem dX9_mate_22 : decode cX9_mate 22 = .ok (.ireturn, 1) := by decide +kernel
theorem dX9_placeOf_0 : decode cX9_placeOf 0 = .ok (.bipush 25, 2) := by decide +kernel
theorem dX9_placeOf_2 : decode cX9_placeOf 2 = .ok (.iload_n 0, 1) := by decide +kernel
theorem dX9_placeOf_3 : decode cX9_placeOf 3 = .ok (.imul, 1) := by decide +kernel
theorem dX9_placeOf_4 : decode cX9_placeOf 4 = .ok (.iconst 5, 1) := by decide +kernel
theorem dX9_placeOf_5 : decode cX9_placeOf 5 = .ok (.iload_n 1, 1) := by decide +kernel
theorem dX9_placeOf_6 : decode cX9_placeOf 6 = .ok (.imul, 1) := by decide +kernel
theorem dX9_placeOf_7 : decode cX9_placeOf 7 = .ok (.iadd, 1) := by decide +kernel
theorem dX9_placeOf_8 : decode cX9_placeOf 8 = .ok (.iload_n 2, 1) := by decide +kernel
theorem dX9_placeOf_9 : decode cX9_placeOf 9 = .ok (.iadd, 1) := by decide +kernel
theorem dX9_placeOf_10 : decode cX9_placeOf 10 = .ok (.ireturn, 1) := by decide +kernel
theorem dX9_join_0 : decode cX9_join 0 = .ok (.aload_n 0, 1) := by decide +kernel
theorem dX9_join_1 : decode cX9_join 1 = .ok (.getfield 22, 3) := by decide +kernel
theorem dX9_join_4 : decode cX9_join 4 = .ok (.iload_n 1, 1) := by decide +kernel
theorem dX9_join_5 : decode cX9_join 5 = .ok (.iaload, 1) := by decide +kernel
theorem dX9_join_6 : decode cX9_join 6 = .ok (.aload_n 0, 1) := by decide +kernel
theorem dX9_join_7 : decode cX9_join 7 = .ok (.getfield 22, 3) := by decide +kernel
theorem dX9_join_10 : decode cX9_join 10 = .ok (.iload_n 2, 1) := by decide +kernel
theorem dX9_join_11 : decode cX9_join 11 = .ok (.iaload, 1) := by decide +kernel
theorem dX9_join_12 : decode cX9_join 12 = .ok (.if_icmp .ge 12, 3) := by decide +kernel
theorem dX9_join_15 : decode cX9_join 15 = .ok (.aload_n 0, 1) := by decide +kernel
theorem dX9_join_16 : decode cX9_join 16 = .ok (.getfield 22, 3) := by decide +kernel
theorem dX9_join_19 : decode cX9_join 19 = .ok (.iload_n 1, 1) := by decide +kernel
theorem dX9_join_20 : decode cX9_join 20 = .ok (.iaload, 1) := by decide +kernel
theorem dX9_join_21 : decode cX9_join 21 = .ok (.goto 9, 3) := by decide +kernel
theorem dX9_join_24 : decode cX9_join 24 = .ok (.aload_n 0, 1) := by decide +kernel
theorem dX9_join_25 : decode cX9_join 25 = .ok (.getfield 22, 3) := by decide +kernel
theorem dX9_join_28 : decode cX9_join 28 = .ok (.iload_n 2, 1) := by decide +kernel
theorem dX9_join_29 : decode cX9_join 29 = .ok (.iaload, 1) := by decide +kernel
theorem dX9_join_30 : decode cX9_join 30 = .ok (.istore_n 3, 1) := by decide +kernel
theorem dX9_join_31 : decode cX9_join 31 = .ok (.aload_n 0, 1) := by decide +kernel
theorem dX9_join_32 : decode cX9_join 32 = .ok (.getfield 22, 3) := by decide +kernel
theorem dX9_join_35 : decode cX9_join 35 = .ok (.iload_n 1, 1) := by decide +kernel
theorem dX9_join_36 : decode cX9_join 36 = .ok (.iaload, 1) := by decide +kernel
theorem dX9_join_37 : decode cX9_join 37 = .ok (.aload_n 0, 1) := by decide +kernel
theorem dX9_join_38 : decode cX9_join 38 = .ok (.getfield 22, 3) := by decide +kernel
theorem dX9_join_41 : decode cX9_join 41 = .ok (.iload_n 2, 1) := by decide +kernel
theorem dX9_join_42 : decode cX9_join 42 = .ok (.iaload, 1) := by decide +kernel
theorem dX9_join_43 : decode cX9_join 43 = .ok (.if_icmp .eq 7, 3) := by decide +kernel
theorem dX9_join_46 : decode cX9_join 46 = .ok (.iconst 1, 1) := by decide +kernel
theorem dX9_join_47 : decode cX9_join 47 = .ok (.goto 4, 3) := by decide +kernel
theorem dX9_join_50 : decode cX9_join 50 = .ok (.iconst 0, 1) := by decide +kernel
theorem dX9_join_51 : decode cX9_join 51 = .ok (.istore 4, 2) := by decide +kernel
theorem dX9_join_53 : decode cX9_join 53 = .ok (.aload_n 0, 1) := by decide +kernel
theorem dX9_join_54 : decode cX9_join 54 = .ok (.getfield 22, 3) := by decide +kernel
theorem dX9_join_57 : decode cX9_join 57 = .ok (.iload_n 1, 1) := by decide +kernel
theorem dX9_join_58 : decode cX9_join 58 = .ok (.iload_n 3, 1) := by decide +kernel
theorem dX9_join_59 : decode cX9_join 59 = .ok (.iastore, 1) := by decide +kernel
theorem dX9_join_60 : decode cX9_join 60 = .ok (.aload_n 0, 1) := by decide +kernel
theorem dX9_join_61 : decode cX9_join 61 = .ok (.getfield 22, 3) := by decide +kernel
theorem dX9_join_64 : decode cX9_join 64 = .ok (.iload_n 2, 1) := by decide +kernel
theorem dX9_join_65 : decode cX9_join 65 = .ok (.iload_n 3, 1) := by decide +kernel
theorem dX9_join_66 : decode cX9_join 66 = .ok (.iastore, 1) := by decide +kernel
theorem dX9_join_67 : decode cX9_join 67 = .ok (.iload 4, 2) := by decide +kernel
theorem dX9_join_69 : decode cX9_join 69 = .ok (.ireturn, 1) := by decide +kernel
set_option maxRecDepth 20000 in
theorem ggX9_findLike_X9_placeOf : GoodIn wsX9_findLike wsX9_placeOf := goodIn_r _ [7] (by decide +kernel) (by decide +kernel)
set_option maxRecDepth 20000 in
theorem gX9_findLike_X9_placeOf : GoodIn wsX9_findLike (va_wsS RX9 105 yX9_placeOf wsX9_placeOf) := goodIn_app (goodIn_of _ (by decide +kernel)) ggX9_findLike_X9_placeOf
set_option maxRecDepth 20000 in
theorem ggX9_findLike_X9_join : GoodIn wsX9_findLike wsX9_join := goodIn_r _ [11, 1, 15, 16, 17, 18, 19, 20, 21, 22, 23, 24, 25, 26, 27, 28, 29] (by decide +kernel) (by decide +kernel)
set_option maxRecDepth 20000 in
theorem gX9_findLike_X9_join : GoodIn wsX9_findLike (wsV RX9 109 RX9 yX9_join wsX9_join) := goodIn_app (goodIn_of _ (by decide +kernel)) ggX9_findLike_X9_join
set_option maxRecDepth 20000 in
theorem ggX9_findLike_X9_mate : GoodIn wsX9_findLike wsX9_mate := goodIn_r _ [14] (by decide +kernel) (by decide +kernel)
set_option maxRecDepth 20000 in
theorem gX9_findLike_X9_mate : GoodIn wsX9_findLike (va_wsS RX9 112 yX9_mate wsX9_mate) := goodIn_app (goodIn_of _ (by decide +kernel)) ggX9_findLike_X9_mate
theorem dX9_findLike_0 : decode cX9_findLike 0 = .ok (.iconst 0, 1) := by decide +kernel
theorem dX9_findLike_1 : decode cX9_findLike 1 = .ok (.istore_n 3, 1) := by decide +kernel
theorem dX9_findLike_2 : decode cX9_findLike 2 = .ok (.iload_n 3, 1) := by decide +kernel
theorem dX9_findLike_3 : decode cX9_findLike 3 = .ok (.bipush 125, 2) := by decide +kernel
theorem dX9_findLike_5 : decode cX9_findLike 5 = .ok (.if_icmp .ge 16, 3) := by decide +kernel
theorem dX9_findLike_8 : decode cX9_findLike 8 = .ok (.aload_n 0, 1) := by decide +kernel
theorem dX9_findLike_9 : decode cX9_findLike 9 = .ok (.getfield 22, 3) := by decide +kernel
theorem dX9_findLike_12 : decode cX9_findLike 12 = .ok (.iload_n 3, 1) := by decide +kernel
theorem dX9_findLike_13 : decode cX9_findLike 13 = .ok (.iload_n 3, 1) := by decide +kernel
theorem dX9_findLike_14 : decode cX9_findLike 14 = .ok (.iastore, 1) := by decide +kernel
theorem dX9_findLike_15 : decode cX9_findLike 15 = .ok (.iinc 3 1, 3) := by decide +kernel
theorem dX9_findLike_18 : decode cX9_findLike 18 = .ok (.goto (-16), 3) := by decide +kernel
theorem dX9_findLike_21 : decode cX9_findLike 21 = .ok (.iconst 1, 1) := by decide +kernel
theorem dX9_findLike_22 : decode cX9_findLike 22 = .ok (.istore_n 3, 1) := by decide +kernel
theorem dX9_findLike_23 : decode cX9_findLike 23 = .ok (.iload_n 3, 1) := by decide +kernel
theorem dX9_findLike_24 : decode cX9_findLike 24 = .ok (.ifCond .eq 125, 3) := by decide +kernel
theorem dX9_findLike_27 : decode cX9_findLike 27 = .ok (.iconst 0, 1) := by decide +kernel
theorem dX9_findLike_28 : decode cX9_findLike 28 = .ok (.istore_n 3, 1) := by decide +kernel
theorem dX9_findLike_29 : decode cX9_findLike 29 = .ok (.iconst 1, 1) := by decide +kernel
theorem dX9_findLike_30 : decode cX9_findLike 30 = .ok (.istore 4, 2) := by decide +kernel
theorem dX9_findLike_32 : decode cX9_findLike 32 = .ok (.iload 4, 2) := by decide +kernel
theorem dX9_findLike_34 : decode cX9_findLike 34 = .ok (.iload_n 1, 1) := by decide +kernel
theorem dX9_findLike_35 : decode cX9_findLike 35 = .ok (.if_icmp .ge 111, 3) := by decide +kernel
theorem dX9_findLike_38 : decode cX9_findLike 38 = .ok (.iconst 1, 1) := by decide +kernel
theorem dX9_findLike_39 : decode cX9_findLike 39 = .ok (.istore 5, 2) := by decide +kernel
theorem dX9_findLike_41 : decode cX9_findLike 41 = .ok (.iload 5, 2) := by decide +kernel
theorem dX9_findLike_43 : decode cX9_findLike 43 = .ok (.iload_n 1, 1) := by decide +kernel
theorem dX9_findLike_44 : decode cX9_findLike 44 = .ok (.if_icmp .ge 96, 3) := by decide +kernel
theorem dX9_findLike_47 : decode cX9_findLike 47 = .ok (.iconst 1, 1) := by decide +kernel
theorem dX9_findLike_48 : decode cX9_findLike 48 = .ok (.istore 6, 2) := by decide +kernel
theorem dX9_findLike_50 : decode cX9_findLike 50 = .ok (.iload 6, 2) := by decide +kernel
theorem dX9_findLike_52 : decode cX9_findLike 52 = .ok (.iload_n 1, 1) := by decide +kernel
theorem dX9_findLike_53 : decode cX9_findLike 53 = .ok (.if_icmp .ge 81, 3) := by decide +kernel
theorem dX9_findLike_56 : decode cX9_findLike 56 = .ok (.aload_n 0, 1) := by decide +kernel
theorem dX9_findLike_57 : decode cX9_findLike 57 = .ok (.iload 4, 2) := by decide +kernel
theorem dX9_findLike_59 : decode cX9_findLike 59 = .ok (.iload 5, 2) := by decide +kernel
theorem dX9_findLike_61 : decode cX9_findLike 61 = .ok (.iload 6, 2) := by decide +kernel
theorem dX9_findLike_63 : decode cX9_findLike 63 = .ok (.invokestatic 105, 3) := by decide +kernel
theorem dX9_findLike_66 : decode cX9_findLike 66 = .ok (.iload 5, 2) := by decide +kernel
theorem dX9_findLike_68 : decode cX9_findLike 68 = .ok (.iload 4, 2) := by decide +kernel
theorem dX9_findLike_70 : decode cX9_findLike 70 = .ok (.iload 6, 2) := by decide +kernel
theorem dX9_findLike_72 : decode cX9_findLike 72 = .ok (.invokestatic 105, 3) := by decide +kernel
theorem dX9_findLike_75 : decode cX9_findLike 75 = .ok (.invokevirtual 109, 3) := by decide +kernel
theorem dX9_findLike_78 : decode cX9_findLike 78 = .ok (.istore 7, 2) := by decide +kernel
theorem dX9_findLike_80 : decode cX9_findLike 80 = .ok (.aload_n 0, 1) := by decide +kernel
theorem dX9_findLike_81 : decode cX9_findLike 81 = .ok (.iload 4, 2) := by decide +kernel
theorem dX9_findLike_83 : decode cX9_findLike 83 = .ok (.iload 5, 2) := by decide +kernel
theorem dX9_findLike_85 : decode cX9_findLike 85 = .ok (.iload 6, 2) := by decide +kernel
theorem dX9_findLike_87 : decode cX9_findLike 87 = .ok (.invokestatic 105, 3) := by decide +kernel
theorem dX9_findLike_90 : decode cX9_findLike 90 = .ok (.iload 4, 2) := by decide +kernel
theorem dX9_findLike_92 : decode cX9_findLike 92 = .ok (.iload_n 2, 1) := by decide +kernel
theorem dX9_findLike_93 : decode cX9_findLike 93 = .ok (.invokestatic 112, 3) := by decide +kernel
theorem dX9_findLike_96 : decode cX9_findLike 96 = .ok (.iload 6, 2) := by decide +kernel
theorem dX9_findLike_98 : decode cX9_findLike 98 = .ok (.iload 5, 2) := by decide +kernel
theorem dX9_findLike_100 : decode cX9_findLike 100 = .ok (.invokestatic 105, 3) := by decide +kernel
theorem dX9_findLike_103 : decode cX9_findLike 103 = .ok (.invokevirtual 109, 3) := by decide +kernel
theorem dX9_findLike_106 : decode cX9_findLike 106 = .ok (.istore 8, 2) := by decide +kernel
theorem dX9_findLike_108 : decode cX9_findLike 108 = .ok (.iload_n 3, 1) := by decide +kernel
theorem dX9_findLike_109 : decode cX9_findLike 109 = .ok (.ifCond .ne 13, 3) := by decide +kernel
theorem dX9_findLike_112 : decode cX9_findLike 112 = .ok (.iload 7, 2) := by decide +kernel
theorem dX9_findLike_114 : decode cX9_findLike 114 = .ok (.ifCond .ne 8, 3) := by decide +kernel
theorem dX9_findLike_117 : decode cX9_findLike 117 = .ok (.iload 8, 2) := by decide +kernel
theorem dX9_findLike_119 : decode cX9_findLike 119 = .ok (.ifCond .eq 7, 3) := by decide +kernel
theorem dX9_findLike_122 : decode cX9_findLike 122 = .ok (.iconst 1, 1) := by decide +kernel
theorem dX9_findLike_123 : decode cX9_findLike 123 = .ok (.goto 4, 3) := by decide +kernel
theorem dX9_findLike_126 : decode cX9_findLike 126 = .ok (.iconst 0, 1) := by decide +kernel
theorem dX9_findLike_127 : decode cX9_findLike 127 = .ok (.istore_n 3, 1) := by decide +kernel
theorem dX9_findLike_128 : decode cX9_findLike 128 = .ok (.iinc 6 1, 3) := by decide +kernel
theorem dX9_findLike_131 : decode cX9_findLike 131 = .ok (.goto (-81), 3) := by decide +kernel
theorem dX9_findLike_134 : decode cX9_findLike 134 = .ok (.iinc 5 1, 3) := by decide +kernel
theorem dX9_findLike_137 : decode cX9_findLike 137 = .ok (.goto (-96), 3) := by decide +kernel
theorem dX9_findLike_140 : decode cX9_findLike 140 = .ok (.iinc 4 1, 3) := by decide +kernel
theorem dX9_findLike_143 : decode cX9_findLike 143 = .ok (.goto (-111), 3) := by decide +kernel
theorem dX9_findLike_146 : decode cX9_findLike 146 = .ok (.goto (-123), 3) := by decide +kernel
theorem dX9_findLike_149 : decode cX9_findLike 149 = .ok (.aload_n 0, 1) := by decide +kernel
theorem dX9_findLike_150 : decode cX9_findLike 150 = .ok (.iconst 0, 1) := by decide +kernel
theorem dX9_findLike_151 : decode cX9_findLike 151 = .ok (.putfield 116, 3) := by decide +kernel
theorem dX9_findLike_154 : decode cX9_findLike 154 = .ok (.iconst 1, 1) := by decide +kernel
theorem dX9_findLike_155 : decode cX9_findLike 155 = .ok (.istore 4, 2) := by decide +kernel
theorem dX9_findLike_157 : decode cX9_findLike 157 = .ok (.iload 4, 2) := by decide +kernel
theorem dX9_findLike_159 : decode cX9_findLike 159 = .ok (.iload_n 1, 1) := by decide +kernel
theorem dX9_findLike_160 : decode cX9_findLike 160 = .ok (.if_icmp .ge 93, 3) := by decide +kernel
theorem dX9_findLike_163 : decode cX9_findLike 163 = .ok (.iconst 1, 1) := by decide +kernel
theorem dX9_findLike_164 : decode cX9_findLike 164 = .ok (.istore 5, 2) := by decide +kernel
theorem dX9_findLike_166 : decode cX9_findLike 166 = .ok (.iload 5, 2) := by decide +kernel
theorem dX9_findLike_168 : decode cX9_findLike 168 = .ok (.iload_n 1, 1) := by decide +kernel
theorem dX9_findLike_169 : decode cX9_findLike 169 = .ok (.if_icmp .ge 78, 3) := by decide +kernel
theorem dX9_findLike_172 : decode cX9_findLike 172 = .ok (.iconst 1, 1) := by decide +kernel
theorem dX9_findLike_173 : decode cX9_findLike 173 = .ok (.istore 6, 2) := by decide +kernel
theorem dX9_findLike_175 : decode cX9_findLike 175 = .ok (.iload 6, 2) := by decide +kernel
theorem dX9_findLike_177 : decode cX9_findLike 177 = .ok (.iload_n 1, 1) := by decide +kernel
theorem dX9_findLike_178 : decode cX9_findLike 178 = .ok (.if_icmp .ge 63, 3) := by decide +kernel
theorem dX9_findLike_181 : decode cX9_findLike 181 = .ok (.aload_n 0, 1) := by decide +kernel
theorem dX9_findLike_182 : decode cX9_findLike 182 = .ok (.getfield 22, 3) := by decide +kernel
theorem dX9_findLike_185 : decode cX9_findLike 185 = .ok (.iload 4, 2) := by decide +kernel
theorem dX9_findLike_187 : decode cX9_findLike 187 = .ok (.iload 5, 2) := by decide +kernel
theorem dX9_findLike_189 : decode cX9_findLike 189 = .ok (.iload 6, 2) := by decide +kernel
theorem dX9_findLike_191 : decode cX9_findLike 191 = .ok (.invokestatic 105, 3) := by decide +kernel
theorem dX9_findLike_194 : decode cX9_findLike 194 = .ok (.iaload, 1) := by decide +kernel
theorem dX9_findLike_195 : decode cX9_findLike 195 = .ok (.iload 4, 2) := by decide +kernel
theorem dX9_findLike_197 : decode cX9_findLike 197 = .ok (.iload 5, 2) := by decide +kernel
theorem dX9_findLike_199 : decode cX9_findLike 199 = .ok (.iload 6, 2) := by decide +kernel
theorem dX9_findLike_201 : decode cX9_findLike 201 = .ok (.invokestatic 105, 3) := by decide +kernel
theorem dX9_findLike_204 : decode cX9_findLike 204 = .ok (.if_icmp .ne 31, 3) := by decide +kernel
theorem dX9_findLike_207 : decode cX9_findLike 207 = .ok (.aload_n 0, 1) := by decide +kernel
theorem dX9_findLike_208 : decode cX9_findLike 208 = .ok (.getfield 25, 3) := by decide +kernel
theorem dX9_findLike_211 : decode cX9_findLike 211 = .ok (.aload_n 0, 1) := by decide +kernel
theorem dX9_findLike_212 : decode cX9_findLike 212 = .ok (.getfield 116, 3) := by decide +kernel
theorem dX9_findLike_215 : decode cX9_findLike 215 = .ok (.iload 4, 2) := by decide +kernel
theorem dX9_findLike_217 : decode cX9_findLike 217 = .ok (.iload 5, 2) := by decide +kernel
theorem dX9_findLike_219 : decode cX9_findLike 219 = .ok (.iload 6, 2) := by decide +kernel
theorem dX9_findLike_221 : decode cX9_findLike 221 = .ok (.invokestatic 105, 3) := by decide +kernel
theorem dX9_findLike_224 : decode cX9_findLike 224 = .ok (.iastore, 1) := by decide +kernel
theorem dX9_findLike_225 : decode cX9_findLike 225 = .ok (.aload_n 0, 1) := by decide +kernel
theorem dX9_findLike_226 : decode cX9_findLike 226 = .ok (.dup, 1) := by decide +kernel
theorem dX9_findLike_227 : decode cX9_findLike 227 = .ok (.getfield 116, 3) := by decide +kernel
theorem dX9_findLike_230 : decode cX9_findLike 230 = .ok (.iconst 1, 1) := by decide +kernel
theorem dX9_findLike_231 : decode cX9_findLike 231 = .ok (.iadd, 1) := by decide +kernel
theorem dX9_findLike_232 : decode cX9_findLike 232 = .ok (.putfield 116, 3) := by decide +kernel
theorem dX9_findLike_235 : decode cX9_findLike 235 = .ok (.iinc 6 1, 3) := by decide +kernel
theorem dX9_findLike_238 : decode cX9_findLike 238 = .ok (.goto (-63), 3) := by decide +kernel
theorem dX9_findLike_241 : decode cX9_findLike 241 = .ok (.iinc 5 1, 3) := by decide +kernel
theorem dX9_findLike_244 : decode cX9_findLike 244 = .ok (.goto (-78), 3) := by decide +kernel
theorem dX9_findLike_247 : decode cX9_findLike 247 = .ok (.iinc 4 1, 3) := by decide +kernel
theorem dX9_findLike_250 : decode cX9_findLike 250 = .ok (.goto (-93), 3) := by decide +kernel
theorem dX9_findLike_253 : decode cX9_findLike 253 = .ok (.return_, 1) := by decide +kernel
set_option maxRecDepth 20000 in
theorem ggX9_layOut_X9_begin : GoodIn wsX9_layOut wsX9_begin := goodIn_r _ [9, 10, 2, 11, 12, 13, 8, 14, 21, 22, 23, 24, 25, 26, 27, 28, 29, 30, 31, 32, 33, 34, 35] (by decide +kernel) (by decide +kernel)
set_option maxRecDepth 20000 in
theorem gX9_layOut_X9_begin : GoodIn wsX9_layOut (wsV RX9 50 RX9 yX9_begin wsX9_begin) := goodIn_app (goodIn_of _ (by decide +kernel)) ggX9_layOut_X9_begin
set_option maxRecDepth 20000 in
theorem ggX9_layOut_X9_mate : GoodIn wsX9_layOut wsX9_mate := goodIn_r _ [17] (by decide +kernel) (by decide +kernel)
set_option maxRecDepth 20000 in
theorem gX9_layOut_X9_mate : GoodIn wsX9_layOut (va_wsS RX9 112 yX9_mate wsX9_mate) := goodIn_app (goodIn_of _ (by decide +kernel)) ggX9_layOut_X9_mate
set_option maxRecDepth 20000 in
theorem ggX9_layOut_X9_lay : GoodIn wsX9_layOut wsX9_lay := goodIn_r _ [14, 2, 21, 22, 23, 24, 25, 26, 27, 28, 29, 30, 31, 32, 33, 34, 35] (by decide +kernel) (by decide +kernel)
set_option maxRecDepth 20000 in
theorem gX9_layOut_X9_lay : GoodIn wsX9_layOut (wsV RX9 54 RX9 yX9_lay wsX9_lay) := goodIn_app (goodIn_of _ (by decide +kernel)) ggX9_layOut_X9_lay
set_option maxRecDepth 20000 in
theorem ggX9_layOut_X9_placeOf : GoodIn wsX9_layOut wsX9_placeOf := goodIn_r _ [20] (by decide +kernel) (by decide +kernel)
set_option maxRecDepth 20000 in
theorem gX9_layOut_X9_placeOf : GoodIn wsX9_layOut (va_wsS RX9 105 yX9_placeOf wsX9_placeOf) := goodIn_app (goodIn_of _ (by decide +kernel)) ggX9_layOut_X9_placeOf
theorem dX9_layOut_0 : decode cX9_layOut 0 = .ok (.aload_n 0, 1) := by decide +kernel
theorem dX9_layOut_1 : decode cX9_layOut 1 = .ok (.bipush 6, 2) := by decide +kernel
theorem dX9_layOut_3 : decode cX9_layOut 3 = .ok (.iload_n 1, 1) := by decide +kernel
theorem dX9_layOut_4 : decode cX9_layOut 4 = .ok (.invokevirtual 50, 3) := by decide +kernel
theorem dX9_layOut_7 : decode cX9_layOut 7 = .ok (.iload 4, 2) := by decide +kernel
theorem dX9_layOut_9 : decode cX9_layOut 9 = .ok (.istore 5, 2) := by decide +kernel
theorem dX9_layOut_11 : decode cX9_layOut 11 = .ok (.aload_n 0, 1) := by decide +kernel
theorem dX9_layOut_12 : decode cX9_layOut 12 = .ok (.getfield 116, 3) := by decide +kernel
theorem dX9_layOut_15 : decode cX9_layOut 15 = .ok (.iconst 1, 1) := by decide +kernel
theorem dX9_layOut_16 : decode cX9_layOut 16 = .ok (.isub, 1) := by decide +kernel
theorem dX9_layOut_17 : decode cX9_layOut 17 = .ok (.istore 6, 2) := by decide +kernel
theorem dX9_layOut_19 : decode cX9_layOut 19 = .ok (.iload 6, 2) := by decide +kernel
theorem dX9_layOut_21 : decode cX9_layOut 21 = .ok (.ifCond .lt 39, 3) := by decide +kernel
theorem dX9_layOut_24 : decode cX9_layOut 24 = .ok (.aload_n 0, 1) := by decide +kernel
theorem dX9_layOut_25 : decode cX9_layOut 25 = .ok (.getfield 13, 3) := by decide +kernel
theorem dX9_layOut_28 : decode cX9_layOut 28 = .ok (.sipush 750, 3) := by decide +kernel
theorem dX9_layOut_31 : decode cX9_layOut 31 = .ok (.aload_n 0, 1) := by decide +kernel
theorem dX9_layOut_32 : decode cX9_layOut 32 = .ok (.getfield 25, 3) := by decide +kernel
theorem dX9_layOut_35 : decode cX9_layOut 35 = .ok (.iload 6, 2) := by decide +kernel
theorem dX9_layOut_37 : decode cX9_layOut 37 = .ok (.iaload, 1) := by decide +kernel
theorem dX9_layOut_38 : decode cX9_layOut 38 = .ok (.iadd, 1) := by decide +kernel
theorem dX9_layOut_39 : decode cX9_layOut 39 = .ok (.iload 5, 2) := by decide +kernel
theorem dX9_layOut_41 : decode cX9_layOut 41 = .ok (.iload_n 2, 1) := by decide +kernel
theorem dX9_layOut_42 : decode cX9_layOut 42 = .ok (.iconst 1, 1) := by decide +kernel
theorem dX9_layOut_43 : decode cX9_layOut 43 = .ok (.iadd, 1) := by decide +kernel
theorem dX9_layOut_44 : decode cX9_layOut 44 = .ok (.irem, 1) := by decide +kernel
theorem dX9_layOut_45 : decode cX9_layOut 45 = .ok (.iastore, 1) := by decide +kernel
theorem dX9_layOut_46 : decode cX9_layOut 46 = .ok (.iload 5, 2) := by decide +kernel
theorem dX9_layOut_48 : decode cX9_layOut 48 = .ok (.iload_n 2, 1) := by decide +kernel
theorem dX9_layOut_49 : decode cX9_layOut 49 = .ok (.iconst 1, 1) := by decide +kernel
theorem dX9_layOut_50 : decode cX9_layOut 50 = .ok (.iadd, 1) := by decide +kernel
theorem dX9_layOut_51 : decode cX9_layOut 51 = .ok (.idiv, 1) := by decide +kernel
theorem dX9_layOut_52 : decode cX9_layOut 52 = .ok (.istore 5, 2) := by decide +kernel
theorem dX9_layOut_54 : decode cX9_layOut 54 = .ok (.iinc 6 (-1), 3) := by decide +kernel
theorem dX9_layOut_57 : decode cX9_layOut 57 = .ok (.goto (-38), 3) := by decide +kernel
theorem dX9_layOut_60 : decode cX9_layOut 60 = .ok (.iconst 1, 1) := by decide +kernel
theorem dX9_layOut_61 : decode cX9_layOut 61 = .ok (.istore 6, 2) := by decide +kernel
theorem dX9_layOut_63 : decode cX9_layOut 63 = .ok (.iload 6, 2) := by decide +kernel
theorem dX9_layOut_65 : decode cX9_layOut 65 = .ok (.iload_n 1, 1) := by decide +kernel
theorem dX9_layOut_66 : decode cX9_layOut 66 = .ok (.if_icmp .ge 90, 3) := by decide +kernel
theorem dX9_layOut_69 : decode cX9_layOut 69 = .ok (.aload_n 0, 1) := by decide +kernel
theorem dX9_layOut_70 : decode cX9_layOut 70 = .ok (.bipush 6, 2) := by decide +kernel
theorem dX9_layOut_72 : decode cX9_layOut 72 = .ok (.iload 6, 2) := by decide +kernel
theorem dX9_layOut_74 : decode cX9_layOut 74 = .ok (.iload 6, 2) := by decide +kernel
theorem dX9_layOut_76 : decode cX9_layOut 76 = .ok (.iload_n 3, 1) := by decide +kernel
theorem dX9_layOut_77 : decode cX9_layOut 77 = .ok (.invokestatic 112, 3) := by decide +kernel
theorem dX9_layOut_80 : decode cX9_layOut 80 = .ok (.iconst 0, 1) := by decide +kernel
theorem dX9_layOut_81 : decode cX9_layOut 81 = .ok (.iconst 1, 1) := by decide +kernel
theorem dX9_layOut_82 : decode cX9_layOut 82 = .ok (.invokevirtual 54, 3) := by decide +kernel
theorem dX9_layOut_85 : decode cX9_layOut 85 = .ok (.iconst 1, 1) := by decide +kernel
theorem dX9_layOut_86 : decode cX9_layOut 86 = .ok (.istore 7, 2) := by decide +kernel
theorem dX9_layOut_88 : decode cX9_layOut 88 = .ok (.iload 7, 2) := by decide +kernel
theorem dX9_layOut_90 : decode cX9_layOut 90 = .ok (.iload_n 1, 1) := by decide +kernel
theorem dX9_layOut_91 : decode cX9_layOut 91 = .ok (.if_icmp .ge 59, 3) := by decide +kernel
theorem dX9_layOut_94 : decode cX9_layOut 94 = .ok (.iconst 1, 1) := by decide +kernel
theorem dX9_layOut_95 : decode cX9_layOut 95 = .ok (.istore 8, 2) := by decide +kernel
theorem dX9_layOut_97 : decode cX9_layOut 97 = .ok (.iload 8, 2) := by decide +kernel
theorem dX9_layOut_99 : decode cX9_layOut 99 = .ok (.iload_n 1, 1) := by decide +kernel
theorem dX9_layOut_100 : decode cX9_layOut 100 = .ok (.if_icmp .ge 44, 3) := by decide +kernel
theorem dX9_layOut_103 : decode cX9_layOut 103 = .ok (.aload_n 0, 1) := by decide +kernel
theorem dX9_layOut_104 : decode cX9_layOut 104 = .ok (.bipush 6, 2) := by decide +kernel
theorem dX9_layOut_106 : decode cX9_layOut 106 = .ok (.iload 6, 2) := by decide +kernel
theorem dX9_layOut_108 : decode cX9_layOut 108 = .ok (.iload 7, 2) := by decide +kernel
theorem dX9_layOut_110 : decode cX9_layOut 110 = .ok (.iload 8, 2) := by decide +kernel
theorem dX9_layOut_112 : decode cX9_layOut 112 = .ok (.aload_n 0, 1) := by decide +kernel
theorem dX9_layOut_113 : decode cX9_layOut 113 = .ok (.getfield 13, 3) := by decide +kernel
theorem dX9_layOut_116 : decode cX9_layOut 116 = .ok (.sipush 750, 3) := by decide +kernel
theorem dX9_layOut_119 : decode cX9_layOut 119 = .ok (.aload_n 0, 1) := by decide +kernel
theorem dX9_layOut_120 : decode cX9_layOut 120 = .ok (.getfield 22, 3) := by decide +kernel
theorem dX9_layOut_123 : decode cX9_layOut 123 = .ok (.iload 6, 2) := by decide +kernel
theorem dX9_layOut_125 : decode cX9_layOut 125 = .ok (.iload 7, 2) := by decide +kernel
theorem dX9_layOut_127 : decode cX9_layOut 127 = .ok (.iload 8, 2) := by decide +kernel
theorem dX9_layOut_129 : decode cX9_layOut 129 = .ok (.invokestatic 105, 3) := by decide +kernel
theorem dX9_layOut_132 : decode cX9_layOut 132 = .ok (.iaload, 1) := by decide +kernel
theorem dX9_layOut_133 : decode cX9_layOut 133 = .ok (.iadd, 1) := by decide +kernel
theorem dX9_layOut_134 : decode cX9_layOut 134 = .ok (.iaload, 1) := by decide +kernel
theorem dX9_layOut_135 : decode cX9_layOut 135 = .ok (.invokevirtual 54, 3) := by decide +kernel
theorem dX9_layOut_138 : decode cX9_layOut 138 = .ok (.iinc 8 1, 3) := by decide +kernel
theorem dX9_layOut_141 : decode cX9_layOut 141 = .ok (.goto (-44), 3) := by decide +kernel
theorem dX9_layOut_144 : decode cX9_layOut 144 = .ok (.iinc 7 1, 3) := by decide +kernel
theorem dX9_layOut_147 : decode cX9_layOut 147 = .ok (.goto (-59), 3) := by decide +kernel
theorem dX9_layOut_150 : decode cX9_layOut 150 = .ok (.iinc 6 1, 3) := by decide +kernel
theorem dX9_layOut_153 : decode cX9_layOut 153 = .ok (.goto (-90), 3) := by decide +kernel
theorem dX9_layOut_156 : decode cX9_layOut 156 = .ok (.return_, 1) := by decide +kernel
set_option maxRecDepth 20000 in
theorem ggX9_isListed_X9_in : GoodIn wsX9_isListed wsX9_in := goodIn_r _ [7] (by decide +kernel) (by decide +kernel)
set_option maxRecDepth 20000 in
theorem gX9_isListed_X9_in : GoodIn wsX9_isListed (va_wsS RX9 60 yX9_in wsX9_in) := goodIn_app (goodIn_of _ (by decide +kernel)) ggX9_isListed_X9_in
theorem dX9_isListed_0 : decode cX9_isListed 0 = .ok (.iload_n 0, 1) := by decide +kernel
theorem dX9_isListed_1 : decode cX9_isListed 1 = .ok (.i2l, 1) := by decide +kernel
theorem dX9_isListed_2 : decode cX9_isListed 2 = .ok (.ldc2_w 120, 3) := by decide +kernel
theorem dX9_isListed_5 : decode cX9_isListed 5 = .ok (.ldc2_w 94, 3) := by decide +kernel
theorem dX9_isListed_8 : decode cX9_isListed 8 = .ok (.invokestatic 60, 3) := by decide +kernel
theorem dX9_isListed_11 : decode cX9_isListed 11 = .ok (.ifCond .eq 47, 3) := by decide +kernel
theorem dX9_isListed_14 : decode cX9_isListed 14 = .ok (.iload_n 1, 1) := by decide +kernel
theorem dX9_isListed_15 : decode cX9_isListed 15 = .ok (.i2l, 1) := by decide +kernel
theorem dX9_isListed_16 : decode cX9_isListed 16 = .ok (.lconst 1, 1) := by decide +kernel
theorem dX9_isListed_17 : decode cX9_isListed 17 = .ok (.iload_n 0, 1) := by decide +kernel
theorem dX9_isListed_18 : decode cX9_isListed 18 = .ok (.iconst 4, 1) := by decide +kernel
theorem dX9_isListed_19 : decode cX9_isListed 19 = .ok (.if_icmp .ne 7, 3) := by decide +kernel
theorem dX9_isListed_22 : decode cX9_isListed 22 = .ok (.lconst 1, 1) := by decide +kernel
theorem dX9_isListed_23 : decode cX9_isListed 23 = .ok (.goto 6, 3) := by decide +kernel
theorem dX9_isListed_26 : decode cX9_isListed 26 = .ok (.ldc2_w 122, 3) := by decide +kernel
theorem dX9_isListed_29 : decode cX9_isListed 29 = .ok (.invokestatic 60, 3) := by decide +kernel
theorem dX9_isListed_32 : decode cX9_isListed 32 = .ok (.ifCond .eq 26, 3) := by decide +kernel
theorem dX9_isListed_35 : decode cX9_isListed 35 = .ok (.iload_n 2, 1) := by decide +kernel
theorem dX9_isListed_36 : decode cX9_isListed 36 = .ok (.i2l, 1) := by decide +kernel
theorem dX9_isListed_37 : decode cX9_isListed 37 = .ok (.lconst 0, 1) := by decide +kernel
theorem dX9_isListed_38 : decode cX9_isListed 38 = .ok (.iload_n 0, 1) := by decide +kernel
theorem dX9_isListed_39 : decode cX9_isListed 39 = .ok (.iconst 2, 1) := by decide +kernel
theorem dX9_isListed_40 : decode cX9_isListed 40 = .ok (.if_icmp .ne 7, 3) := by decide +kernel
theorem dX9_isListed_43 : decode cX9_isListed 43 = .ok (.lconst 0, 1) := by decide +kernel
theorem dX9_isListed_44 : decode cX9_isListed 44 = .ok (.goto 4, 3) := by decide +kernel
theorem dX9_isListed_47 : decode cX9_isListed 47 = .ok (.lconst 1, 1) := by decide +kernel
theorem dX9_isListed_48 : decode cX9_isListed 48 = .ok (.invokestatic 60, 3) := by decide +kernel
theorem dX9_isListed_51 : decode cX9_isListed 51 = .ok (.ifCond .eq 7, 3) := by decide +kernel
theorem dX9_isListed_54 : decode cX9_isListed 54 = .ok (.iconst 1, 1) := by decide +kernel
theorem dX9_isListed_55 : decode cX9_isListed 55 = .ok (.goto 4, 3) := by decide +kernel
theorem dX9_isListed_58 : decode cX9_isListed 58 = .ok (.iconst 0, 1) := by decide +kernel
theorem dX9_isListed_59 : decode cX9_isListed 59 = .ok (.ireturn, 1) := by decide +kernel
set_option maxRecDepth 20000 in
theorem ggX9_goThrough_X9_findLike : GoodIn wsX9_goThrough wsX9_findLike := goodIn_r _ [6, 7, 1, 8, 9, 10, 5, 11, 12, 13, 14, 15, 16, 17, 18, 63, 64, 65, 66, 67, 68, 69, 70, 71, 72, 73, 74, 75, 76, 77] (by decide +kernel) (by decide +kernel)
set_option maxRecDepth 20000 in
theorem gX9_goThrough_X9_findLike : GoodIn wsX9_goThrough (wsV RX9 124 RX9 yX9_findLike wsX9_findLike) := goodIn_app (goodIn_of _ (by decide +kernel)) ggX9_goThrough_X9_findLike
set_option maxRecDepth 20000 in
theorem ggX9_goThrough_X9_layOut : GoodIn wsX9_goThrough wsX9_layOut := goodIn_r _ [22, 1, 23, 8, 7, 24, 25, 26, 5, 27, 28, 29, 30, 31, 32, 16, 17, 18, 9, 10, 11, 63, 64, 65, 66, 67, 68, 69, 70, 71, 72, 73, 74, 75, 76, 77] (by decide +kernel) (by decide +kernel)
set_option maxRecDepth 20000 in
theorem gX9_goThrough_X9_layOut : GoodIn wsX9_goThrough (wsV RX9 127 RX9 yX9_layOut wsX9_layOut) := goodIn_app (goodIn_of _ (by decide +kernel)) ggX9_goThrough_X9_layOut
set_option maxRecDepth 20000 in
theorem ggX9_goThrough_X9_isRight : GoodIn wsX9_goThrough wsX9_isRight := goodIn_r _ [36, 37, 38, 39, 5, 40, 28, 41, 42, 43, 44, 23, 45, 46, 47, 48, 49, 50, 51, 52, 53, 54, 55, 56, 57, 58, 59, 60, 61, 62, 63, 64, 65, 66, 67, 68, 69, 70, 71, 72, 73, 74, 75, 76, 77] (by decide +kernel) (by decide +kernel)
set_option maxRecDepth 20000 in
theorem gX9_goThrough_X9_isRight : GoodIn wsX9_goThrough (wsV RX9 96 RX9 yX9_isRight wsX9_isRight) := goodIn_app (goodIn_of _ (by decide +kernel)) ggX9_goThrough_X9_isRight
theorem dX9_goThrough_0 : decode cX9_goThrough 0 = .ok (.aload_n 0, 1) := by decide +kernel
theorem dX9_goThrough_1 : decode cX9_goThrough 1 = .ok (.iload_n 1, 1) := by decide +kernel
theorem dX9_goThrough_2 : decode cX9_goThrough 2 = .ok (.iload_n 3, 1) := by decide +kernel
theorem dX9_goThrough_3 : decode cX9_goThrough 3 = .ok (.invokevirtual 124, 3) := by decide +kernel
theorem dX9_goThrough_6 : decode cX9_goThrough 6 = .ok (.iconst 1, 1) := by decide +kernel
theorem dX9_goThrough_7 : decode cX9_goThrough 7 = .ok (.istore 5, 2) := by decide +kernel
theorem dX9_goThrough_9 : decode cX9_goThrough 9 = .ok (.iconst 0, 1) := by decide +kernel
theorem dX9_goThrough_10 : decode cX9_goThrough 10 = .ok (.istore 6, 2) := by decide +kernel
theorem dX9_goThrough_12 : decode cX9_goThrough 12 = .ok (.iload 6, 2) := by decide +kernel
theorem dX9_goThrough_14 : decode cX9_goThrough 14 = .ok (.aload_n 0, 1) := by decide +kernel
theorem dX9_goThrough_15 : decode cX9_goThrough 15 = .ok (.getfield 116, 3) := by decide +kernel
theorem dX9_goThrough_18 : decode cX9_goThrough 18 = .ok (.if_icmp .ge 17, 3) := by decide +kernel
theorem dX9_goThrough_21 : decode cX9_goThrough 21 = .ok (.iload 5, 2) := by decide +kernel
theorem dX9_goThrough_23 : decode cX9_goThrough 23 = .ok (.iload_n 2, 1) := by decide +kernel
theorem dX9_goThrough_24 : decode cX9_goThrough 24 = .ok (.iconst 1, 1) := by decide +kernel
theorem dX9_goThrough_25 : decode cX9_goThrough 25 = .ok (.iadd, 1) := by decide +kernel
theorem dX9_goThrough_26 : decode cX9_goThrough 26 = .ok (.imul, 1) := by decide +kernel
theorem dX9_goThrough_27 : decode cX9_goThrough 27 = .ok (.istore 5, 2) := by decide +kernel
theorem dX9_goThrough_29 : decode cX9_goThrough 29 = .ok (.iinc 6 1, 3) := by decide +kernel
theorem dX9_goThrough_32 : decode cX9_goThrough 32 = .ok (.goto (-20), 3) := by decide +kernel
theorem dX9_goThrough_35 : decode cX9_goThrough 35 = .ok (.iconst 0, 1) := by decide +kernel
theorem dX9_goThrough_36 : decode cX9_goThrough 36 = .ok (.istore 6, 2) := by decide +kernel
theorem dX9_goThrough_38 : decode cX9_goThrough 38 = .ok (.iconst 0, 1) := by decide +kernel
theorem dX9_goThrough_39 : decode cX9_goThrough 39 = .ok (.istore 7, 2) := by decide +kernel
theorem dX9_goThrough_41 : decode cX9_goThrough 41 = .ok (.iload 7, 2) := by decide +kernel
theorem dX9_goThrough_43 : decode cX9_goThrough 43 = .ok (.iload 5, 2) := by decide +kernel
theorem dX9_goThrough_45 : decode cX9_goThrough 45 = .ok (.if_icmp .ge 46, 3) := by decide +kernel
theorem dX9_goThrough_48 : decode cX9_goThrough 48 = .ok (.iload 6, 2) := by decide +kernel
theorem dX9_goThrough_50 : decode cX9_goThrough 50 = .ok (.iload 4, 2) := by decide +kernel
theorem dX9_goThrough_52 : decode cX9_goThrough 52 = .ok (.iconst 1, 1) := by decide +kernel
theorem dX9_goThrough_53 : decode cX9_goThrough 53 = .ok (.iadd, 1) := by decide +kernel
theorem dX9_goThrough_54 : decode cX9_goThrough 54 = .ok (.if_icmp .eq 37, 3) := by decide +kernel
theorem dX9_goThrough_57 : decode cX9_goThrough 57 = .ok (.aload_n 0, 1) := by decide +kernel
theorem dX9_goThrough_58 : decode cX9_goThrough 58 = .ok (.iload_n 1, 1) := by decide +kernel
theorem dX9_goThrough_59 : decode cX9_goThrough 59 = .ok (.iload_n 2, 1) := by decide +kernel
theorem dX9_goThrough_60 : decode cX9_goThrough 60 = .ok (.iload_n 3, 1) := by decide +kernel
theorem dX9_goThrough_61 : decode cX9_goThrough 61 = .ok (.iload 7, 2) := by decide +kernel
theorem dX9_goThrough_63 : decode cX9_goThrough 63 = .ok (.invokevirtual 127, 3) := by decide +kernel
theorem dX9_goThrough_66 : decode cX9_goThrough 66 = .ok (.iload 6, 2) := by decide +kernel
theorem dX9_goThrough_68 : decode cX9_goThrough 68 = .ok (.aload_n 0, 1) := by decide +kernel
theorem dX9_goThrough_69 : decode cX9_goThrough 69 = .ok (.bipush 6, 2) := by decide +kernel
theorem dX9_goThrough_71 : decode cX9_goThrough 71 = .ok (.invokevirtual 96, 3) := by decide +kernel
theorem dX9_goThrough_74 : decode cX9_goThrough 74 = .ok (.ifCond .eq 7, 3) := by decide +kernel
theorem dX9_goThrough_77 : decode cX9_goThrough 77 = .ok (.iconst 1, 1) := by decide +kernel
theorem dX9_goThrough_78 : decode cX9_goThrough 78 = .ok (.goto 4, 3) := by decide +kernel
theorem dX9_goThrough_81 : decode cX9_goThrough 81 = .ok (.iconst 0, 1) := by decide +kernel
theorem dX9_goThrough_82 : decode cX9_goThrough 82 = .ok (.iadd, 1) := by decide +kernel
theorem dX9_goThrough_83 : decode cX9_goThrough 83 = .ok (.istore 6, 2) := by decide +kernel
theorem dX9_goThrough_85 : decode cX9_goThrough 85 = .ok (.iinc 7 1, 3) := by decide +kernel
theorem dX9_goThrough_88 : decode cX9_goThrough 88 = .ok (.goto (-47), 3) := by decide +kernel
theorem dX9_goThrough_91 : decode cX9_goThrough 91 = .ok (.iload 6, 2) := by decide +kernel
theorem dX9_goThrough_93 : decode cX9_goThrough 93 = .ok (.ireturn, 1) := by decide +kernel
set_option maxRecDepth 20000 in
theorem ggX9_list_X9_isListed : GoodIn wsX9_list wsX9_isListed := goodIn_r _ [4, 5, 6, 7, 8, 9, 3, 10] (by decide +kernel) (by decide +kernel)
set_option maxRecDepth 20000 in
theorem gX9_list_X9_isListed : GoodIn wsX9_list (va_wsS RX9 131 yX9_isListed wsX9_isListed) := goodIn_app (goodIn_of _ (by decide +kernel)) ggX9_list_X9_isListed
set_option maxRecDepth 20000 in
theorem ggX9_list_X9_goThrough : GoodIn wsX9_list wsX9_goThrough := goodIn_r _ [14, 15, 16, 17, 18, 3, 19, 20, 21, 22, 23, 24, 25, 26, 27, 28, 29, 30, 31, 32, 33, 34, 35, 36, 37, 38, 39, 40, 41, 42, 43, 44, 45, 46, 47, 48, 49, 50, 51, 52, 53, 54, 55, 56, 57, 58, 59, 60, 61, 62, 63, 64, 65, 66, 67, 68, 69, 70, 71, 72, 73, 74, 75, 76, 77, 78, 79, 80, 81, 82, 83, 84, 85, 86, 87, 88, 89, 90] (by decide +kernel) (by decide +kernel)
set_option maxRecDepth 20000 in
theorem gX9_list_X9_goThrough : GoodIn wsX9_list (wsV RX9 135 RX9 yX9_goThrough wsX9_goThrough) := goodIn_app (goodIn_of _ (by decide +kernel)) ggX9_list_X9_goThrough
theorem dX9_list_0 : decode cX9_list 0 = .ok (.iload_n 1, 1) := by decide +kernel
theorem dX9_list_1 : decode cX9_list 1 = .ok (.iload_n 2, 1) := by decide +kernel
theorem dX9_list_2 : decode cX9_list 2 = .ok (.iload_n 3, 1) := by decide +kernel
theorem dX9_list_3 : decode cX9_list 3 = .ok (.invokestatic 131, 3) := by decide +kernel
theorem dX9_list_6 : decode cX9_list 6 = .ok (.ifCond .eq 15, 3) := by decide +kernel
theorem dX9_list_9 : decode cX9_list 9 = .ok (.aload_n 0, 1) := by decide +kernel
theorem dX9_list_10 : decode cX9_list 10 = .ok (.iload_n 1, 1) := by decide +kernel
theorem dX9_list_11 : decode cX9_list 11 = .ok (.iload_n 2, 1) := by decide +kernel
theorem dX9_list_12 : decode cX9_list 12 = .ok (.iload_n 3, 1) := by decide +kernel
theorem dX9_list_13 : decode cX9_list 13 = .ok (.bipush (-2), 2) := by decide +kernel
theorem dX9_list_15 : decode cX9_list 15 = .ok (.invokevirtual 135, 3) := by decide +kernel
theorem dX9_list_18 : decode cX9_list 18 = .ok (.goto 5, 3) := by decide +kernel
theorem dX9_list_21 : decode cX9_list 21 = .ok (.bipush (-2), 2) := by decide +kernel
theorem dX9_list_23 : decode cX9_list 23 = .ok (.ireturn, 1) := by decide +kernel
set_option maxRecDepth 20000 in
theorem ggX9_take_X9_noTable : GoodIn wsX9_take wsX9_noTable := goodIn_r _ [5, 6, 7, 8, 4, 9] (by decide +kernel) (by decide +kernel)
set_option maxRecDepth 20000 in
theorem gX9_take_X9_noTable : GoodIn wsX9_take (va_wsS RX9 64 yX9_noTable wsX9_noTable) := goodIn_app (goodIn_of _ (by decide +kernel)) ggX9_take_X9_noTable
set_option maxRecDepth 20000 in
theorem ggX9_take_X9_isListed : GoodIn wsX9_take wsX9_isListed := goodIn_r _ [12, 13, 14, 15, 7, 8, 4, 9] (by decide +kernel) (by decide +kernel)
set_option maxRecDepth 20000 in
theorem gX9_take_X9_isListed : GoodIn wsX9_take (va_wsS RX9 131 yX9_isListed wsX9_isListed) := goodIn_app (goodIn_of _ (by decide +kernel)) ggX9_take_X9_isListed
set_option maxRecDepth 20000 in
theorem ggX9_take_X9_goThrough : GoodIn wsX9_take wsX9_goThrough := goodIn_r _ [19, 20, 21, 22, 23, 4, 24, 25, 26, 27, 28, 29, 30, 31, 32, 33, 34, 35, 36, 37, 38, 39, 40, 41, 42, 43, 44, 45, 46, 47, 48, 49, 50, 51, 52, 53, 54, 55, 56, 57, 58, 59, 60, 61, 62, 63, 64, 65, 66, 67, 68, 69, 70, 71, 72, 73, 74, 75, 76, 77, 78, 79, 80, 85, 86, 87, 88, 89, 90, 91, 92, 93, 94, 95, 96, 97, 98, 99] (by decide +kernel) (by decide +kernel)
set_option maxRecDepth 20000 in
theorem gX9_take_X9_goThrough : GoodIn wsX9_take (wsV RX9 135 RX9 yX9_goThrough wsX9_goThrough) := goodIn_app (goodIn_of _ (by decide +kernel)) ggX9_take_X9_goThrough
set_option maxRecDepth 20000 in
theorem ggX9_take_X9_carry : GoodIn wsX9_take wsX9_carry := goodIn_r _ [84, 46, 41, 85, 86, 87, 88, 89, 90, 91, 92, 93, 94, 95, 96, 97, 98, 99] (by decide +kernel) (by decide +kernel)
set_option maxRecDepth 20000 in
theorem gX9_take_X9_carry : GoodIn wsX9_take (wsV RX9 99 RX9 yX9_carry wsX9_carry) := goodIn_app (goodIn_of _ (by decide +kernel)) ggX9_take_X9_carry
theorem dX9_take_0 : decode cX9_take 0 = .ok (.iload_n 1, 1) := by decide +kernel
theorem dX9_take_1 : decode cX9_take 1 = .ok (.invokestatic 64, 3) := by decide +kernel
theorem dX9_take_4 : decode cX9_take 4 = .ok (.ifCond .ne 18, 3) := by decide +kernel
theorem dX9_take_7 : decode cX9_take 7 = .ok (.iload_n 2, 1) := by decide +kernel
theorem dX9_take_8 : decode cX9_take 8 = .ok (.iload_n 3, 1) := by decide +kernel
theorem dX9_take_9 : decode cX9_take 9 = .ok (.iload 4, 2) := by decide +kernel
theorem dX9_take_11 : decode cX9_take 11 = .ok (.invokestatic 131, 3) := by decide +kernel
theorem dX9_take_14 : decode cX9_take 14 = .ok (.ifCond .eq 8, 3) := by decide +kernel
theorem dX9_take_17 : decode cX9_take 17 = .ok (.iload 5, 2) := by decide +kernel
theorem dX9_take_19 : decode cX9_take 19 = .ok (.ifCond .ge 6, 3) := by decide +kernel
theorem dX9_take_22 : decode cX9_take 22 = .ok (.bipush (-2), 2) := by decide +kernel
theorem dX9_take_24 : decode cX9_take 24 = .ok (.ireturn, 1) := by decide +kernel
theorem dX9_take_25 : decode cX9_take 25 = .ok (.iload 5, 2) := by decide +kernel
theorem dX9_take_27 : decode cX9_take 27 = .ok (.ldc 138, 2) := by decide +kernel
theorem dX9_take_29 : decode cX9_take 29 = .ok (.if_icmp .gt 20, 3) := by decide +kernel
theorem dX9_take_32 : decode cX9_take 32 = .ok (.aload_n 0, 1) := by decide +kernel
theorem dX9_take_33 : decode cX9_take 33 = .ok (.iload_n 2, 1) := by decide +kernel
theorem dX9_take_34 : decode cX9_take 34 = .ok (.iload_n 3, 1) := by decide +kernel
theorem dX9_take_35 : decode cX9_take 35 = .ok (.iload 4, 2) := by decide +kernel
theorem dX9_take_37 : decode cX9_take 37 = .ok (.iload 5, 2) := by decide +kernel
theorem dX9_take_39 : decode cX9_take 39 = .ok (.invokevirtual 135, 3) := by decide +kernel
theorem dX9_take_42 : decode cX9_take 42 = .ok (.iload 5, 2) := by decide +kernel
theorem dX9_take_44 : decode cX9_take 44 = .ok (.iconst 1, 1) := by decide +kernel
theorem dX9_take_45 : decode cX9_take 45 = .ok (.iadd, 1) := by decide +kernel
theorem dX9_take_46 : decode cX9_take 46 = .ok (.if_icmp .eq 6, 3) := by decide +kernel
theorem dX9_take_49 : decode cX9_take 49 = .ok (.bipush (-3), 2) := by decide +kernel
theorem dX9_take_51 : decode cX9_take 51 = .ok (.ireturn, 1) := by decide +kernel
theorem dX9_take_52 : decode cX9_take 52 = .ok (.aload_n 0, 1) := by decide +kernel
theorem dX9_take_53 : decode cX9_take 53 = .ok (.bipush 6, 2) := by decide +kernel
theorem dX9_take_55 : decode cX9_take 55 = .ok (.iload_n 1, 1) := by decide +kernel
theorem dX9_take_56 : decode cX9_take 56 = .ok (.invokevirtual 99, 3) := by decide +kernel
theorem dX9_take_59 : decode cX9_take 59 = .ok (.iconst 1, 1) := by decide +kernel
theorem dX9_take_60 : decode cX9_take 60 = .ok (.ireturn, 1) := by decide +kernel
set_option maxRecDepth 20000 in
theorem ggX9_letter_X9_in : GoodIn wsX9_letter wsX9_in := goodIn_r _ [7] (by decide +kernel) (by decide +kernel)
set_option maxRecDepth 20000 in
theorem gX9_letter_X9_in : GoodIn wsX9_letter (va_wsS RX9 60 yX9_in wsX9_in) := goodIn_app (goodIn_of _ (by decide +kernel)) ggX9_letter_X9_in
theorem dX9_letter_0 : decode cX9_letter 0 = .ok (.iload_n 1, 1) := by decide +kernel
theorem dX9_letter_1 : decode cX9_letter 1 = .ok (.i2l, 1) := by decide +kernel
theorem dX9_letter_2 : decode cX9_letter 2 = .ok (.lconst 0, 1) := by decide +kernel
theorem dX9_letter_3 : decode cX9_letter 3 = .ok (.ldc2_w 94, 3) := by decide +kernel
theorem dX9_letter_6 : decode cX9_letter 6 = .ok (.invokestatic 60, 3) := by decide +kernel
theorem dX9_letter_9 : decode cX9_letter 9 = .ok (.ifCond .ne 6, 3) := by decide +kernel
theorem dX9_letter_12 : decode cX9_letter 12 = .ok (.bipush (-2), 2) := by decide +kernel
theorem dX9_letter_14 : decode cX9_letter 14 = .ok (.ireturn, 1) := by decide +kernel
theorem dX9_letter_15 : decode cX9_letter 15 = .ok (.aload_n 0, 1) := by decide +kernel
theorem dX9_letter_16 : decode cX9_letter 16 = .ok (.getfield 139, 3) := by decide +kernel
theorem dX9_letter_19 : decode cX9_letter 19 = .ok (.bipush 14, 2) := by decide +kernel
theorem dX9_letter_21 : decode cX9_letter 21 = .ok (.if_icmp .ne 6, 3) := by decide +kernel
theorem dX9_letter_24 : decode cX9_letter 24 = .ok (.bipush (-3), 2) := by decide +kernel
theorem dX9_letter_26 : decode cX9_letter 26 = .ok (.ireturn, 1) := by decide +kernel
theorem dX9_letter_27 : decode cX9_letter 27 = .ok (.aload_n 0, 1) := by decide +kernel
theorem dX9_letter_28 : decode cX9_letter 28 = .ok (.getfield 28, 3) := by decide +kernel
theorem dX9_letter_31 : decode cX9_letter 31 = .ok (.aload_n 0, 1) := by decide +kernel
theorem dX9_letter_32 : decode cX9_letter 32 = .ok (.getfield 139, 3) := by decide +kernel
theorem dX9_letter_35 : decode cX9_letter 35 = .ok (.iload_n 1, 1) := by decide +kernel
theorem dX9_letter_36 : decode cX9_letter 36 = .ok (.iastore, 1) := by decide +kernel
theorem dX9_letter_37 : decode cX9_letter 37 = .ok (.aload_n 0, 1) := by decide +kernel
theorem dX9_letter_38 : decode cX9_letter 38 = .ok (.dup, 1) := by decide +kernel
theorem dX9_letter_39 : decode cX9_letter 39 = .ok (.getfield 139, 3) := by decide +kernel
theorem dX9_letter_42 : decode cX9_letter 42 = .ok (.iconst 1, 1) := by decide +kernel
theorem dX9_letter_43 : decode cX9_letter 43 = .ok (.iadd, 1) := by decide +kernel
theorem dX9_letter_44 : decode cX9_letter 44 = .ok (.putfield 139, 3) := by decide +kernel
theorem dX9_letter_47 : decode cX9_letter 47 = .ok (.aload_n 0, 1) := by decide +kernel
theorem dX9_letter_48 : decode cX9_letter 48 = .ok (.getfield 139, 3) := by decide +kernel
theorem dX9_letter_51 : decode cX9_letter 51 = .ok (.ireturn, 1) := by decide +kernel
theorem dX9_empty_0 : decode cX9_empty 0 = .ok (.aload_n 0, 1) := by decide +kernel
theorem dX9_empty_1 : decode cX9_empty 1 = .ok (.getfield 139, 3) := by decide +kernel
theorem dX9_empty_4 : decode cX9_empty 4 = .ok (.istore_n 1, 1) := by decide +kernel
theorem dX9_empty_5 : decode cX9_empty 5 = .ok (.aload_n 0, 1) := by decide +kernel
theorem dX9_empty_6 : decode cX9_empty 6 = .ok (.iconst 0, 1) := by decide +kernel
theorem dX9_empty_7 : decode cX9_empty 7 = .ok (.putfield 139, 3) := by decide +kernel
theorem dX9_empty_10 : decode cX9_empty 10 = .ok (.iload_n 1, 1) := by decide +kernel
theorem dX9_empty_11 : decode cX9_empty 11 = .ok (.ireturn, 1) := by decide +kernel
theorem dX9_start_0 : decode cX9_start 0 = .ok (.iconst 0, 1) := by decide +kernel
theorem dX9_start_1 : decode cX9_start 1 = .ok (.istore_n 3, 1) := by decide +kernel
theorem dX9_start_2 : decode cX9_start 2 = .ok (.iload_n 3, 1) := by decide +kernel
theorem dX9_start_3 : decode cX9_start 3 = .ok (.iconst 5, 1) := by decide +kernel
theorem dX9_start_4 : decode cX9_start 4 = .ok (.if_icmp .ge 25, 3) := by decide +kernel
theorem dX9_start_7 : decode cX9_start 7 = .ok (.aload_n 0, 1) := by decide +kernel
theorem dX9_start_8 : decode cX9_start 8 = .ok (.getfield 31, 3) := by decide +kernel
theorem dX9_start_11 : decode cX9_start 11 = .ok (.iload_n 3, 1) := by decide +kernel
theorem dX9_start_12 : decode cX9_start 12 = .ok (.iload_n 3, 1) := by decide +kernel
theorem dX9_start_13 : decode cX9_start 13 = .ok (.iload_n 2, 1) := by decide +kernel
theorem dX9_start_14 : decode cX9_start 14 = .ok (.if_icmp .ne 7, 3) := by decide +kernel
theorem dX9_start_17 : decode cX9_start 17 = .ok (.lconst 1, 1) := by decide +kernel
theorem dX9_start_18 : decode cX9_start 18 = .ok (.goto 4, 3) := by decide +kernel
theorem dX9_start_21 : decode cX9_start 21 = .ok (.lconst 0, 1) := by decide +kernel
theorem dX9_start_22 : decode cX9_start 22 = .ok (.lastore, 1) := by decide +kernel
theorem dX9_start_23 : decode cX9_start 23 = .ok (.iinc 3 1, 3) := by decide +kernel
theorem dX9_start_26 : decode cX9_start 26 = .ok (.goto (-24), 3) := by decide +kernel
theorem dX9_start_29 : decode cX9_start 29 = .ok (.return_, 1) := by decide +kernel
set_option maxRecDepth 20000 in
theorem ggX9_fuse_X9_n : GoodIn wsX9_fuse wsX9_n := goodIn_r _ [8, 9, 10, 11, 12, 13, 14, 15, 16, 17, 18, 19, 20, 21, 22, 23, 24] (by decide +kernel) (by decide +kernel)
set_option maxRecDepth 20000 in
theorem gX9_fuse_X9_n : GoodIn wsX9_fuse (wsV RX9 74 RX9 yX9_n wsX9_n) := goodIn_app (goodIn_of _ (by decide +kernel)) ggX9_fuse_X9_n
theorem dX9_fuse_0 : decode cX9_fuse 0 = .ok (.iconst 0, 1) := by decide +kernel
theorem dX9_fuse_1 : decode cX9_fuse 1 = .ok (.istore_n 3, 1) := by decide +kernel
theorem dX9_fuse_2 : decode cX9_fuse 2 = .ok (.iload_n 3, 1) := by decide +kernel
theorem dX9_fuse_3 : decode cX9_fuse 3 = .ok (.aload_n 0, 1) := by decide +kernel
theorem dX9_fuse_4 : decode cX9_fuse 4 = .ok (.getfield 7, 3) := by decide +kernel
theorem dX9_fuse_7 : decode cX9_fuse 7 = .ok (.iload_n 1, 1) := by decide +kernel
theorem dX9_fuse_8 : decode cX9_fuse 8 = .ok (.iaload, 1) := by decide +kernel
theorem dX9_fuse_9 : decode cX9_fuse 9 = .ok (.if_icmp .ge 63, 3) := by decide +kernel
theorem dX9_fuse_12 : decode cX9_fuse 12 = .ok (.aload_n 0, 1) := by decide +kernel
theorem dX9_fuse_13 : decode cX9_fuse 13 = .ok (.getfield 35, 3) := by decide +kernel
theorem dX9_fuse_16 : decode cX9_fuse 16 = .ok (.iload_n 3, 1) := by decide +kernel
theorem dX9_fuse_17 : decode cX9_fuse 17 = .ok (.lconst 0, 1) := by decide +kernel
theorem dX9_fuse_18 : decode cX9_fuse 18 = .ok (.lastore, 1) := by decide +kernel
theorem dX9_fuse_19 : decode cX9_fuse 19 = .ok (.iconst 0, 1) := by decide +kernel
theorem dX9_fuse_20 : decode cX9_fuse 20 = .ok (.istore 4, 2) := by decide +kernel
theorem dX9_fuse_22 : decode cX9_fuse 22 = .ok (.iload 4, 2) := by decide +kernel
theorem dX9_fuse_24 : decode cX9_fuse 24 = .ok (.aload_n 0, 1) := by decide +kernel
theorem dX9_fuse_25 : decode cX9_fuse 25 = .ok (.getfield 7, 3) := by decide +kernel
theorem dX9_fuse_28 : decode cX9_fuse 28 = .ok (.iload_n 1, 1) := by decide +kernel
theorem dX9_fuse_29 : decode cX9_fuse 29 = .ok (.iaload, 1) := by decide +kernel
theorem dX9_fuse_30 : decode cX9_fuse 30 = .ok (.if_icmp .ge 36, 3) := by decide +kernel
theorem dX9_fuse_33 : decode cX9_fuse 33 = .ok (.aload_n 0, 1) := by decide +kernel
theorem dX9_fuse_34 : decode cX9_fuse 34 = .ok (.getfield 35, 3) := by decide +kernel
theorem dX9_fuse_37 : decode cX9_fuse 37 = .ok (.iload_n 3, 1) := by decide +kernel
theorem dX9_fuse_38 : decode cX9_fuse 38 = .ok (.dup2, 1) := by decide +kernel
theorem dX9_fuse_39 : decode cX9_fuse 39 = .ok (.laload, 1) := by decide +kernel
theorem dX9_fuse_40 : decode cX9_fuse 40 = .ok (.aload_n 0, 1) := by decide +kernel
theorem dX9_fuse_41 : decode cX9_fuse 41 = .ok (.getfield 31, 3) := by decide +kernel
theorem dX9_fuse_44 : decode cX9_fuse 44 = .ok (.iload 4, 2) := by decide +kernel
theorem dX9_fuse_46 : decode cX9_fuse 46 = .ok (.laload, 1) := by decide +kernel
theorem dX9_fuse_47 : decode cX9_fuse 47 = .ok (.aload_n 0, 1) := by decide +kernel
theorem dX9_fuse_48 : decode cX9_fuse 48 = .ok (.iload_n 1, 1) := by decide +kernel
theorem dX9_fuse_49 : decode cX9_fuse 49 = .ok (.iload 4, 2) := by decide +kernel
theorem dX9_fuse_51 : decode cX9_fuse 51 = .ok (.iload_n 2, 1) := by decide +kernel
theorem dX9_fuse_52 : decode cX9_fuse 52 = .ok (.iload_n 3, 1) := by decide +kernel
theorem dX9_fuse_53 : decode cX9_fuse 53 = .ok (.invokevirtual 74, 3) := by decide +kernel
theorem dX9_fuse_56 : decode cX9_fuse 56 = .ok (.i2l, 1) := by decide +kernel
theorem dX9_fuse_57 : decode cX9_fuse 57 = .ok (.lmul, 1) := by decide +kernel
theorem dX9_fuse_58 : decode cX9_fuse 58 = .ok (.ladd, 1) := by decide +kernel
theorem dX9_fuse_59 : decode cX9_fuse 59 = .ok (.lastore, 1) := by decide +kernel
theorem dX9_fuse_60 : decode cX9_fuse 60 = .ok (.iinc 4 1, 3) := by decide +kernel
theorem dX9_fuse_63 : decode cX9_fuse 63 = .ok (.goto (-41), 3) := by decide +kernel
theorem dX9_fuse_66 : decode cX9_fuse 66 = .ok (.iinc 3 1, 3) := by decide +kernel
theorem dX9_fuse_69 : decode cX9_fuse 69 = .ok (.goto (-67), 3) := by decide +kernel
theorem dX9_fuse_72 : decode cX9_fuse 72 = .ok (.iconst 0, 1) := by decide +kernel
theorem dX9_fuse_73 : decode cX9_fuse 73 = .ok (.istore_n 3, 1) := by decide +kernel
theorem dX9_fuse_74 : decode cX9_fuse 74 = .ok (.iload_n 3, 1) := by decide +kernel
theorem dX9_fuse_75 : decode cX9_fuse 75 = .ok (.aload_n 0, 1) := by decide +kernel
theorem dX9_fuse_76 : decode cX9_fuse 76 = .ok (.getfield 7, 3) := by decide +kernel
theorem dX9_fuse_79 : decode cX9_fuse 79 = .ok (.iload_n 1, 1) := by decide +kernel
theorem dX9_fuse_80 : decode cX9_fuse 80 = .ok (.iaload, 1) := by decide +kernel
theorem dX9_fuse_81 : decode cX9_fuse 81 = .ok (.if_icmp .ge 21, 3) := by decide +kernel
theorem dX9_fuse_84 : decode cX9_fuse 84 = .ok (.aload_n 0, 1) := by decide +kernel
theorem dX9_fuse_85 : decode cX9_fuse 85 = .ok (.getfield 31, 3) := by decide +kernel
theorem dX9_fuse_88 : decode cX9_fuse 88 = .ok (.iload_n 3, 1) := by decide +kernel
theorem dX9_fuse_89 : decode cX9_fuse 89 = .ok (.aload_n 0, 1) := by decide +kernel
theorem dX9_fuse_90 : decode cX9_fuse 90 = .ok (.getfield 35, 3) := by decide +kernel
theorem dX9_fuse_93 : decode cX9_fuse 93 = .ok (.iload_n 3, 1) := by decide +kernel
theorem dX9_fuse_94 : decode cX9_fuse 94 = .ok (.laload, 1) := by decide +kernel
theorem dX9_fuse_95 : decode cX9_fuse 95 = .ok (.lastore, 1) := by decide +kernel
theorem dX9_fuse_96 : decode cX9_fuse 96 = .ok (.iinc 3 1, 3) := by decide +kernel
theorem dX9_fuse_99 : decode cX9_fuse 99 = .ok (.goto (-25), 3) := by decide +kernel
theorem dX9_fuse_102 : decode cX9_fuse 102 = .ok (.return_, 1) := by decide +kernel
set_option maxRecDepth 20000 in
theorem ggX9_fused_X9_noTable : GoodIn wsX9_fused wsX9_noTable := goodIn_r _ [8, 9, 10, 11, 7, 12] (by decide +kernel) (by decide +kernel)
set_option maxRecDepth 20000 in
theorem gX9_fused_X9_noTable : GoodIn wsX9_fused (va_wsS RX9 64 yX9_noTable wsX9_noTable) := goodIn_app (goodIn_of _ (by decide +kernel)) ggX9_fused_X9_noTable
set_option maxRecDepth 20000 in
theorem ggX9_fused_X9_isKind : GoodIn wsX9_fused wsX9_isKind := goodIn_r _ [16, 17, 10, 11, 7, 12, 32, 33, 34, 35, 36, 37, 38, 39, 40, 41, 42, 43, 44, 45, 46] (by decide +kernel) (by decide +kernel)
set_option maxRecDepth 20000 in
theorem gX9_fused_X9_isKind : GoodIn wsX9_fused (wsV RX9 68 RX9 yX9_isKind wsX9_isKind) := goodIn_app (goodIn_of _ (by decide +kernel)) ggX9_fused_X9_isKind
set_option maxRecDepth 20000 in
theorem ggX9_fused_X9_start : GoodIn wsX9_fused wsX9_start := goodIn_r _ [21, 4, 32, 33, 34, 35, 36, 37, 38, 39, 40, 41, 42, 43, 44, 45, 46] (by decide +kernel) (by decide +kernel)
set_option maxRecDepth 20000 in
theorem gX9_fused_X9_start : GoodIn wsX9_fused (wsV RX9 144 RX9 yX9_start wsX9_start) := goodIn_app (goodIn_of _ (by decide +kernel)) ggX9_fused_X9_start
set_option maxRecDepth 20000 in
theorem ggX9_fused_X9_fuse : GoodIn wsX9_fused wsX9_fuse := goodIn_r _ [25, 17, 26, 4, 27, 28, 29, 7, 30, 31, 32, 33, 34, 35, 36, 37, 38, 39, 40, 41, 42, 43, 44, 45, 46] (by decide +kernel) (by decide +kernel)
set_option maxRecDepth 20000 in
theorem gX9_fused_X9_fuse : GoodIn wsX9_fused (wsV RX9 147 RX9 yX9_fuse wsX9_fuse) := goodIn_app (goodIn_of _ (by decide +kernel)) ggX9_fused_X9_fuse
theorem dX9_fused_0 : decode cX9_fused 0 = .ok (.iload_n 1, 1) := by decide +kernel
theorem dX9_fused_1 : decode cX9_fused 1 = .ok (.invokestatic 64, 3) := by decide +kernel
theorem dX9_fused_4 : decode cX9_fused 4 = .ok (.ifCond .ne 12, 3) := by decide +kernel
theorem dX9_fused_7 : decode cX9_fused 7 = .ok (.aload_n 0, 1) := by decide +kernel
theorem dX9_fused_8 : decode cX9_fused 8 = .ok (.iload_n 1, 1) := by decide +kernel
theorem dX9_fused_9 : decode cX9_fused 9 = .ok (.iload_n 2, 1) := by decide +kernel
theorem dX9_fused_10 : decode cX9_fused 10 = .ok (.invokevirtual 68, 3) := by decide +kernel
theorem dX9_fused_13 : decode cX9_fused 13 = .ok (.ifCond .ne 7, 3) := by decide +kernel
theorem dX9_fused_16 : decode cX9_fused 16 = .ok (.ldc2_w 142, 3) := by decide +kernel
theorem dX9_fused_19 : decode cX9_fused 19 = .ok (.lreturn, 1) := by decide +kernel
theorem dX9_fused_20 : decode cX9_fused 20 = .ok (.aload_n 0, 1) := by decide +kernel
theorem dX9_fused_21 : decode cX9_fused 21 = .ok (.iload_n 1, 1) := by decide +kernel
theorem dX9_fused_22 : decode cX9_fused 22 = .ok (.iconst 0, 1) := by decide +kernel
theorem dX9_fused_23 : decode cX9_fused 23 = .ok (.invokevirtual 144, 3) := by decide +kernel
theorem dX9_fused_26 : decode cX9_fused 26 = .ok (.iconst 0, 1) := by decide +kernel
theorem dX9_fused_27 : decode cX9_fused 27 = .ok (.istore_n 3, 1) := by decide +kernel
theorem dX9_fused_28 : decode cX9_fused 28 = .ok (.iload_n 3, 1) := by decide +kernel
theorem dX9_fused_29 : decode cX9_fused 29 = .ok (.aload_n 0, 1) := by decide +kernel
theorem dX9_fused_30 : decode cX9_fused 30 = .ok (.getfield 139, 3) := by decide +kernel
theorem dX9_fused_33 : decode cX9_fused 33 = .ok (.if_icmp .ge 38, 3) := by decide +kernel
theorem dX9_fused_36 : decode cX9_fused 36 = .ok (.aload_n 0, 1) := by decide +kernel
theorem dX9_fused_37 : decode cX9_fused 37 = .ok (.iload_n 1, 1) := by decide +kernel
theorem dX9_fused_38 : decode cX9_fused 38 = .ok (.aload_n 0, 1) := by decide +kernel
theorem dX9_fused_39 : decode cX9_fused 39 = .ok (.getfield 28, 3) := by decide +kernel
theorem dX9_fused_42 : decode cX9_fused 42 = .ok (.iload_n 3, 1) := by decide +kernel
theorem dX9_fused_43 : decode cX9_fused 43 = .ok (.iaload, 1) := by decide +kernel
theorem dX9_fused_44 : decode cX9_fused 44 = .ok (.invokevirtual 68, 3) := by decide +kernel
theorem dX9_fused_47 : decode cX9_fused 47 = .ok (.ifCond .ne 7, 3) := by decide +kernel
theorem dX9_fused_50 : decode cX9_fused 50 = .ok (.ldc2_w 142, 3) := by decide +kernel
theorem dX9_fused_53 : decode cX9_fused 53 = .ok (.lreturn, 1) := by decide +kernel
theorem dX9_fused_54 : decode cX9_fused 54 = .ok (.aload_n 0, 1) := by decide +kernel
theorem dX9_fused_55 : decode cX9_fused 55 = .ok (.iload_n 1, 1) := by decide +kernel
theorem dX9_fused_56 : decode cX9_fused 56 = .ok (.aload_n 0, 1) := by decide +kernel
theorem dX9_fused_57 : decode cX9_fused 57 = .ok (.getfield 28, 3) := by decide +kernel
theorem dX9_fused_60 : decode cX9_fused 60 = .ok (.iload_n 3, 1) := by decide +kernel
theorem dX9_fused_61 : decode cX9_fused 61 = .ok (.iaload, 1) := by decide +kernel
theorem dX9_fused_62 : decode cX9_fused 62 = .ok (.invokevirtual 147, 3) := by decide +kernel
theorem dX9_fused_65 : decode cX9_fused 65 = .ok (.iinc 3 1, 3) := by decide +kernel
theorem dX9_fused_68 : decode cX9_fused 68 = .ok (.goto (-40), 3) := by decide +kernel
theorem dX9_fused_71 : decode cX9_fused 71 = .ok (.aload_n 0, 1) := by decide +kernel
theorem dX9_fused_72 : decode cX9_fused 72 = .ok (.getfield 31, 3) := by decide +kernel
theorem dX9_fused_75 : decode cX9_fused 75 = .ok (.iload_n 2, 1) := by decide +kernel
theorem dX9_fused_76 : decode cX9_fused 76 = .ok (.laload, 1) := by decide +kernel
theorem dX9_fused_77 : decode cX9_fused 77 = .ok (.lreturn, 1) := by decide +kernel
set_option maxRecDepth 20000 in
theorem ggX9_ways_X9_noTable : GoodIn wsX9_ways wsX9_noTable := goodIn_r _ [7, 8, 9, 10, 6, 11] (by decide +kernel) (by decide +kernel)
set_option maxRecDepth 20000 in
theorem gX9_ways_X9_noTable : GoodIn wsX9_ways (va_wsS RX9 64 yX9_noTable wsX9_noTable) := goodIn_app (goodIn_of _ (by decide +kernel)) ggX9_ways_X9_noTable
set_option maxRecDepth 20000 in
theorem ggX9_ways_X9_isKind : GoodIn wsX9_ways wsX9_isKind := goodIn_r _ [15, 16, 9, 10, 6, 11, 31, 32, 33, 34, 35, 36, 37, 38, 39, 40, 41, 42, 43, 44, 45] (by decide +kernel) (by decide +kernel)
set_option maxRecDepth 20000 in
theorem gX9_ways_X9_isKind : GoodIn wsX9_ways (wsV RX9 68 RX9 yX9_isKind wsX9_isKind) := goodIn_app (goodIn_of _ (by decide +kernel)) ggX9_ways_X9_isKind
set_option maxRecDepth 20000 in
theorem ggX9_ways_X9_in : GoodIn wsX9_ways wsX9_in := goodIn_r _ [11] (by decide +kernel) (by decide +kernel)
set_option maxRecDepth 20000 in
theorem gX9_ways_X9_in : GoodIn wsX9_ways (va_wsS RX9 60 yX9_in wsX9_in) := goodIn_app (goodIn_of _ (by decide +kernel)) ggX9_ways_X9_in
set_option maxRecDepth 20000 in
theorem ggX9_ways_X9_start : GoodIn wsX9_ways wsX9_start := goodIn_r _ [20, 3, 31, 32, 33, 34, 35, 36, 37, 38, 39, 40, 41, 42, 43, 44, 45] (by decide +kernel) (by decide +kernel)
set_option maxRecDepth 20000 in
theorem gX9_ways_X9_start : GoodIn wsX9_ways (wsV RX9 144 RX9 yX9_start wsX9_start) := goodIn_app (goodIn_of _ (by decide +kernel)) ggX9_ways_X9_start
set_option maxRecDepth 20000 in
theorem ggX9_ways_X9_fuse : GoodIn wsX9_ways wsX9_fuse := goodIn_r _ [24, 16, 25, 3, 26, 27, 28, 6, 29, 30, 31, 32, 33, 34, 35, 36, 37, 38, 39, 40, 41, 42, 43, 44, 45] (by decide +kernel) (by decide +kernel)
set_option maxRecDepth 20000 in
theorem gX9_ways_X9_fuse : GoodIn wsX9_ways (wsV RX9 147 RX9 yX9_fuse wsX9_fuse) := goodIn_app (goodIn_of _ (by decide +kernel)) ggX9_ways_X9_fuse
theorem dX9_ways_0 : decode cX9_ways 0 = .ok (.iload_n 1, 1) := by decide +kernel
theorem dX9_ways_1 : decode cX9_ways 1 = .ok (.invokestatic 64, 3) := by decide +kernel
theorem dX9_ways_4 : decode cX9_ways 4 = .ok (.ifCond .ne 44, 3) := by decide +kernel
theorem dX9_ways_7 : decode cX9_ways 7 = .ok (.aload_n 0, 1) := by decide +kernel
theorem dX9_ways_8 : decode cX9_ways 8 = .ok (.iload_n 1, 1) := by decide +kernel
theorem dX9_ways_9 : decode cX9_ways 9 = .ok (.iload_n 2, 1) := by decide +kernel
theorem dX9_ways_10 : decode cX9_ways 10 = .ok (.invokevirtual 68, 3) := by decide +kernel
theorem dX9_ways_13 : decode cX9_ways 13 = .ok (.ifCond .eq 35, 3) := by decide +kernel
theorem dX9_ways_16 : decode cX9_ways 16 = .ok (.aload_n 0, 1) := by decide +kernel
theorem dX9_ways_17 : decode cX9_ways 17 = .ok (.iload_n 1, 1) := by decide +kernel
theorem dX9_ways_18 : decode cX9_ways 18 = .ok (.iload_n 3, 1) := by decide +kernel
theorem dX9_ways_19 : decode cX9_ways 19 = .ok (.invokevirtual 68, 3) := by decide +kernel
theorem dX9_ways_22 : decode cX9_ways 22 = .ok (.ifCond .eq 26, 3) := by decide +kernel
theorem dX9_ways_25 : decode cX9_ways 25 = .ok (.iload 4, 2) := by decide +kernel
theorem dX9_ways_27 : decode cX9_ways 27 = .ok (.i2l, 1) := by decide +kernel
theorem dX9_ways_28 : decode cX9_ways 28 = .ok (.lconst 0, 1) := by decide +kernel
theorem dX9_ways_29 : decode cX9_ways 29 = .ok (.ldc2_w 150, 3) := by decide +kernel
theorem dX9_ways_32 : decode cX9_ways 32 = .ok (.invokestatic 60, 3) := by decide +kernel
theorem dX9_ways_35 : decode cX9_ways 35 = .ok (.ifCond .eq 13, 3) := by decide +kernel
theorem dX9_ways_38 : decode cX9_ways 38 = .ok (.aload_n 0, 1) := by decide +kernel
theorem dX9_ways_39 : decode cX9_ways 39 = .ok (.iload_n 1, 1) := by decide +kernel
theorem dX9_ways_40 : decode cX9_ways 40 = .ok (.iload 5, 2) := by decide +kernel
theorem dX9_ways_42 : decode cX9_ways 42 = .ok (.invokevirtual 68, 3) := by decide +kernel
theorem dX9_ways_45 : decode cX9_ways 45 = .ok (.ifCond .ne 7, 3) := by decide +kernel
theorem dX9_ways_48 : decode cX9_ways 48 = .ok (.ldc2_w 142, 3) := by decide +kernel
theorem dX9_ways_51 : decode cX9_ways 51 = .ok (.lreturn, 1) := by decide +kernel
theorem dX9_ways_52 : decode cX9_ways 52 = .ok (.aload_n 0, 1) := by decide +kernel
theorem dX9_ways_53 : decode cX9_ways 53 = .ok (.iload_n 1, 1) := by decide +kernel
theorem dX9_ways_54 : decode cX9_ways 54 = .ok (.iload_n 2, 1) := by decide +kernel
theorem dX9_ways_55 : decode cX9_ways 55 = .ok (.invokevirtual 144, 3) := by decide +kernel
theorem dX9_ways_58 : decode cX9_ways 58 = .ok (.iconst 0, 1) := by decide +kernel
theorem dX9_ways_59 : decode cX9_ways 59 = .ok (.istore 6, 2) := by decide +kernel
theorem dX9_ways_61 : decode cX9_ways 61 = .ok (.iload 6, 2) := by decide +kernel
theorem dX9_ways_63 : decode cX9_ways 63 = .ok (.iload 4, 2) := by decide +kernel
theorem dX9_ways_65 : decode cX9_ways 65 = .ok (.if_icmp .ge 15, 3) := by decide +kernel
theorem dX9_ways_68 : decode cX9_ways 68 = .ok (.aload_n 0, 1) := by decide +kernel
theorem dX9_ways_69 : decode cX9_ways 69 = .ok (.iload_n 1, 1) := by decide +kernel
theorem dX9_ways_70 : decode cX9_ways 70 = .ok (.iload_n 3, 1) := by decide +kernel
theorem dX9_ways_71 : decode cX9_ways 71 = .ok (.invokevirtual 147, 3) := by decide +kernel
theorem dX9_ways_74 : decode cX9_ways 74 = .ok (.iinc 6 1, 3) := by decide +kernel
theorem dX9_ways_77 : decode cX9_ways 77 = .ok (.goto (-16), 3) := by decide +kernel
theorem dX9_ways_80 : decode cX9_ways 80 = .ok (.aload_n 0, 1) := by decide +kernel
theorem dX9_ways_81 : decode cX9_ways 81 = .ok (.getfield 31, 3) := by decide +kernel
theorem dX9_ways_84 : decode cX9_ways 84 = .ok (.iload 5, 2) := by decide +kernel
theorem dX9_ways_86 : decode cX9_ways 86 = .ok (.laload, 1) := by decide +kernel
theorem dX9_ways_87 : decode cX9_ways 87 = .ok (.lreturn, 1) := by decide +kernel
set_option maxRecDepth 20000 in
theorem ggX9_close_X9_n : GoodIn wsX9_close wsX9_n := goodIn_r _ [7, 8, 9, 10, 11, 12, 13, 14, 15, 16, 17, 18, 19, 20, 21, 22, 23] (by decide +kernel) (by decide +kernel)
set_option maxRecDepth 20000 in
theorem gX9_close_X9_n : GoodIn wsX9_close (wsV RX9 74 RX9 yX9_n wsX9_n) := goodIn_app (goodIn_of _ (by decide +kernel)) ggX9_close_X9_n
theorem dX9_close_0 : decode cX9_close 0 = .ok (.iload_n 2, 1) := by decide +kernel
theorem dX9_close_1 : decode cX9_close 1 = .ok (.iconst 1, 1) := by decide +kernel
theorem dX9_close_2 : decode cX9_close 2 = .ok (.ior, 1) := by decide +kernel
theorem dX9_close_3 : decode cX9_close 3 = .ok (.istore_n 3, 1) := by decide +kernel
theorem dX9_close_4 : decode cX9_close 4 = .ok (.iconst 0, 1) := by decide +kernel
theorem dX9_close_5 : decode cX9_close 5 = .ok (.istore 4, 2) := by decide +kernel
theorem dX9_close_7 : decode cX9_close 7 = .ok (.iload_n 3, 1) := by decide +kernel
theorem dX9_close_8 : decode cX9_close 8 = .ok (.iload 4, 2) := by decide +kernel
theorem dX9_close_10 : decode cX9_close 10 = .ok (.if_icmp .eq 128, 3) := by decide +kernel
theorem dX9_close_13 : decode cX9_close 13 = .ok (.iload_n 3, 1) := by decide +kernel
theorem dX9_close_14 : decode cX9_close 14 = .ok (.istore 4, 2) := by decide +kernel
theorem dX9_close_16 : decode cX9_close 16 = .ok (.iconst 0, 1) := by decide +kernel
theorem dX9_close_17 : decode cX9_close 17 = .ok (.istore 5, 2) := by decide +kernel
theorem dX9_close_19 : decode cX9_close 19 = .ok (.iload 5, 2) := by decide +kernel
theorem dX9_close_21 : decode cX9_close 21 = .ok (.aload_n 0, 1) := by decide +kernel
theorem dX9_close_22 : decode cX9_close 22 = .ok (.getfield 7, 3) := by decide +kernel
theorem dX9_close_25 : decode cX9_close 25 = .ok (.iload_n 1, 1) := by decide +kernel
theorem dX9_close_26 : decode cX9_close 26 = .ok (.iaload, 1) := by decide +kernel
theorem dX9_close_27 : decode cX9_close 27 = .ok (.if_icmp .ge 108, 3) := by decide +kernel
theorem dX9_close_30 : decode cX9_close 30 = .ok (.iload 4, 2) := by decide +kernel
theorem dX9_close_32 : decode cX9_close 32 = .ok (.iload 5, 2) := by decide +kernel
theorem dX9_close_34 : decode cX9_close 34 = .ok (.ishr, 1) := by decide +kernel
theorem dX9_close_35 : decode cX9_close 35 = .ok (.iconst 1, 1) := by decide +kernel
theorem dX9_close_36 : decode cX9_close 36 = .ok (.iand, 1) := by decide +kernel
theorem dX9_close_37 : decode cX9_close 37 = .ok (.iconst 1, 1) := by decide +kernel
theorem dX9_close_38 : decode cX9_close 38 = .ok (.if_icmp .ne 91, 3) := by decide +kernel
theorem dX9_close_41 : decode cX9_close 41 = .ok (.iload_n 3, 1) := by decide +kernel
theorem dX9_close_42 : decode cX9_close 42 = .ok (.iconst 1, 1) := by decide +kernel
theorem dX9_close_43 : decode cX9_close 43 = .ok (.aload_n 0, 1) := by decide +kernel
theorem dX9_close_44 : decode cX9_close 44 = .ok (.getfield 19, 3) := by decide +kernel
theorem dX9_close_47 : decode cX9_close 47 = .ok (.iload 5, 2) := by decide +kernel
theorem dX9_close_49 : decode cX9_close 49 = .ok (.iaload, 1) := by decide +kernel
theorem dX9_close_50 : decode cX9_close 50 = .ok (.ishl, 1) := by decide +kernel
theorem dX9_close_51 : decode cX9_close 51 = .ok (.ior, 1) := by decide +kernel
theorem dX9_close_52 : decode cX9_close 52 = .ok (.istore_n 3, 1) := by decide +kernel
theorem dX9_close_53 : decode cX9_close 53 = .ok (.iconst 0, 1) := by decide +kernel
theorem dX9_close_54 : decode cX9_close 54 = .ok (.istore 6, 2) := by decide +kernel
theorem dX9_close_56 : decode cX9_close 56 = .ok (.iload 6, 2) := by decide +kernel
theorem dX9_close_58 : decode cX9_close 58 = .ok (.aload_n 0, 1) := by decide +kernel
theorem dX9_close_59 : decode cX9_close 59 = .ok (.getfield 7, 3) := by decide +kernel
theorem dX9_close_62 : decode cX9_close 62 = .ok (.iload_n 1, 1) := by decide +kernel
theorem dX9_close_63 : decode cX9_close 63 = .ok (.iaload, 1) := by decide +kernel
theorem dX9_close_64 : decode cX9_close 64 = .ok (.if_icmp .ge 65, 3) := by decide +kernel
theorem dX9_close_67 : decode cX9_close 67 = .ok (.iconst 0, 1) := by decide +kernel
theorem dX9_close_68 : decode cX9_close 68 = .ok (.istore 7, 2) := by decide +kernel
theorem dX9_close_70 : decode cX9_close 70 = .ok (.iload 7, 2) := by decide +kernel
theorem dX9_close_72 : decode cX9_close 72 = .ok (.aload_n 0, 1) := by decide +kernel
theorem dX9_close_73 : decode cX9_close 73 = .ok (.getfield 7, 3) := by decide +kernel
theorem dX9_close_76 : decode cX9_close 76 = .ok (.iload_n 1, 1) := by decide +kernel
theorem dX9_close_77 : decode cX9_close 77 = .ok (.iaload, 1) := by decide +kernel
theorem dX9_close_78 : decode cX9_close 78 = .ok (.if_icmp .ge 45, 3) := by decide +kernel
theorem dX9_close_81 : decode cX9_close 81 = .ok (.iload_n 3, 1) := by decide +kernel
theorem dX9_close_82 : decode cX9_close 82 = .ok (.iload 4, 2) := by decide +kernel
theorem dX9_close_84 : decode cX9_close 84 = .ok (.iload 6, 2) := by decide +kernel
theorem dX9_close_86 : decode cX9_close 86 = .ok (.ishr, 1) := by decide +kernel
theorem dX9_close_87 : decode cX9_close 87 = .ok (.iconst 1, 1) := by decide +kernel
theorem dX9_close_88 : decode cX9_close 88 = .ok (.iand, 1) := by decide +kernel
theorem dX9_close_89 : decode cX9_close 89 = .ok (.iconst 1, 1) := by decide +kernel
theorem dX9_close_90 : decode cX9_close 90 = .ok (.if_icmp .ne 24, 3) := by decide +kernel
theorem dX9_close_93 : decode cX9_close 93 = .ok (.aload_n 0, 1) := by decide +kernel
theorem dX9_close_94 : decode cX9_close 94 = .ok (.iload_n 1, 1) := by decide +kernel
theorem dX9_close_95 : decode cX9_close 95 = .ok (.iload 5, 2) := by decide +kernel
theorem dX9_close_97 : decode cX9_close 97 = .ok (.iload 6, 2) := by decide +kernel
theorem dX9_close_99 : decode cX9_close 99 = .ok (.iload 7, 2) := by decide +kernel
theorem dX9_close_101 : decode cX9_close 101 = .ok (.invokevirtual 74, 3) := by decide +kernel
theorem dX9_close_104 : decode cX9_close 104 = .ok (.ifCond .le 10, 3) := by decide +kernel
theorem dX9_close_107 : decode cX9_close 107 = .ok (.iconst 1, 1) := by decide +kernel
theorem dX9_close_108 : decode cX9_close 108 = .ok (.iload 7, 2) := by decide +kernel
theorem dX9_close_110 : decode cX9_close 110 = .ok (.ishl, 1) := by decide +kernel
theorem dX9_close_111 : decode cX9_close 111 = .ok (.goto 4, 3) := by decide +kernel
theorem dX9_close_114 : decode cX9_close 114 = .ok (.iconst 0, 1) := by decide +kernel
theorem dX9_close_115 : decode cX9_close 115 = .ok (.ior, 1) := by decide +kernel
theorem dX9_close_116 : decode cX9_close 116 = .ok (.istore_n 3, 1) := by decide +kernel
theorem dX9_close_117 : decode cX9_close 117 = .ok (.iinc 7 1, 3) := by decide +kernel
theorem dX9_close_120 : decode cX9_close 120 = .ok (.goto (-50), 3) := by decide +kernel
theorem dX9_close_123 : decode cX9_close 123 = .ok (.iinc 6 1, 3) := by decide +kernel
theorem dX9_close_126 : decode cX9_close 126 = .ok (.goto (-70), 3) := by decide +kernel
theorem dX9_close_129 : decode cX9_close 129 = .ok (.iinc 5 1, 3) := by decide +kernel
theorem dX9_close_132 : decode cX9_close 132 = .ok (.goto (-113), 3) := by decide +kernel
theorem dX9_close_135 : decode cX9_close 135 = .ok (.goto (-128), 3) := by decide +kernel
theorem dX9_close_138 : decode cX9_close 138 = .ok (.iload_n 3, 1) := by decide +kernel
theorem dX9_close_139 : decode cX9_close 139 = .ok (.ireturn, 1) := by decide +kernel
set_option maxRecDepth 20000 in
theorem ggX9_isSet_X9_in : GoodIn wsX9_isSet wsX9_in := goodIn_r _ [5] (by decide +kernel) (by decide +kernel)
set_option maxRecDepth 20000 in
theorem gX9_isSet_X9_in : GoodIn wsX9_isSet (va_wsS RX9 60 yX9_in wsX9_in) := goodIn_app (goodIn_of _ (by decide +kernel)) ggX9_isSet_X9_in
theorem dX9_isSet_0 : decode cX9_isSet 0 = .ok (.iload_n 2, 1) := by decide +kernel
theorem dX9_isSet_1 : decode cX9_isSet 1 = .ok (.i2l, 1) := by decide +kernel
theorem dX9_isSet_2 : decode cX9_isSet 2 = .ok (.iload_n 3, 1) := by decide +kernel
theorem dX9_isSet_3 : decode cX9_isSet 3 = .ok (.i2l, 1) := by decide +kernel
theorem dX9_isSet_4 : decode cX9_isSet 4 = .ok (.iconst 1, 1) := by decide +kernel
theorem dX9_isSet_5 : decode cX9_isSet 5 = .ok (.aload_n 0, 1) := by decide +kernel
theorem dX9_isSet_6 : decode cX9_isSet 6 = .ok (.getfield 7, 3) := by decide +kernel
theorem dX9_isSet_9 : decode cX9_isSet 9 = .ok (.iload_n 1, 1) := by decide +kernel
theorem dX9_isSet_10 : decode cX9_isSet 10 = .ok (.iaload, 1) := by decide +kernel
theorem dX9_isSet_11 : decode cX9_isSet 11 = .ok (.ishl, 1) := by decide +kernel
theorem dX9_isSet_12 : decode cX9_isSet 12 = .ok (.iconst 1, 1) := by decide +kernel
theorem dX9_isSet_13 : decode cX9_isSet 13 = .ok (.isub, 1) := by decide +kernel
theorem dX9_isSet_14 : decode cX9_isSet 14 = .ok (.i2l, 1) := by decide +kernel
theorem dX9_isSet_15 : decode cX9_isSet 15 = .ok (.invokestatic 60, 3) := by decide +kernel
theorem dX9_isSet_18 : decode cX9_isSet 18 = .ok (.ireturn, 1) := by decide +kernel
set_option maxRecDepth 20000 in
theorem ggX9_closed_X9_noTable : GoodIn wsX9_closed wsX9_noTable := goodIn_r _ [4, 5, 6, 7, 3, 8] (by decide +kernel) (by decide +kernel)
set_option maxRecDepth 20000 in
theorem gX9_closed_X9_noTable : GoodIn wsX9_closed (va_wsS RX9 64 yX9_noTable wsX9_noTable) := goodIn_app (goodIn_of _ (by decide +kernel)) ggX9_closed_X9_noTable
set_option maxRecDepth 20000 in
theorem ggX9_closed_X9_isSet : GoodIn wsX9_closed wsX9_isSet := goodIn_r _ [12, 13, 6, 7, 3, 8, 49, 50, 51, 52, 53, 54, 55, 56, 57, 58, 59, 60, 61, 62, 63] (by decide +kernel) (by decide +kernel)
set_option maxRecDepth 20000 in
theorem gX9_closed_X9_isSet : GoodIn wsX9_closed (wsV RX9 152 RX9 yX9_isSet wsX9_isSet) := goodIn_app (goodIn_of _ (by decide +kernel)) ggX9_closed_X9_isSet
set_option maxRecDepth 20000 in
theorem ggX9_closed_X9_isRight : GoodIn wsX9_closed wsX9_isRight := goodIn_r _ [17, 18, 19, 20, 3, 21, 13, 22, 23, 24, 25, 26, 27, 28, 29, 30, 31, 32, 33, 34, 35, 36, 37, 38, 39, 40, 41, 42, 43, 44, 49, 50, 51, 52, 53, 54, 55, 56, 57, 58, 59, 60, 61, 62, 63] (by decide +kernel) (by decide +kernel)
set_option maxRecDepth 20000 in
theorem gX9_closed_X9_isRight : GoodIn wsX9_closed (wsV RX9 96 RX9 yX9_isRight wsX9_isRight) := goodIn_app (goodIn_of _ (by decide +kernel)) ggX9_closed_X9_isRight
set_option maxRecDepth 20000 in
theorem ggX9_closed_X9_close : GoodIn wsX9_closed wsX9_close := goodIn_r _ [48, 13, 36, 22, 23, 24, 3, 25, 26, 49, 50, 51, 52, 53, 54, 55, 56, 57, 58, 59, 60, 61, 62, 63] (by decide +kernel) (by decide +kernel)
set_option maxRecDepth 20000 in
theorem gX9_closed_X9_close : GoodIn wsX9_closed (wsV RX9 155 RX9 yX9_close wsX9_close) := goodIn_app (goodIn_of _ (by decide +kernel)) ggX9_closed_X9_close
theorem dX9_closed_0 : decode cX9_closed 0 = .ok (.iload_n 1, 1) := by decide +kernel
theorem dX9_closed_1 : decode cX9_closed 1 = .ok (.invokestatic 64, 3) := by decide +kernel
theorem dX9_closed_4 : decode cX9_closed 4 = .ok (.ifCond .ne 13, 3) := by decide +kernel
theorem dX9_closed_7 : decode cX9_closed 7 = .ok (.aload_n 0, 1) := by decide +kernel
theorem dX9_closed_8 : decode cX9_closed 8 = .ok (.iload_n 1, 1) := by decide +kernel
theorem dX9_closed_9 : decode cX9_closed 9 = .ok (.iload_n 2, 1) := by decide +kernel
theorem dX9_closed_10 : decode cX9_closed 10 = .ok (.iconst 1, 1) := by decide +kernel
theorem dX9_closed_11 : decode cX9_closed 11 = .ok (.invokevirtual 152, 3) := by decide +kernel
theorem dX9_closed_14 : decode cX9_closed 14 = .ok (.ifCond .ne 6, 3) := by decide +kernel
theorem dX9_closed_17 : decode cX9_closed 17 = .ok (.bipush (-2), 2) := by decide +kernel
theorem dX9_closed_19 : decode cX9_closed 19 = .ok (.ireturn, 1) := by decide +kernel
theorem dX9_closed_20 : decode cX9_closed 20 = .ok (.aload_n 0, 1) := by decide +kernel
theorem dX9_closed_21 : decode cX9_closed 21 = .ok (.iload_n 1, 1) := by decide +kernel
theorem dX9_closed_22 : decode cX9_closed 22 = .ok (.invokevirtual 96, 3) := by decide +kernel
theorem dX9_closed_25 : decode cX9_closed 25 = .ok (.ifCond .ne 8, 3) := by decide +kernel
theorem dX9_closed_28 : decode cX9_closed 28 = .ok (.bipush (-3), 2) := by decide +kernel
theorem dX9_closed_30 : decode cX9_closed 30 = .ok (.goto 18, 3) := by decide +kernel
theorem dX9_closed_33 : decode cX9_closed 33 = .ok (.aload_n 0, 1) := by decide +kernel
theorem dX9_closed_34 : decode cX9_closed 34 = .ok (.iload_n 1, 1) := by decide +kernel
theorem dX9_closed_35 : decode cX9_closed 35 = .ok (.iload_n 2, 1) := by decide +kernel
theorem dX9_closed_36 : decode cX9_closed 36 = .ok (.invokevirtual 155, 3) := by decide +kernel
theorem dX9_closed_39 : decode cX9_closed 39 = .ok (.iload_n 2, 1) := by decide +kernel
theorem dX9_closed_40 : decode cX9_closed 40 = .ok (.if_icmp .ne 7, 3) := by decide +kernel
theorem dX9_closed_43 : decode cX9_closed 43 = .ok (.iconst 1, 1) := by decide +kernel
theorem dX9_closed_44 : decode cX9_closed 44 = .ok (.goto 4, 3) := by decide +kernel
theorem dX9_closed_47 : decode cX9_closed 47 = .ok (.iconst 0, 1) := by decide +kernel
theorem dX9_closed_48 : decode cX9_closed 48 = .ok (.ireturn, 1) := by decide +kernel
set_option maxRecDepth 20000 in
theorem ggX9_least_X9_noTable : GoodIn wsX9_least wsX9_noTable := goodIn_r _ [4, 5, 6, 7, 3, 8] (by decide +kernel) (by decide +kernel)
set_option maxRecDepth 20000 in
theorem gX9_least_X9_noTable : GoodIn wsX9_least (va_wsS RX9 64 yX9_noTable wsX9_noTable) := goodIn_app (goodIn_of _ (by decide +kernel)) ggX9_least_X9_noTable
set_option maxRecDepth 20000 in
theorem ggX9_least_X9_isSet : GoodIn wsX9_least wsX9_isSet := goodIn_r _ [12, 13, 6, 7, 3, 8, 49, 50, 51, 52, 53, 54, 55, 56, 57, 58, 59, 60, 61, 62, 63] (by decide +kernel) (by decide +kernel)
set_option maxRecDepth 20000 in
theorem gX9_least_X9_isSet : GoodIn wsX9_least (wsV RX9 152 RX9 yX9_isSet wsX9_isSet) := goodIn_app (goodIn_of _ (by decide +kernel)) ggX9_least_X9_isSet
set_option maxRecDepth 20000 in
theorem ggX9_least_X9_isRight : GoodIn wsX9_least wsX9_isRight := goodIn_r _ [17, 18, 19, 20, 3, 21, 13, 22, 23, 24, 25, 26, 27, 28, 29, 30, 31, 32, 33, 34, 35, 36, 37, 38, 39, 40, 41, 42, 43, 44, 49, 50, 51, 52, 53, 54, 55, 56, 57, 58, 59, 60, 61, 62, 63] (by decide +kernel) (by decide +kernel)
set_option maxRecDepth 20000 in
theorem gX9_least_X9_isRight : GoodIn wsX9_least (wsV RX9 96 RX9 yX9_isRight wsX9_isRight) := goodIn_app (goodIn_of _ (by decide +kernel)) ggX9_least_X9_isRight
set_option maxRecDepth 20000 in
theorem ggX9_least_X9_close : GoodIn wsX9_least wsX9_close := goodIn_r _ [48, 13, 36, 22, 23, 24, 3, 25, 26, 49, 50, 51, 52, 53, 54, 55, 56, 57, 58, 59, 60, 61, 62, 63] (by decide +kernel) (by decide +kernel)
set_option maxRecDepth 20000 in
theorem gX9_least_X9_close : GoodIn wsX9_least (wsV RX9 155 RX9 yX9_close wsX9_close) := goodIn_app (goodIn_of _ (by decide +kernel)) ggX9_least_X9_close
theorem dX9_least_0 : decode cX9_least 0 = .ok (.iload_n 1, 1) := by decide +kernel
theorem dX9_least_1 : decode cX9_least 1 = .ok (.invokestatic 64, 3) := by decide +kernel
theorem dX9_least_4 : decode cX9_least 4 = .ok (.ifCond .ne 13, 3) := by decide +kernel
theorem dX9_least_7 : decode cX9_least 7 = .ok (.aload_n 0, 1) := by decide +kernel
theorem dX9_least_8 : decode cX9_least 8 = .ok (.iload_n 1, 1) := by decide +kernel
theorem dX9_least_9 : decode cX9_least 9 = .ok (.iload_n 2, 1) := by decide +kernel
theorem dX9_least_10 : decode cX9_least 10 = .ok (.iconst 0, 1) := by decide +kernel
theorem dX9_least_11 : decode cX9_least 11 = .ok (.invokevirtual 152, 3) := by decide +kernel
theorem dX9_least_14 : decode cX9_least 14 = .ok (.ifCond .ne 6, 3) := by decide +kernel
theorem dX9_least_17 : decode cX9_least 17 = .ok (.bipush (-2), 2) := by decide +kernel
theorem dX9_least_19 : decode cX9_least 19 = .ok (.ireturn, 1) := by decide +kernel
theorem dX9_least_20 : decode cX9_least 20 = .ok (.aload_n 0, 1) := by decide +kernel
theorem dX9_least_21 : decode cX9_least 21 = .ok (.iload_n 1, 1) := by decide +kernel
theorem dX9_least_22 : decode cX9_least 22 = .ok (.invokevirtual 96, 3) := by decide +kernel
theorem dX9_least_25 : decode cX9_least 25 = .ok (.ifCond .eq 12, 3) := by decide +kernel
theorem dX9_least_28 : decode cX9_least 28 = .ok (.aload_n 0, 1) := by decide +kernel
theorem dX9_least_29 : decode cX9_least 29 = .ok (.iload_n 1, 1) := by decide +kernel
theorem dX9_least_30 : decode cX9_least 30 = .ok (.iload_n 2, 1) := by decide +kernel
theorem dX9_least_31 : decode cX9_least 31 = .ok (.invokevirtual 155, 3) := by decide +kernel
theorem dX9_least_34 : decode cX9_least 34 = .ok (.goto 5, 3) := by decide +kernel
theorem dX9_least_37 : decode cX9_least 37 = .ok (.bipush (-3), 2) := by decide +kernel
theorem dX9_least_39 : decode cX9_least 39 = .ok (.ireturn, 1) := by decide +kernel
set_option maxRecDepth 20000 in
theorem ggX9_coreOf_X9_n : GoodIn wsX9_coreOf wsX9_n := goodIn_r _ [7, 8, 13, 14, 15, 16, 17, 18, 19, 20, 21, 22, 23, 24, 25, 26, 27] (by decide +kernel) (by decide +kernel)
set_option maxRecDepth 20000 in
theorem gX9_coreOf_X9_n : GoodIn wsX9_coreOf (wsV RX9 74 RX9 yX9_n wsX9_n) := goodIn_app (goodIn_of _ (by decide +kernel)) ggX9_coreOf_X9_n
set_option maxRecDepth 20000 in
theorem ggX9_coreOf_X9_close : GoodIn wsX9_coreOf wsX9_close := goodIn_r _ [12, 1, 2, 3, 4, 5, 6, 7, 8, 13, 14, 15, 16, 17, 18, 19, 20, 21, 22, 23, 24, 25, 26, 27] (by decide +kernel) (by decide +kernel)
set_option maxRecDepth 20000 in
theorem gX9_coreOf_X9_close : GoodIn wsX9_coreOf (wsV RX9 155 RX9 yX9_close wsX9_close) := goodIn_app (goodIn_of _ (by decide +kernel)) ggX9_coreOf_X9_close
theorem dX9_coreOf_0 : decode cX9_coreOf 0 = .ok (.iconst 0, 1) := by decide +kernel
theorem dX9_coreOf_1 : decode cX9_coreOf 1 = .ok (.istore_n 2, 1) := by decide +kernel
theorem dX9_coreOf_2 : decode cX9_coreOf 2 = .ok (.iconst 0, 1) := by decide +kernel
theorem dX9_coreOf_3 : decode cX9_coreOf 3 = .ok (.istore_n 3, 1) := by decide +kernel
theorem dX9_coreOf_4 : decode cX9_coreOf 4 = .ok (.iload_n 3, 1) := by decide +kernel
theorem dX9_coreOf_5 : decode cX9_coreOf 5 = .ok (.aload_n 0, 1) := by decide +kernel
theorem dX9_coreOf_6 : decode cX9_coreOf 6 = .ok (.getfield 7, 3) := by decide +kernel
theorem dX9_coreOf_9 : decode cX9_coreOf 9 = .ok (.iload_n 1, 1) := by decide +kernel
theorem dX9_coreOf_10 : decode cX9_coreOf 10 = .ok (.iaload, 1) := by decide +kernel
theorem dX9_coreOf_11 : decode cX9_coreOf 11 = .ok (.if_icmp .ge 57, 3) := by decide +kernel
theorem dX9_coreOf_14 : decode cX9_coreOf 14 = .ok (.iconst 0, 1) := by decide +kernel
theorem dX9_coreOf_15 : decode cX9_coreOf 15 = .ok (.istore 4, 2) := by decide +kernel
theorem dX9_coreOf_17 : decode cX9_coreOf 17 = .ok (.iload 4, 2) := by decide +kernel
theorem dX9_coreOf_19 : decode cX9_coreOf 19 = .ok (.aload_n 0, 1) := by decide +kernel
theorem dX9_coreOf_20 : decode cX9_coreOf 20 = .ok (.getfield 7, 3) := by decide +kernel
theorem dX9_coreOf_23 : decode cX9_coreOf 23 = .ok (.iload_n 1, 1) := by decide +kernel
theorem dX9_coreOf_24 : decode cX9_coreOf 24 = .ok (.iaload, 1) := by decide +kernel
theorem dX9_coreOf_25 : decode cX9_coreOf 25 = .ok (.if_icmp .ge 37, 3) := by decide +kernel
theorem dX9_coreOf_28 : decode cX9_coreOf 28 = .ok (.iload_n 2, 1) := by decide +kernel
theorem dX9_coreOf_29 : decode cX9_coreOf 29 = .ok (.aload_n 0, 1) := by decide +kernel
theorem dX9_coreOf_30 : decode cX9_coreOf 30 = .ok (.iload_n 1, 1) := by decide +kernel
theorem dX9_coreOf_31 : decode cX9_coreOf 31 = .ok (.iload_n 3, 1) := by decide +kernel
theorem dX9_coreOf_32 : decode cX9_coreOf 32 = .ok (.aload_n 0, 1) := by decide +kernel
theorem dX9_coreOf_33 : decode cX9_coreOf 33 = .ok (.getfield 19, 3) := by decide +kernel
theorem dX9_coreOf_36 : decode cX9_coreOf 36 = .ok (.iload_n 3, 1) := by decide +kernel
theorem dX9_coreOf_37 : decode cX9_coreOf 37 = .ok (.iaload, 1) := by decide +kernel
theorem dX9_coreOf_38 : decode cX9_coreOf 38 = .ok (.iload 4, 2) := by decide +kernel
theorem dX9_coreOf_40 : decode cX9_coreOf 40 = .ok (.invokevirtual 74, 3) := by decide +kernel
theorem dX9_coreOf_43 : decode cX9_coreOf 43 = .ok (.ifCond .le 10, 3) := by decide +kernel
theorem dX9_coreOf_46 : decode cX9_coreOf 46 = .ok (.iconst 1, 1) := by decide +kernel
theorem dX9_coreOf_47 : decode cX9_coreOf 47 = .ok (.iload 4, 2) := by decide +kernel
theorem dX9_coreOf_49 : decode cX9_coreOf 49 = .ok (.ishl, 1) := by decide +kernel
theorem dX9_coreOf_50 : decode cX9_coreOf 50 = .ok (.goto 4, 3) := by decide +kernel
theorem dX9_coreOf_53 : decode cX9_coreOf 53 = .ok (.iconst 0, 1) := by decide +kernel
theorem dX9_coreOf_54 : decode cX9_coreOf 54 = .ok (.ior, 1) := by decide +kernel
theorem dX9_coreOf_55 : decode cX9_coreOf 55 = .ok (.istore_n 2, 1) := by decide +kernel
theorem dX9_coreOf_56 : decode cX9_coreOf 56 = .ok (.iinc 4 1, 3) := by decide +kernel
theorem dX9_coreOf_59 : decode cX9_coreOf 59 = .ok (.goto (-42), 3) := by decide +kernel
theorem dX9_coreOf_62 : decode cX9_coreOf 62 = .ok (.iinc 3 1, 3) := by decide +kernel
theorem dX9_coreOf_65 : decode cX9_coreOf 65 = .ok (.goto (-61), 3) := by decide +kernel
theorem dX9_coreOf_68 : decode cX9_coreOf 68 = .ok (.aload_n 0, 1) := by decide +kernel
theorem dX9_coreOf_69 : decode cX9_coreOf 69 = .ok (.iload_n 1, 1) := by decide +kernel
theorem dX9_coreOf_70 : decode cX9_coreOf 70 = .ok (.iload_n 2, 1) := by decide +kernel
theorem dX9_coreOf_71 : decode cX9_coreOf 71 = .ok (.invokevirtual 155, 3) := by decide +kernel
theorem dX9_coreOf_74 : decode cX9_coreOf 74 = .ok (.ireturn, 1) := by decide +kernel
set_option maxRecDepth 20000 in
theorem ggX9_core_X9_noTable : GoodIn wsX9_core wsX9_noTable := goodIn_r _ [4, 5, 6, 7, 3, 8] (by decide +kernel) (by decide +kernel)
set_option maxRecDepth 20000 in
theorem gX9_core_X9_noTable : GoodIn wsX9_core (va_wsS RX9 64 yX9_noTable wsX9_noTable) := goodIn_app (goodIn_of _ (by decide +kernel)) ggX9_core_X9_noTable
set_option maxRecDepth 20000 in
theorem ggX9_core_X9_isRight : GoodIn wsX9_core wsX9_isRight := goodIn_r _ [12, 13, 14, 15, 3, 16, 17, 18, 19, 20, 21, 22, 23, 24, 25, 26, 27, 28, 29, 30, 31, 32, 33, 34, 35, 36, 37, 38, 39, 40, 49, 50, 51, 52, 53, 54, 55, 56, 57, 58, 59, 60, 61, 62, 63] (by decide +kernel) (by decide +kernel)
set_option maxRecDepth 20000 in
theorem gX9_core_X9_isRight : GoodIn wsX9_core (wsV RX9 96 RX9 yX9_isRight wsX9_isRight) := goodIn_app (goodIn_of _ (by decide +kernel)) ggX9_core_X9_isRight
set_option maxRecDepth 20000 in
theorem ggX9_core_X9_coreOf : GoodIn wsX9_core wsX9_coreOf := goodIn_r _ [44, 17, 32, 18, 19, 20, 3, 21, 22, 45, 46, 47, 48, 49, 50, 51, 52, 53, 54, 55, 56, 57, 58, 59, 60, 61, 62, 63] (by decide +kernel) (by decide +kernel)
set_option maxRecDepth 20000 in
theorem gX9_core_X9_coreOf : GoodIn wsX9_core (wsV RX9 158 RX9 yX9_coreOf wsX9_coreOf) := goodIn_app (goodIn_of _ (by decide +kernel)) ggX9_core_X9_coreOf
theorem dX9_core_0 : decode cX9_core 0 = .ok (.iload_n 1, 1) := by decide +kernel
theorem dX9_core_1 : decode cX9_core 1 = .ok (.invokestatic 64, 3) := by decide +kernel
theorem dX9_core_4 : decode cX9_core 4 = .ok (.ifCond .eq 6, 3) := by decide +kernel
theorem dX9_core_7 : decode cX9_core 7 = .ok (.bipush (-2), 2) := by decide +kernel
theorem dX9_core_9 : decode cX9_core 9 = .ok (.ireturn, 1) := by decide +kernel
theorem dX9_core_10 : decode cX9_core 10 = .ok (.aload_n 0, 1) := by decide +kernel
theorem dX9_core_11 : decode cX9_core 11 = .ok (.iload_n 1, 1) := by decide +kernel
theorem dX9_core_12 : decode cX9_core 12 = .ok (.invokevirtual 96, 3) := by decide +kernel
theorem dX9_core_15 : decode cX9_core 15 = .ok (.ifCond .eq 11, 3) := by decide +kernel
theorem dX9_core_18 : decode cX9_core 18 = .ok (.aload_n 0, 1) := by decide +kernel
theorem dX9_core_19 : decode cX9_core 19 = .ok (.iload_n 1, 1) := by decide +kernel
theorem dX9_core_20 : decode cX9_core 20 = .ok (.invokevirtual 158, 3) := by decide +kernel
theorem dX9_core_23 : decode cX9_core 23 = .ok (.goto 5, 3) := by decide +kernel
theorem dX9_core_26 : decode cX9_core 26 = .ok (.bipush (-3), 2) := by decide +kernel
theorem dX9_core_28 : decode cX9_core 28 = .ok (.ireturn, 1) := by decide +kernel
set_option maxRecDepth 20000 in
theorem ggX9_grade_X9_noTable : GoodIn wsX9_grade wsX9_noTable := goodIn_r _ [5, 6, 7, 8, 4, 9] (by decide +kernel) (by decide +kernel)
set_option maxRecDepth 20000 in
theorem gX9_grade_X9_noTable : GoodIn wsX9_grade (va_wsS RX9 64 yX9_noTable wsX9_noTable) := goodIn_app (goodIn_of _ (by decide +kernel)) ggX9_grade_X9_noTable
set_option maxRecDepth 20000 in
theorem ggX9_grade_X9_isKind : GoodIn wsX9_grade wsX9_isKind := goodIn_r _ [13, 1, 7, 8, 4, 9, 53, 54, 55, 56, 57, 58, 59, 60, 61, 62, 63, 64, 65, 66, 67] (by decide +kernel) (by decide +kernel)
set_option maxRecDepth 20000 in
theorem gX9_grade_X9_isKind : GoodIn wsX9_grade (wsV RX9 68 RX9 yX9_isKind wsX9_isKind) := goodIn_app (goodIn_of _ (by decide +kernel)) ggX9_grade_X9_isKind
set_option maxRecDepth 20000 in
theorem ggX9_grade_X9_isRight : GoodIn wsX9_grade wsX9_isRight := goodIn_r _ [17, 18, 19, 20, 4, 21, 1, 22, 23, 24, 25, 26, 27, 28, 29, 30, 31, 32, 33, 34, 35, 36, 37, 38, 39, 40, 41, 42, 43, 44, 53, 54, 55, 56, 57, 58, 59, 60, 61, 62, 63, 64, 65, 66, 67] (by decide +kernel) (by decide +kernel)
set_option maxRecDepth 20000 in
theorem gX9_grade_X9_isRight : GoodIn wsX9_grade (wsV RX9 96 RX9 yX9_isRight wsX9_isRight) := goodIn_app (goodIn_of _ (by decide +kernel)) ggX9_grade_X9_isRight
set_option maxRecDepth 20000 in
theorem ggX9_grade_X9_coreOf : GoodIn wsX9_grade wsX9_coreOf := goodIn_r _ [48, 1, 36, 22, 23, 24, 4, 25, 26, 49, 50, 51, 52, 53, 54, 55, 56, 57, 58, 59, 60, 61, 62, 63, 64, 65, 66, 67] (by decide +kernel) (by decide +kernel)
set_option maxRecDepth 20000 in
theorem gX9_grade_X9_coreOf : GoodIn wsX9_grade (wsV RX9 158 RX9 yX9_coreOf wsX9_coreOf) := goodIn_app (goodIn_of _ (by decide +kernel)) ggX9_grade_X9_coreOf
set_option maxRecDepth 20000 in
theorem ggX9_grade_X9_n : GoodIn wsX9_grade wsX9_n := goodIn_r _ [25, 26, 53, 54, 55, 56, 57, 58, 59, 60, 61, 62, 63, 64, 65, 66, 67] (by decide +kernel) (by decide +kernel)
set_option maxRecDepth 20000 in
theorem gX9_grade_X9_n : GoodIn wsX9_grade (wsV RX9 74 RX9 yX9_n wsX9_n) := goodIn_app (goodIn_of _ (by decide +kernel)) ggX9_grade_X9_n
theorem dX9_grade_0 : decode cX9_grade 0 = .ok (.iload_n 1, 1) := by decide +kernel
theorem dX9_grade_1 : decode cX9_grade 1 = .ok (.invokestatic 64, 3) := by decide +kernel
theorem dX9_grade_4 : decode cX9_grade 4 = .ok (.ifCond .ne 12, 3) := by decide +kernel
theorem dX9_grade_7 : decode cX9_grade 7 = .ok (.aload_n 0, 1) := by decide +kernel
theorem dX9_grade_8 : decode cX9_grade 8 = .ok (.iload_n 1, 1) := by decide +kernel
theorem dX9_grade_9 : decode cX9_grade 9 = .ok (.iload_n 2, 1) := by decide +kernel
theorem dX9_grade_10 : decode cX9_grade 10 = .ok (.invokevirtual 68, 3) := by decide +kernel
theorem dX9_grade_13 : decode cX9_grade 13 = .ok (.ifCond .ne 6, 3) := by decide +kernel
theorem dX9_grade_16 : decode cX9_grade 16 = .ok (.bipush (-2), 2) := by decide +kernel
theorem dX9_grade_18 : decode cX9_grade 18 = .ok (.ireturn, 1) := by decide +kernel
theorem dX9_grade_19 : decode cX9_grade 19 = .ok (.aload_n 0, 1) := by decide +kernel
theorem dX9_grade_20 : decode cX9_grade 20 = .ok (.iload_n 1, 1) := by decide +kernel
theorem dX9_grade_21 : decode cX9_grade 21 = .ok (.invokevirtual 96, 3) := by decide +kernel
theorem dX9_grade_24 : decode cX9_grade 24 = .ok (.ifCond .ne 6, 3) := by decide +kernel
theorem dX9_grade_27 : decode cX9_grade 27 = .ok (.bipush (-3), 2) := by decide +kernel
theorem dX9_grade_29 : decode cX9_grade 29 = .ok (.ireturn, 1) := by decide +kernel
theorem dX9_grade_30 : decode cX9_grade 30 = .ok (.aload_n 0, 1) := by decide +kernel
theorem dX9_grade_31 : decode cX9_grade 31 = .ok (.iload_n 1, 1) := by decide +kernel
theorem dX9_grade_32 : decode cX9_grade 32 = .ok (.invokevirtual 158, 3) := by decide +kernel
theorem dX9_grade_35 : decode cX9_grade 35 = .ok (.istore_n 3, 1) := by decide +kernel
theorem dX9_grade_36 : decode cX9_grade 36 = .ok (.iload_n 2, 1) := by decide +kernel
theorem dX9_grade_37 : decode cX9_grade 37 = .ok (.istore 4, 2) := by decide +kernel
theorem dX9_grade_39 : decode cX9_grade 39 = .ok (.aload_n 0, 1) := by decide +kernel
theorem dX9_grade_40 : decode cX9_grade 40 = .ok (.getfield 7, 3) := by decide +kernel
theorem dX9_grade_43 : decode cX9_grade 43 = .ok (.iload_n 1, 1) := by decide +kernel
theorem dX9_grade_44 : decode cX9_grade 44 = .ok (.iaload, 1) := by decide +kernel
theorem dX9_grade_45 : decode cX9_grade 45 = .ok (.iconst 1, 1) := by decide +kernel
theorem dX9_grade_46 : decode cX9_grade 46 = .ok (.isub, 1) := by decide +kernel
theorem dX9_grade_47 : decode cX9_grade 47 = .ok (.istore 5, 2) := by decide +kernel
theorem dX9_grade_49 : decode cX9_grade 49 = .ok (.iload 5, 2) := by decide +kernel
theorem dX9_grade_51 : decode cX9_grade 51 = .ok (.ifCond .lt 81, 3) := by decide +kernel
theorem dX9_grade_54 : decode cX9_grade 54 = .ok (.iconst 0, 1) := by decide +kernel
theorem dX9_grade_55 : decode cX9_grade 55 = .ok (.istore 6, 2) := by decide +kernel
theorem dX9_grade_57 : decode cX9_grade 57 = .ok (.iconst 0, 1) := by decide +kernel
theorem dX9_grade_58 : decode cX9_grade 58 = .ok (.istore 7, 2) := by decide +kernel
theorem dX9_grade_60 : decode cX9_grade 60 = .ok (.iload 7, 2) := by decide +kernel
theorem dX9_grade_62 : decode cX9_grade 62 = .ok (.aload_n 0, 1) := by decide +kernel
theorem dX9_grade_63 : decode cX9_grade 63 = .ok (.getfield 7, 3) := by decide +kernel
theorem dX9_grade_66 : decode cX9_grade 66 = .ok (.iload_n 1, 1) := by decide +kernel
theorem dX9_grade_67 : decode cX9_grade 67 = .ok (.iaload, 1) := by decide +kernel
theorem dX9_grade_68 : decode cX9_grade 68 = .ok (.if_icmp .ge 44, 3) := by decide +kernel
theorem dX9_grade_71 : decode cX9_grade 71 = .ok (.iload 6, 2) := by decide +kernel
theorem dX9_grade_73 : decode cX9_grade 73 = .ok (.ifCond .ne 26, 3) := by decide +kernel
theorem dX9_grade_76 : decode cX9_grade 76 = .ok (.iload_n 3, 1) := by decide +kernel
theorem dX9_grade_77 : decode cX9_grade 77 = .ok (.iload 7, 2) := by decide +kernel
theorem dX9_grade_79 : decode cX9_grade 79 = .ok (.ishr, 1) := by decide +kernel
theorem dX9_grade_80 : decode cX9_grade 80 = .ok (.iconst 1, 1) := by decide +kernel
theorem dX9_grade_81 : decode cX9_grade 81 = .ok (.iand, 1) := by decide +kernel
theorem dX9_grade_82 : decode cX9_grade 82 = .ok (.iconst 1, 1) := by decide +kernel
theorem dX9_grade_83 : decode cX9_grade 83 = .ok (.if_icmp .ne 20, 3) := by decide +kernel
theorem dX9_grade_86 : decode cX9_grade 86 = .ok (.aload_n 0, 1) := by decide +kernel
theorem dX9_grade_87 : decode cX9_grade 87 = .ok (.iload_n 1, 1) := by decide +kernel
theorem dX9_grade_88 : decode cX9_grade 88 = .ok (.iload_n 2, 1) := by decide +kernel
theorem dX9_grade_89 : decode cX9_grade 89 = .ok (.iload 7, 2) := by decide +kernel
theorem dX9_grade_91 : decode cX9_grade 91 = .ok (.iload 5, 2) := by decide +kernel
theorem dX9_grade_93 : decode cX9_grade 93 = .ok (.invokevirtual 74, 3) := by decide +kernel
theorem dX9_grade_96 : decode cX9_grade 96 = .ok (.ifCond .le 7, 3) := by decide +kernel
theorem dX9_grade_99 : decode cX9_grade 99 = .ok (.iconst 1, 1) := by decide +kernel
theorem dX9_grade_100 : decode cX9_grade 100 = .ok (.goto 4, 3) := by decide +kernel
theorem dX9_grade_103 : decode cX9_grade 103 = .ok (.iconst 0, 1) := by decide +kernel
theorem dX9_grade_104 : decode cX9_grade 104 = .ok (.istore 6, 2) := by decide +kernel
theorem dX9_grade_106 : decode cX9_grade 106 = .ok (.iinc 7 1, 3) := by decide +kernel
theorem dX9_grade_109 : decode cX9_grade 109 = .ok (.goto (-49), 3) := by decide +kernel
theorem dX9_grade_112 : decode cX9_grade 112 = .ok (.iload 6, 2) := by decide +kernel
theorem dX9_grade_114 : decode cX9_grade 114 = .ok (.ifCond .eq 8, 3) := by decide +kernel
theorem dX9_grade_117 : decode cX9_grade 117 = .ok (.iload 5, 2) := by decide +kernel
theorem dX9_grade_119 : decode cX9_grade 119 = .ok (.goto 5, 3) := by decide +kernel
theorem dX9_grade_122 : decode cX9_grade 122 = .ok (.iload 4, 2) := by decide +kernel
theorem dX9_grade_124 : decode cX9_grade 124 = .ok (.istore 4, 2) := by decide +kernel
theorem dX9_grade_126 : decode cX9_grade 126 = .ok (.iinc 5 (-1), 3) := by decide +kernel
theorem dX9_grade_129 : decode cX9_grade 129 = .ok (.goto (-80), 3) := by decide +kernel
theorem dX9_grade_132 : decode cX9_grade 132 = .ok (.iload 4, 2) := by decide +kernel
theorem dX9_grade_134 : decode cX9_grade 134 = .ok (.ireturn, 1) := by decide +kernel
set_option maxRecDepth 20000 in
theorem ggX9_within_X9_noTable : GoodIn wsX9_within wsX9_noTable := goodIn_r _ [5, 6, 7, 8, 4, 9] (by decide +kernel) (by decide +kernel)
set_option maxRecDepth 20000 in
theorem gX9_within_X9_noTable : GoodIn wsX9_within (va_wsS RX9 64 yX9_noTable wsX9_noTable) := goodIn_app (goodIn_of _ (by decide +kernel)) ggX9_within_X9_noTable
set_option maxRecDepth 20000 in
theorem ggX9_within_X9_isRight : GoodIn wsX9_within wsX9_isRight := goodIn_r _ [13, 14, 15, 16, 4, 17, 1, 18, 19, 20, 21, 22, 23, 24, 25, 26, 27, 28, 29, 30, 31, 32, 33, 34, 35, 36, 37, 38, 39, 40, 45, 46, 47, 48, 49, 50, 51, 52, 53, 54, 55, 56, 57, 58, 59] (by decide +kernel) (by decide +kernel)
set_option maxRecDepth 20000 in
theorem gX9_within_X9_isRight : GoodIn wsX9_within (wsV RX9 96 RX9 yX9_isRight wsX9_isRight) := goodIn_app (goodIn_of _ (by decide +kernel)) ggX9_within_X9_isRight
set_option maxRecDepth 20000 in
theorem ggX9_within_X9_close : GoodIn wsX9_within wsX9_close := goodIn_r _ [44, 1, 32, 18, 19, 20, 4, 21, 22, 45, 46, 47, 48, 49, 50, 51, 52, 53, 54, 55, 56, 57, 58, 59] (by decide +kernel) (by decide +kernel)
set_option maxRecDepth 20000 in
theorem gX9_within_X9_close : GoodIn wsX9_within (wsV RX9 155 RX9 yX9_close wsX9_close) := goodIn_app (goodIn_of _ (by decide +kernel)) ggX9_within_X9_close
theorem dX9_within_0 : decode cX9_within 0 = .ok (.iload_n 1, 1) := by decide +kernel
theorem dX9_within_1 : decode cX9_within 1 = .ok (.invokestatic 64, 3) := by decide +kernel
theorem dX9_within_4 : decode cX9_within 4 = .ok (.ifCond .eq 6, 3) := by decide +kernel
theorem dX9_within_7 : decode cX9_within 7 = .ok (.bipush (-2), 2) := by decide +kernel
theorem dX9_within_9 : decode cX9_within 9 = .ok (.ireturn, 1) := by decide +kernel
theorem dX9_within_10 : decode cX9_within 10 = .ok (.aload_n 0, 1) := by decide +kernel
theorem dX9_within_11 : decode cX9_within 11 = .ok (.iload_n 1, 1) := by decide +kernel
theorem dX9_within_12 : decode cX9_within 12 = .ok (.invokevirtual 96, 3) := by decide +kernel
theorem dX9_within_15 : decode cX9_within 15 = .ok (.ifCond .ne 6, 3) := by decide +kernel
theorem dX9_within_18 : decode cX9_within 18 = .ok (.bipush (-3), 2) := by decide +kernel
theorem dX9_within_20 : decode cX9_within 20 = .ok (.ireturn, 1) := by decide +kernel
theorem dX9_within_21 : decode cX9_within 21 = .ok (.iconst 0, 1) := by decide +kernel
theorem dX9_within_22 : decode cX9_within 22 = .ok (.istore_n 2, 1) := by decide +kernel
theorem dX9_within_23 : decode cX9_within 23 = .ok (.iconst 1, 1) := by decide +kernel
theorem dX9_within_24 : decode cX9_within 24 = .ok (.istore_n 3, 1) := by decide +kernel
theorem dX9_within_25 : decode cX9_within 25 = .ok (.iload_n 3, 1) := by decide +kernel
theorem dX9_within_26 : decode cX9_within 26 = .ok (.iconst 1, 1) := by decide +kernel
theorem dX9_within_27 : decode cX9_within 27 = .ok (.aload_n 0, 1) := by decide +kernel
theorem dX9_within_28 : decode cX9_within 28 = .ok (.getfield 7, 3) := by decide +kernel
theorem dX9_within_31 : decode cX9_within 31 = .ok (.iload_n 1, 1) := by decide +kernel
theorem dX9_within_32 : decode cX9_within 32 = .ok (.iaload, 1) := by decide +kernel
theorem dX9_within_33 : decode cX9_within 33 = .ok (.ishl, 1) := by decide +kernel
theorem dX9_within_34 : decode cX9_within 34 = .ok (.if_icmp .ge 27, 3) := by decide +kernel
theorem dX9_within_37 : decode cX9_within 37 = .ok (.iload_n 2, 1) := by decide +kernel
theorem dX9_within_38 : decode cX9_within 38 = .ok (.aload_n 0, 1) := by decide +kernel
theorem dX9_within_39 : decode cX9_within 39 = .ok (.iload_n 1, 1) := by decide +kernel
theorem dX9_within_40 : decode cX9_within 40 = .ok (.iload_n 3, 1) := by decide +kernel
theorem dX9_within_41 : decode cX9_within 41 = .ok (.invokevirtual 155, 3) := by decide +kernel
theorem dX9_within_44 : decode cX9_within 44 = .ok (.iload_n 3, 1) := by decide +kernel
theorem dX9_within_45 : decode cX9_within 45 = .ok (.if_icmp .ne 7, 3) := by decide +kernel
theorem dX9_within_48 : decode cX9_within 48 = .ok (.iconst 1, 1) := by decide +kernel
theorem dX9_within_49 : decode cX9_within 49 = .ok (.goto 4, 3) := by decide +kernel
theorem dX9_within_52 : decode cX9_within 52 = .ok (.iconst 0, 1) := by decide +kernel
theorem dX9_within_53 : decode cX9_within 53 = .ok (.iadd, 1) := by decide +kernel
theorem dX9_within_54 : decode cX9_within 54 = .ok (.istore_n 2, 1) := by decide +kernel
theorem dX9_within_55 : decode cX9_within 55 = .ok (.iinc 3 1, 3) := by decide +kernel
theorem dX9_within_58 : decode cX9_within 58 = .ok (.goto (-33), 3) := by decide +kernel
theorem dX9_within_61 : decode cX9_within 61 = .ok (.iload_n 2, 1) := by decide +kernel
theorem dX9_within_62 : decode cX9_within 62 = .ok (.ireturn, 1) := by decide +kernel
theorem dX9_layNaming_0 : decode cX9_layNaming 0 = .ok (.iload_n 2, 1) := by decide +kernel
theorem dX9_layNaming_1 : decode cX9_layNaming 1 = .ok (.istore_n 3, 1) := by decide +kernel
theorem dX9_layNaming_2 : decode cX9_layNaming 2 = .ok (.iconst 1, 1) := by decide +kernel
theorem dX9_layNaming_3 : decode cX9_layNaming 3 = .ok (.istore 4, 2) := by decide +kernel
theorem dX9_layNaming_5 : decode cX9_layNaming 5 = .ok (.aload_n 0, 1) := by decide +kernel
theorem dX9_layNaming_6 : decode cX9_layNaming 6 = .ok (.getfield 38, 3) := by decide +kernel
theorem dX9_layNaming_9 : decode cX9_layNaming 9 = .ok (.iconst 0, 1) := by decide +kernel
theorem dX9_layNaming_10 : decode cX9_layNaming 10 = .ok (.iconst 0, 1) := by decide +kernel
theorem dX9_layNaming_11 : decode cX9_layNaming 11 = .ok (.iastore, 1) := by decide +kernel
theorem dX9_layNaming_12 : decode cX9_layNaming 12 = .ok (.iconst 1, 1) := by decide +kernel
theorem dX9_layNaming_13 : decode cX9_layNaming 13 = .ok (.istore 5, 2) := by decide +kernel
theorem dX9_layNaming_15 : decode cX9_layNaming 15 = .ok (.iload 5, 2) := by decide +kernel
theorem dX9_layNaming_17 : decode cX9_layNaming 17 = .ok (.iload_n 1, 1) := by decide +kernel
theorem dX9_layNaming_18 : decode cX9_layNaming 18 = .ok (.if_icmp .ge 37, 3) := by decide +kernel
theorem dX9_layNaming_21 : decode cX9_layNaming 21 = .ok (.aload_n 0, 1) := by decide +kernel
theorem dX9_layNaming_22 : decode cX9_layNaming 22 = .ok (.getfield 38, 3) := by decide +kernel
theorem dX9_layNaming_25 : decode cX9_layNaming 25 = .ok (.iload 5, 2) := by decide +kernel
theorem dX9_layNaming_27 : decode cX9_layNaming 27 = .ok (.iload_n 3, 1) := by decide +kernel
theorem dX9_layNaming_28 : decode cX9_layNaming 28 = .ok (.iload_n 1, 1) := by decide +kernel
theorem dX9_layNaming_29 : decode cX9_layNaming 29 = .ok (.irem, 1) := by decide +kernel
theorem dX9_layNaming_30 : decode cX9_layNaming 30 = .ok (.iastore, 1) := by decide +kernel
theorem dX9_layNaming_31 : decode cX9_layNaming 31 = .ok (.iload_n 3, 1) := by decide +kernel
theorem dX9_layNaming_32 : decode cX9_layNaming 32 = .ok (.iload_n 1, 1) := by decide +kernel
theorem dX9_layNaming_33 : decode cX9_layNaming 33 = .ok (.idiv, 1) := by decide +kernel
theorem dX9_layNaming_34 : decode cX9_layNaming 34 = .ok (.istore_n 3, 1) := by decide +kernel
theorem dX9_layNaming_35 : decode cX9_layNaming 35 = .ok (.iload 4, 2) := by decide +kernel
theorem dX9_layNaming_37 : decode cX9_layNaming 37 = .ok (.iconst 1, 1) := by decide +kernel
theorem dX9_layNaming_38 : decode cX9_layNaming 38 = .ok (.aload_n 0, 1) := by decide +kernel
theorem dX9_layNaming_39 : decode cX9_layNaming 39 = .ok (.getfield 38, 3) := by decide +kernel
theorem dX9_layNaming_42 : decode cX9_layNaming 42 = .ok (.iload 5, 2) := by decide +kernel
theorem dX9_layNaming_44 : decode cX9_layNaming 44 = .ok (.iaload, 1) := by decide +kernel
theorem dX9_layNaming_45 : decode cX9_layNaming 45 = .ok (.ishl, 1) := by decide +kernel
theorem dX9_layNaming_46 : decode cX9_layNaming 46 = .ok (.ior, 1) := by decide +kernel
theorem dX9_layNaming_47 : decode cX9_layNaming 47 = .ok (.istore 4, 2) := by decide +kernel
theorem dX9_layNaming_49 : decode cX9_layNaming 49 = .ok (.iinc 5 1, 3) := by decide +kernel
theorem dX9_layNaming_52 : decode cX9_layNaming 52 = .ok (.goto (-37), 3) := by decide +kernel
theorem dX9_layNaming_55 : decode cX9_layNaming 55 = .ok (.iload 4, 2) := by decide +kernel
theorem dX9_layNaming_57 : decode cX9_layNaming 57 = .ok (.iconst 1, 1) := by decide +kernel
theorem dX9_layNaming_58 : decode cX9_layNaming 58 = .ok (.iload_n 1, 1) := by decide +kernel
theorem dX9_layNaming_59 : decode cX9_layNaming 59 = .ok (.ishl, 1) := by decide +kernel
theorem dX9_layNaming_60 : decode cX9_layNaming 60 = .ok (.iconst 1, 1) := by decide +kernel
theorem dX9_layNaming_61 : decode cX9_layNaming 61 = .ok (.isub, 1) := by decide +kernel
theorem dX9_layNaming_62 : decode cX9_layNaming 62 = .ok (.if_icmp .ne 7, 3) := by decide +kernel
theorem dX9_layNaming_65 : decode cX9_layNaming 65 = .ok (.iconst 1, 1) := by decide +kernel
theorem dX9_layNaming_66 : decode cX9_layNaming 66 = .ok (.goto 4, 3) := by decide +kernel
theorem dX9_layNaming_69 : decode cX9_layNaming 69 = .ok (.iconst 0, 1) := by decide +kernel
theorem dX9_layNaming_70 : decode cX9_layNaming 70 = .ok (.ireturn, 1) := by decide +kernel
set_option maxRecDepth 20000 in
theorem ggX9_isLike_X9_n : GoodIn wsX9_isLike wsX9_n := goodIn_r _ [7, 8, 9, 10, 11, 12, 13, 14, 15, 16, 17, 18, 19, 20, 21, 22, 23] (by decide +kernel) (by decide +kernel)
set_option maxRecDepth 20000 in
theorem gX9_isLike_X9_n : GoodIn wsX9_isLike (wsV RX9 74 RX9 yX9_n wsX9_n) := goodIn_app (goodIn_of _ (by decide +kernel)) ggX9_isLike_X9_n
theorem dX9_isLike_0 : decode cX9_isLike 0 = .ok (.iconst 1, 1) := by decide +kernel
theorem dX9_isLike_1 : decode cX9_isLike 1 = .ok (.istore_n 3, 1) := by decide +kernel
theorem dX9_isLike_2 : decode cX9_isLike 2 = .ok (.iconst 0, 1) := by decide +kernel
theorem dX9_isLike_3 : decode cX9_isLike 3 = .ok (.istore 4, 2) := by decide +kernel
theorem dX9_isLike_5 : decode cX9_isLike 5 = .ok (.iload 4, 2) := by decide +kernel
theorem dX9_isLike_7 : decode cX9_isLike 7 = .ok (.aload_n 0, 1) := by decide +kernel
theorem dX9_isLike_8 : decode cX9_isLike 8 = .ok (.getfield 7, 3) := by decide +kernel
theorem dX9_isLike_11 : decode cX9_isLike 11 = .ok (.iload_n 1, 1) := by decide +kernel
theorem dX9_isLike_12 : decode cX9_isLike 12 = .ok (.iaload, 1) := by decide +kernel
theorem dX9_isLike_13 : decode cX9_isLike 13 = .ok (.if_icmp .ge 99, 3) := by decide +kernel
theorem dX9_isLike_16 : decode cX9_isLike 16 = .ok (.iconst 0, 1) := by decide +kernel
theorem dX9_isLike_17 : decode cX9_isLike 17 = .ok (.istore 5, 2) := by decide +kernel
theorem dX9_isLike_19 : decode cX9_isLike 19 = .ok (.iload 5, 2) := by decide +kernel
theorem dX9_isLike_21 : decode cX9_isLike 21 = .ok (.aload_n 0, 1) := by decide +kernel
theorem dX9_isLike_22 : decode cX9_isLike 22 = .ok (.getfield 7, 3) := by decide +kernel
theorem dX9_isLike_25 : decode cX9_isLike 25 = .ok (.iload_n 1, 1) := by decide +kernel
theorem dX9_isLike_26 : decode cX9_isLike 26 = .ok (.iaload, 1) := by decide +kernel
theorem dX9_isLike_27 : decode cX9_isLike 27 = .ok (.if_icmp .ge 79, 3) := by decide +kernel
theorem dX9_isLike_30 : decode cX9_isLike 30 = .ok (.iconst 0, 1) := by decide +kernel
theorem dX9_isLike_31 : decode cX9_isLike 31 = .ok (.istore 6, 2) := by decide +kernel
theorem dX9_isLike_33 : decode cX9_isLike 33 = .ok (.iload 6, 2) := by decide +kernel
theorem dX9_isLike_35 : decode cX9_isLike 35 = .ok (.aload_n 0, 1) := by decide +kernel
theorem dX9_isLike_36 : decode cX9_isLike 36 = .ok (.getfield 7, 3) := by decide +kernel
theorem dX9_isLike_39 : decode cX9_isLike 39 = .ok (.iload_n 1, 1) := by decide +kernel
theorem dX9_isLike_40 : decode cX9_isLike 40 = .ok (.iaload, 1) := by decide +kernel
theorem dX9_isLike_41 : decode cX9_isLike 41 = .ok (.if_icmp .ge 59, 3) := by decide +kernel
theorem dX9_isLike_44 : decode cX9_isLike 44 = .ok (.iload_n 3, 1) := by decide +kernel
theorem dX9_isLike_45 : decode cX9_isLike 45 = .ok (.ifCond .eq 47, 3) := by decide +kernel
theorem dX9_isLike_48 : decode cX9_isLike 48 = .ok (.aload_n 0, 1) := by decide +kernel
theorem dX9_isLike_49 : decode cX9_isLike 49 = .ok (.iload_n 1, 1) := by decide +kernel
theorem dX9_isLike_50 : decode cX9_isLike 50 = .ok (.iload 4, 2) := by decide +kernel
theorem dX9_isLike_52 : decode cX9_isLike 52 = .ok (.iload 5, 2) := by decide +kernel
theorem dX9_isLike_54 : decode cX9_isLike 54 = .ok (.iload 6, 2) := by decide +kernel
theorem dX9_isLike_56 : decode cX9_isLike 56 = .ok (.invokevirtual 74, 3) := by decide +kernel
theorem dX9_isLike_59 : decode cX9_isLike 59 = .ok (.aload_n 0, 1) := by decide +kernel
theorem dX9_isLike_60 : decode cX9_isLike 60 = .ok (.iload_n 2, 1) := by decide +kernel
theorem dX9_isLike_61 : decode cX9_isLike 61 = .ok (.aload_n 0, 1) := by decide +kernel
theorem dX9_isLike_62 : decode cX9_isLike 62 = .ok (.getfield 38, 3) := by decide +kernel
theorem dX9_isLike_65 : decode cX9_isLike 65 = .ok (.iload 4, 2) := by decide +kernel
theorem dX9_isLike_67 : decode cX9_isLike 67 = .ok (.iaload, 1) := by decide +kernel
theorem dX9_isLike_68 : decode cX9_isLike 68 = .ok (.aload_n 0, 1) := by decide +kernel
theorem dX9_isLike_69 : decode cX9_isLike 69 = .ok (.getfield 38, 3) := by decide +kernel
theorem dX9_isLike_72 : decode cX9_isLike 72 = .ok (.iload 5, 2) := by decide +kernel
theorem dX9_isLike_74 : decode cX9_isLike 74 = .ok (.iaload, 1) := by decide +kernel
theorem dX9_isLike_75 : decode cX9_isLike 75 = .ok (.aload_n 0, 1) := by decide +kernel
theorem dX9_isLike_76 : decode cX9_isLike 76 = .ok (.getfield 38, 3) := by decide +kernel
theorem dX9_isLike_79 : decode cX9_isLike 79 = .ok (.iload 6, 2) := by decide +kernel
theorem dX9_isLike_81 : decode cX9_isLike 81 = .ok (.iaload, 1) := by decide +kernel
theorem dX9_isLike_82 : decode cX9_isLike 82 = .ok (.invokevirtual 74, 3) := by decide +kernel
theorem dX9_isLike_85 : decode cX9_isLike 85 = .ok (.if_icmp .ne 7, 3) := by decide +kernel
theorem dX9_isLike_88 : decode cX9_isLike 88 = .ok (.iconst 1, 1) := by decide +kernel
theorem dX9_isLike_89 : decode cX9_isLike 89 = .ok (.goto 4, 3) := by decide +kernel
theorem dX9_isLike_92 : decode cX9_isLike 92 = .ok (.iconst 0, 1) := by decide +kernel
theorem dX9_isLike_93 : decode cX9_isLike 93 = .ok (.istore_n 3, 1) := by decide +kernel
theorem dX9_isLike_94 : decode cX9_isLike 94 = .ok (.iinc 6 1, 3) := by decide +kernel
theorem dX9_isLike_97 : decode cX9_isLike 97 = .ok (.goto (-64), 3) := by decide +kernel
theorem dX9_isLike_100 : decode cX9_isLike 100 = .ok (.iinc 5 1, 3) := by decide +kernel
theorem dX9_isLike_103 : decode cX9_isLike 103 = .ok (.goto (-84), 3) := by decide +kernel
theorem dX9_isLike_106 : decode cX9_isLike 106 = .ok (.iinc 4 1, 3) := by decide +kernel
theorem dX9_isLike_109 : decode cX9_isLike 109 = .ok (.goto (-104), 3) := by decide +kernel
theorem dX9_isLike_112 : decode cX9_isLike 112 = .ok (.iload_n 3, 1) := by decide +kernel
theorem dX9_isLike_113 : decode cX9_isLike 113 = .ok (.ireturn, 1) := by decide +kernel
set_option maxRecDepth 20000 in
theorem ggX9_like_X9_noTable : GoodIn wsX9_like wsX9_noTable := goodIn_r _ [5, 6, 7, 8, 4, 9] (by decide +kernel) (by decide +kernel)
set_option maxRecDepth 20000 in
theorem gX9_like_X9_noTable : GoodIn wsX9_like (va_wsS RX9 64 yX9_noTable wsX9_noTable) := goodIn_app (goodIn_of _ (by decide +kernel)) ggX9_like_X9_noTable
set_option maxRecDepth 20000 in
theorem ggX9_like_X9_layNaming : GoodIn wsX9_like wsX9_layNaming := goodIn_r _ [13, 14, 24, 25, 26, 27, 28, 29, 30, 31, 32, 33, 34, 35, 36, 37, 38] (by decide +kernel) (by decide +kernel)
set_option maxRecDepth 20000 in
theorem gX9_like_X9_layNaming : GoodIn wsX9_like (wsV RX9 162 RX9 yX9_layNaming wsX9_layNaming) := goodIn_app (goodIn_of _ (by decide +kernel)) ggX9_like_X9_layNaming
set_option maxRecDepth 20000 in
theorem ggX9_like_X9_isLike : GoodIn wsX9_like wsX9_isLike := goodIn_r _ [18, 1, 14, 19, 20, 21, 4, 22, 23, 24, 25, 26, 27, 28, 29, 30, 31, 32, 33, 34, 35, 36, 37, 38] (by decide +kernel) (by decide +kernel)
set_option maxRecDepth 20000 in
theorem gX9_like_X9_isLike : GoodIn wsX9_like (wsV RX9 165 RX9 yX9_isLike wsX9_isLike) := goodIn_app (goodIn_of _ (by decide +kernel)) ggX9_like_X9_isLike
theorem dX9_like_0 : decode cX9_like 0 = .ok (.iload_n 1, 1) := by decide +kernel
theorem dX9_like_1 : decode cX9_like 1 = .ok (.invokestatic 64, 3) := by decide +kernel
theorem dX9_like_4 : decode cX9_like 4 = .ok (.ifCond .ne 10, 3) := by decide +kernel
theorem dX9_like_7 : decode cX9_like 7 = .ok (.iload_n 2, 1) := by decide +kernel
theorem dX9_like_8 : decode cX9_like 8 = .ok (.invokestatic 64, 3) := by decide +kernel
theorem dX9_like_11 : decode cX9_like 11 = .ok (.ifCond .eq 6, 3) := by decide +kernel
