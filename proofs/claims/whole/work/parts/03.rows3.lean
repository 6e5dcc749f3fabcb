theorem dX9_like_14 : decode cX9_like 14 = .ok (.bipush (-2), 2) := by decide +kernel
theorem dX9_like_16 : decode cX9_like 16 = .ok (.ireturn, 1) := by decide +kernel
theorem dX9_like_17 : decode cX9_like 17 = .ok (.aload_n 0, 1) := by decide +kernel
theorem dX9_like_18 : decode cX9_like 18 = .ok (.getfield 7, 3) := by decide +kernel
theorem dX9_like_21 : decode cX9_like 21 = .ok (.iload_n 1, 1) := by decide +kernel
theorem dX9_like_22 : decode cX9_like 22 = .ok (.iaload, 1) := by decide +kernel
theorem dX9_like_23 : decode cX9_like 23 = .ok (.istore_n 3, 1) := by decide +kernel
theorem dX9_like_24 : decode cX9_like 24 = .ok (.iload_n 3, 1) := by decide +kernel
theorem dX9_like_25 : decode cX9_like 25 = .ok (.aload_n 0, 1) := by decide +kernel
theorem dX9_like_26 : decode cX9_like 26 = .ok (.getfield 7, 3) := by decide +kernel
theorem dX9_like_29 : decode cX9_like 29 = .ok (.iload_n 2, 1) := by decide +kernel
theorem dX9_like_30 : decode cX9_like 30 = .ok (.iaload, 1) := by decide +kernel
theorem dX9_like_31 : decode cX9_like 31 = .ok (.if_icmp .eq 5, 3) := by decide +kernel
theorem dX9_like_34 : decode cX9_like 34 = .ok (.iconst 0, 1) := by decide +kernel
theorem dX9_like_35 : decode cX9_like 35 = .ok (.ireturn, 1) := by decide +kernel
theorem dX9_like_36 : decode cX9_like 36 = .ok (.iconst 1, 1) := by decide +kernel
theorem dX9_like_37 : decode cX9_like 37 = .ok (.istore 4, 2) := by decide +kernel
theorem dX9_like_39 : decode cX9_like 39 = .ok (.iconst 1, 1) := by decide +kernel
theorem dX9_like_40 : decode cX9_like 40 = .ok (.istore 5, 2) := by decide +kernel
theorem dX9_like_42 : decode cX9_like 42 = .ok (.iload 5, 2) := by decide +kernel
theorem dX9_like_44 : decode cX9_like 44 = .ok (.iload_n 3, 1) := by decide +kernel
theorem dX9_like_45 : decode cX9_like 45 = .ok (.if_icmp .ge 15, 3) := by decide +kernel
theorem dX9_like_48 : decode cX9_like 48 = .ok (.iload 4, 2) := by decide +kernel
theorem dX9_like_50 : decode cX9_like 50 = .ok (.iload_n 3, 1) := by decide +kernel
theorem dX9_like_51 : decode cX9_like 51 = .ok (.imul, 1) := by decide +kernel
theorem dX9_like_52 : decode cX9_like 52 = .ok (.istore 4, 2) := by decide +kernel
theorem dX9_like_54 : decode cX9_like 54 = .ok (.iinc 5 1, 3) := by decide +kernel
theorem dX9_like_57 : decode cX9_like 57 = .ok (.goto (-15), 3) := by decide +kernel
theorem dX9_like_60 : decode cX9_like 60 = .ok (.iconst 0, 1) := by decide +kernel
theorem dX9_like_61 : decode cX9_like 61 = .ok (.istore 5, 2) := by decide +kernel
theorem dX9_like_63 : decode cX9_like 63 = .ok (.iconst 0, 1) := by decide +kernel
theorem dX9_like_64 : decode cX9_like 64 = .ok (.istore 6, 2) := by decide +kernel
theorem dX9_like_66 : decode cX9_like 66 = .ok (.iload 6, 2) := by decide +kernel
theorem dX9_like_68 : decode cX9_like 68 = .ok (.iload 4, 2) := by decide +kernel
theorem dX9_like_70 : decode cX9_like 70 = .ok (.if_icmp .ge 38, 3) := by decide +kernel
theorem dX9_like_73 : decode cX9_like 73 = .ok (.iload 5, 2) := by decide +kernel
theorem dX9_like_75 : decode cX9_like 75 = .ok (.aload_n 0, 1) := by decide +kernel
theorem dX9_like_76 : decode cX9_like 76 = .ok (.iload_n 3, 1) := by decide +kernel
theorem dX9_like_77 : decode cX9_like 77 = .ok (.iload 6, 2) := by decide +kernel
theorem dX9_like_79 : decode cX9_like 79 = .ok (.invokevirtual 162, 3) := by decide +kernel
theorem dX9_like_82 : decode cX9_like 82 = .ok (.ifCond .eq 16, 3) := by decide +kernel
theorem dX9_like_85 : decode cX9_like 85 = .ok (.aload_n 0, 1) := by decide +kernel
theorem dX9_like_86 : decode cX9_like 86 = .ok (.iload_n 1, 1) := by decide +kernel
theorem dX9_like_87 : decode cX9_like 87 = .ok (.iload_n 2, 1) := by decide +kernel
theorem dX9_like_88 : decode cX9_like 88 = .ok (.invokevirtual 165, 3) := by decide +kernel
theorem dX9_like_91 : decode cX9_like 91 = .ok (.ifCond .eq 7, 3) := by decide +kernel
theorem dX9_like_94 : decode cX9_like 94 = .ok (.iconst 1, 1) := by decide +kernel
theorem dX9_like_95 : decode cX9_like 95 = .ok (.goto 4, 3) := by decide +kernel
theorem dX9_like_98 : decode cX9_like 98 = .ok (.iconst 0, 1) := by decide +kernel
theorem dX9_like_99 : decode cX9_like 99 = .ok (.iadd, 1) := by decide +kernel
theorem dX9_like_100 : decode cX9_like 100 = .ok (.istore 5, 2) := by decide +kernel
theorem dX9_like_102 : decode cX9_like 102 = .ok (.iinc 6 1, 3) := by decide +kernel
theorem dX9_like_105 : decode cX9_like 105 = .ok (.goto (-39), 3) := by decide +kernel
theorem dX9_like_108 : decode cX9_like 108 = .ok (.iload 5, 2) := by decide +kernel
theorem dX9_like_110 : decode cX9_like 110 = .ok (.ireturn, 1) := by decide +kernel
theorem dX9_isPrime_0 : decode cX9_isPrime 0 = .ok (.iload_n 0, 1) := by decide +kernel
theorem dX9_isPrime_1 : decode cX9_isPrime 1 = .ok (.iconst 2, 1) := by decide +kernel
theorem dX9_isPrime_2 : decode cX9_isPrime 2 = .ok (.if_icmp .eq 31, 3) := by decide +kernel
theorem dX9_isPrime_5 : decode cX9_isPrime 5 = .ok (.iload_n 0, 1) := by decide +kernel
theorem dX9_isPrime_6 : decode cX9_isPrime 6 = .ok (.iconst 3, 1) := by decide +kernel
theorem dX9_isPrime_7 : decode cX9_isPrime 7 = .ok (.if_icmp .eq 26, 3) := by decide +kernel
theorem dX9_isPrime_10 : decode cX9_isPrime 10 = .ok (.iload_n 0, 1) := by decide +kernel
theorem dX9_isPrime_11 : decode cX9_isPrime 11 = .ok (.iconst 5, 1) := by decide +kernel
theorem dX9_isPrime_12 : decode cX9_isPrime 12 = .ok (.if_icmp .eq 21, 3) := by decide +kernel
theorem dX9_isPrime_15 : decode cX9_isPrime 15 = .ok (.iload_n 0, 1) := by decide +kernel
theorem dX9_isPrime_16 : decode cX9_isPrime 16 = .ok (.bipush 7, 2) := by decide +kernel
theorem dX9_isPrime_18 : decode cX9_isPrime 18 = .ok (.if_icmp .eq 15, 3) := by decide +kernel
theorem dX9_isPrime_21 : decode cX9_isPrime 21 = .ok (.iload_n 0, 1) := by decide +kernel
theorem dX9_isPrime_22 : decode cX9_isPrime 22 = .ok (.bipush 11, 2) := by decide +kernel
theorem dX9_isPrime_24 : decode cX9_isPrime 24 = .ok (.if_icmp .eq 9, 3) := by decide +kernel
theorem dX9_isPrime_27 : decode cX9_isPrime 27 = .ok (.iload_n 0, 1) := by decide +kernel
theorem dX9_isPrime_28 : decode cX9_isPrime 28 = .ok (.bipush 13, 2) := by decide +kernel
theorem dX9_isPrime_30 : decode cX9_isPrime 30 = .ok (.if_icmp .ne 7, 3) := by decide +kernel
theorem dX9_isPrime_33 : decode cX9_isPrime 33 = .ok (.iconst 1, 1) := by decide +kernel
theorem dX9_isPrime_34 : decode cX9_isPrime 34 = .ok (.goto 4, 3) := by decide +kernel
theorem dX9_isPrime_37 : decode cX9_isPrime 37 = .ok (.iconst 0, 1) := by decide +kernel
theorem dX9_isPrime_38 : decode cX9_isPrime 38 = .ok (.ireturn, 1) := by decide +kernel
set_option maxRecDepth 20000 in
theorem ggX9_isMap_X9_n : GoodIn wsX9_isMap wsX9_n := goodIn_r _ [7, 8, 9, 10, 11, 12, 13, 14, 15, 16, 17, 18, 19, 20, 21, 22, 23] (by decide +kernel) (by decide +kernel)
set_option maxRecDepth 20000 in
theorem gX9_isMap_X9_n : GoodIn wsX9_isMap (wsV RX9 74 RX9 yX9_n wsX9_n) := goodIn_app (goodIn_of _ (by decide +kernel)) ggX9_isMap_X9_n
theorem dX9_isMap_0 : decode cX9_isMap 0 = .ok (.iconst 0, 1) := by decide +kernel
theorem dX9_isMap_1 : decode cX9_isMap 1 = .ok (.istore_n 3, 1) := by decide +kernel
theorem dX9_isMap_2 : decode cX9_isMap 2 = .ok (.iload_n 3, 1) := by decide +kernel
theorem dX9_isMap_3 : decode cX9_isMap 3 = .ok (.aload_n 0, 1) := by decide +kernel
theorem dX9_isMap_4 : decode cX9_isMap 4 = .ok (.getfield 7, 3) := by decide +kernel
theorem dX9_isMap_7 : decode cX9_isMap 7 = .ok (.iload_n 1, 1) := by decide +kernel
theorem dX9_isMap_8 : decode cX9_isMap 8 = .ok (.iaload, 1) := by decide +kernel
theorem dX9_isMap_9 : decode cX9_isMap 9 = .ok (.if_icmp .ge 97, 3) := by decide +kernel
theorem dX9_isMap_12 : decode cX9_isMap 12 = .ok (.iconst 0, 1) := by decide +kernel
theorem dX9_isMap_13 : decode cX9_isMap 13 = .ok (.istore 4, 2) := by decide +kernel
theorem dX9_isMap_15 : decode cX9_isMap 15 = .ok (.iload 4, 2) := by decide +kernel
theorem dX9_isMap_17 : decode cX9_isMap 17 = .ok (.aload_n 0, 1) := by decide +kernel
theorem dX9_isMap_18 : decode cX9_isMap 18 = .ok (.getfield 7, 3) := by decide +kernel
theorem dX9_isMap_21 : decode cX9_isMap 21 = .ok (.iload_n 1, 1) := by decide +kernel
theorem dX9_isMap_22 : decode cX9_isMap 22 = .ok (.iaload, 1) := by decide +kernel
theorem dX9_isMap_23 : decode cX9_isMap 23 = .ok (.if_icmp .ge 77, 3) := by decide +kernel
theorem dX9_isMap_26 : decode cX9_isMap 26 = .ok (.aload_n 0, 1) := by decide +kernel
theorem dX9_isMap_27 : decode cX9_isMap 27 = .ok (.getfield 41, 3) := by decide +kernel
theorem dX9_isMap_30 : decode cX9_isMap 30 = .ok (.iload_n 3, 1) := by decide +kernel
theorem dX9_isMap_31 : decode cX9_isMap 31 = .ok (.iaload, 1) := by decide +kernel
theorem dX9_isMap_32 : decode cX9_isMap 32 = .ok (.aload_n 0, 1) := by decide +kernel
theorem dX9_isMap_33 : decode cX9_isMap 33 = .ok (.getfield 41, 3) := by decide +kernel
theorem dX9_isMap_36 : decode cX9_isMap 36 = .ok (.iload 4, 2) := by decide +kernel
theorem dX9_isMap_38 : decode cX9_isMap 38 = .ok (.iaload, 1) := by decide +kernel
theorem dX9_isMap_39 : decode cX9_isMap 39 = .ok (.imul, 1) := by decide +kernel
theorem dX9_isMap_40 : decode cX9_isMap 40 = .ok (.istore 5, 2) := by decide +kernel
theorem dX9_isMap_42 : decode cX9_isMap 42 = .ok (.iconst 0, 1) := by decide +kernel
theorem dX9_isMap_43 : decode cX9_isMap 43 = .ok (.istore 6, 2) := by decide +kernel
theorem dX9_isMap_45 : decode cX9_isMap 45 = .ok (.iload 6, 2) := by decide +kernel
theorem dX9_isMap_47 : decode cX9_isMap 47 = .ok (.aload_n 0, 1) := by decide +kernel
theorem dX9_isMap_48 : decode cX9_isMap 48 = .ok (.getfield 7, 3) := by decide +kernel
theorem dX9_isMap_51 : decode cX9_isMap 51 = .ok (.iload_n 1, 1) := by decide +kernel
theorem dX9_isMap_52 : decode cX9_isMap 52 = .ok (.iaload, 1) := by decide +kernel
theorem dX9_isMap_53 : decode cX9_isMap 53 = .ok (.if_icmp .ge 32, 3) := by decide +kernel
theorem dX9_isMap_56 : decode cX9_isMap 56 = .ok (.iload 5, 2) := by decide +kernel
theorem dX9_isMap_58 : decode cX9_isMap 58 = .ok (.aload_n 0, 1) := by decide +kernel
theorem dX9_isMap_59 : decode cX9_isMap 59 = .ok (.iload_n 1, 1) := by decide +kernel
theorem dX9_isMap_60 : decode cX9_isMap 60 = .ok (.iload_n 3, 1) := by decide +kernel
theorem dX9_isMap_61 : decode cX9_isMap 61 = .ok (.iload 4, 2) := by decide +kernel
theorem dX9_isMap_63 : decode cX9_isMap 63 = .ok (.iload 6, 2) := by decide +kernel
theorem dX9_isMap_65 : decode cX9_isMap 65 = .ok (.invokevirtual 74, 3) := by decide +kernel
theorem dX9_isMap_68 : decode cX9_isMap 68 = .ok (.aload_n 0, 1) := by decide +kernel
theorem dX9_isMap_69 : decode cX9_isMap 69 = .ok (.getfield 41, 3) := by decide +kernel
theorem dX9_isMap_72 : decode cX9_isMap 72 = .ok (.iload 6, 2) := by decide +kernel
theorem dX9_isMap_74 : decode cX9_isMap 74 = .ok (.iaload, 1) := by decide +kernel
theorem dX9_isMap_75 : decode cX9_isMap 75 = .ok (.imul, 1) := by decide +kernel
theorem dX9_isMap_76 : decode cX9_isMap 76 = .ok (.isub, 1) := by decide +kernel
theorem dX9_isMap_77 : decode cX9_isMap 77 = .ok (.istore 5, 2) := by decide +kernel
theorem dX9_isMap_79 : decode cX9_isMap 79 = .ok (.iinc 6 1, 3) := by decide +kernel
theorem dX9_isMap_82 : decode cX9_isMap 82 = .ok (.goto (-37), 3) := by decide +kernel
theorem dX9_isMap_85 : decode cX9_isMap 85 = .ok (.iload 5, 2) := by decide +kernel
theorem dX9_isMap_87 : decode cX9_isMap 87 = .ok (.iload_n 2, 1) := by decide +kernel
theorem dX9_isMap_88 : decode cX9_isMap 88 = .ok (.irem, 1) := by decide +kernel
theorem dX9_isMap_89 : decode cX9_isMap 89 = .ok (.ifCond .eq 5, 3) := by decide +kernel
theorem dX9_isMap_92 : decode cX9_isMap 92 = .ok (.iconst 0, 1) := by decide +kernel
theorem dX9_isMap_93 : decode cX9_isMap 93 = .ok (.ireturn, 1) := by decide +kernel
theorem dX9_isMap_94 : decode cX9_isMap 94 = .ok (.iinc 4 1, 3) := by decide +kernel
theorem dX9_isMap_97 : decode cX9_isMap 97 = .ok (.goto (-82), 3) := by decide +kernel
theorem dX9_isMap_100 : decode cX9_isMap 100 = .ok (.iinc 3 1, 3) := by decide +kernel
theorem dX9_isMap_103 : decode cX9_isMap 103 = .ok (.goto (-101), 3) := by decide +kernel
theorem dX9_isMap_106 : decode cX9_isMap 106 = .ok (.iconst 1, 1) := by decide +kernel
theorem dX9_isMap_107 : decode cX9_isMap 107 = .ok (.ireturn, 1) := by decide +kernel
set_option maxRecDepth 20000 in
theorem ggX9_findMaps_X9_isMap : GoodIn wsX9_findMaps wsX9_isMap := goodIn_r _ [7, 1, 2, 8, 9, 10, 6, 11, 12, 13, 14, 15, 16, 17, 18, 19, 20, 21, 22, 23, 24, 25, 26, 27] (by decide +kernel) (by decide +kernel)
set_option maxRecDepth 20000 in
theorem gX9_findMaps_X9_isMap : GoodIn wsX9_findMaps (wsV RX9 168 RX9 yX9_isMap wsX9_isMap) := goodIn_app (goodIn_of _ (by decide +kernel)) ggX9_findMaps_X9_isMap
theorem dX9_findMaps_0 : decode cX9_findMaps 0 = .ok (.iconst 1, 1) := by decide +kernel
theorem dX9_findMaps_1 : decode cX9_findMaps 1 = .ok (.istore 4, 2) := by decide +kernel
theorem dX9_findMaps_3 : decode cX9_findMaps 3 = .ok (.iconst 1, 1) := by decide +kernel
theorem dX9_findMaps_4 : decode cX9_findMaps 4 = .ok (.istore 5, 2) := by decide +kernel
theorem dX9_findMaps_6 : decode cX9_findMaps 6 = .ok (.iload 5, 2) := by decide +kernel
theorem dX9_findMaps_8 : decode cX9_findMaps 8 = .ok (.aload_n 0, 1) := by decide +kernel
theorem dX9_findMaps_9 : decode cX9_findMaps 9 = .ok (.getfield 7, 3) := by decide +kernel
theorem dX9_findMaps_12 : decode cX9_findMaps 12 = .ok (.iload_n 1, 1) := by decide +kernel
theorem dX9_findMaps_13 : decode cX9_findMaps 13 = .ok (.iaload, 1) := by decide +kernel
theorem dX9_findMaps_14 : decode cX9_findMaps 14 = .ok (.if_icmp .ge 15, 3) := by decide +kernel
theorem dX9_findMaps_17 : decode cX9_findMaps 17 = .ok (.iload 4, 2) := by decide +kernel
theorem dX9_findMaps_19 : decode cX9_findMaps 19 = .ok (.iload_n 2, 1) := by decide +kernel
theorem dX9_findMaps_20 : decode cX9_findMaps 20 = .ok (.imul, 1) := by decide +kernel
theorem dX9_findMaps_21 : decode cX9_findMaps 21 = .ok (.istore 4, 2) := by decide +kernel
theorem dX9_findMaps_23 : decode cX9_findMaps 23 = .ok (.iinc 5 1, 3) := by decide +kernel
theorem dX9_findMaps_26 : decode cX9_findMaps 26 = .ok (.goto (-20), 3) := by decide +kernel
theorem dX9_findMaps_29 : decode cX9_findMaps 29 = .ok (.iconst 0, 1) := by decide +kernel
theorem dX9_findMaps_30 : decode cX9_findMaps 30 = .ok (.istore 5, 2) := by decide +kernel
theorem dX9_findMaps_32 : decode cX9_findMaps 32 = .ok (.iconst 0, 1) := by decide +kernel
theorem dX9_findMaps_33 : decode cX9_findMaps 33 = .ok (.istore 6, 2) := by decide +kernel
theorem dX9_findMaps_35 : decode cX9_findMaps 35 = .ok (.iload 6, 2) := by decide +kernel
theorem dX9_findMaps_37 : decode cX9_findMaps 37 = .ok (.iload 4, 2) := by decide +kernel
theorem dX9_findMaps_39 : decode cX9_findMaps 39 = .ok (.if_icmp .ge 85, 3) := by decide +kernel
theorem dX9_findMaps_42 : decode cX9_findMaps 42 = .ok (.iload 5, 2) := by decide +kernel
theorem dX9_findMaps_44 : decode cX9_findMaps 44 = .ok (.iload_n 3, 1) := by decide +kernel
theorem dX9_findMaps_45 : decode cX9_findMaps 45 = .ok (.iconst 1, 1) := by decide +kernel
theorem dX9_findMaps_46 : decode cX9_findMaps 46 = .ok (.iadd, 1) := by decide +kernel
theorem dX9_findMaps_47 : decode cX9_findMaps 47 = .ok (.if_icmp .eq 77, 3) := by decide +kernel
theorem dX9_findMaps_50 : decode cX9_findMaps 50 = .ok (.iload 6, 2) := by decide +kernel
theorem dX9_findMaps_52 : decode cX9_findMaps 52 = .ok (.istore 7, 2) := by decide +kernel
theorem dX9_findMaps_54 : decode cX9_findMaps 54 = .ok (.aload_n 0, 1) := by decide +kernel
theorem dX9_findMaps_55 : decode cX9_findMaps 55 = .ok (.getfield 41, 3) := by decide +kernel
theorem dX9_findMaps_58 : decode cX9_findMaps 58 = .ok (.iconst 0, 1) := by decide +kernel
theorem dX9_findMaps_59 : decode cX9_findMaps 59 = .ok (.iconst 1, 1) := by decide +kernel
theorem dX9_findMaps_60 : decode cX9_findMaps 60 = .ok (.iastore, 1) := by decide +kernel
theorem dX9_findMaps_61 : decode cX9_findMaps 61 = .ok (.aload_n 0, 1) := by decide +kernel
theorem dX9_findMaps_62 : decode cX9_findMaps 62 = .ok (.getfield 7, 3) := by decide +kernel
theorem dX9_findMaps_65 : decode cX9_findMaps 65 = .ok (.iload_n 1, 1) := by decide +kernel
theorem dX9_findMaps_66 : decode cX9_findMaps 66 = .ok (.iaload, 1) := by decide +kernel
theorem dX9_findMaps_67 : decode cX9_findMaps 67 = .ok (.iconst 1, 1) := by decide +kernel
theorem dX9_findMaps_68 : decode cX9_findMaps 68 = .ok (.isub, 1) := by decide +kernel
theorem dX9_findMaps_69 : decode cX9_findMaps 69 = .ok (.istore 8, 2) := by decide +kernel
theorem dX9_findMaps_71 : decode cX9_findMaps 71 = .ok (.iload 8, 2) := by decide +kernel
theorem dX9_findMaps_73 : decode cX9_findMaps 73 = .ok (.ifCond .le 26, 3) := by decide +kernel
theorem dX9_findMaps_76 : decode cX9_findMaps 76 = .ok (.aload_n 0, 1) := by decide +kernel
theorem dX9_findMaps_77 : decode cX9_findMaps 77 = .ok (.getfield 41, 3) := by decide +kernel
theorem dX9_findMaps_80 : decode cX9_findMaps 80 = .ok (.iload 8, 2) := by decide +kernel
theorem dX9_findMaps_82 : decode cX9_findMaps 82 = .ok (.iload 7, 2) := by decide +kernel
theorem dX9_findMaps_84 : decode cX9_findMaps 84 = .ok (.iload_n 2, 1) := by decide +kernel
theorem dX9_findMaps_85 : decode cX9_findMaps 85 = .ok (.irem, 1) := by decide +kernel
theorem dX9_findMaps_86 : decode cX9_findMaps 86 = .ok (.iastore, 1) := by decide +kernel
theorem dX9_findMaps_87 : decode cX9_findMaps 87 = .ok (.iload 7, 2) := by decide +kernel
theorem dX9_findMaps_89 : decode cX9_findMaps 89 = .ok (.iload_n 2, 1) := by decide +kernel
theorem dX9_findMaps_90 : decode cX9_findMaps 90 = .ok (.idiv, 1) := by decide +kernel
theorem dX9_findMaps_91 : decode cX9_findMaps 91 = .ok (.istore 7, 2) := by decide +kernel
theorem dX9_findMaps_93 : decode cX9_findMaps 93 = .ok (.iinc 8 (-1), 3) := by decide +kernel
theorem dX9_findMaps_96 : decode cX9_findMaps 96 = .ok (.goto (-25), 3) := by decide +kernel
theorem dX9_findMaps_99 : decode cX9_findMaps 99 = .ok (.iload 5, 2) := by decide +kernel
theorem dX9_findMaps_101 : decode cX9_findMaps 101 = .ok (.aload_n 0, 1) := by decide +kernel
theorem dX9_findMaps_102 : decode cX9_findMaps 102 = .ok (.iload_n 1, 1) := by decide +kernel
theorem dX9_findMaps_103 : decode cX9_findMaps 103 = .ok (.iload_n 2, 1) := by decide +kernel
theorem dX9_findMaps_104 : decode cX9_findMaps 104 = .ok (.invokevirtual 168, 3) := by decide +kernel
theorem dX9_findMaps_107 : decode cX9_findMaps 107 = .ok (.ifCond .eq 7, 3) := by decide +kernel
theorem dX9_findMaps_110 : decode cX9_findMaps 110 = .ok (.iconst 1, 1) := by decide +kernel
theorem dX9_findMaps_111 : decode cX9_findMaps 111 = .ok (.goto 4, 3) := by decide +kernel
theorem dX9_findMaps_114 : decode cX9_findMaps 114 = .ok (.iconst 0, 1) := by decide +kernel
theorem dX9_findMaps_115 : decode cX9_findMaps 115 = .ok (.iadd, 1) := by decide +kernel
theorem dX9_findMaps_116 : decode cX9_findMaps 116 = .ok (.istore 5, 2) := by decide +kernel
theorem dX9_findMaps_118 : decode cX9_findMaps 118 = .ok (.iinc 6 1, 3) := by decide +kernel
theorem dX9_findMaps_121 : decode cX9_findMaps 121 = .ok (.goto (-86), 3) := by decide +kernel
theorem dX9_findMaps_124 : decode cX9_findMaps 124 = .ok (.iload 5, 2) := by decide +kernel
theorem dX9_findMaps_126 : decode cX9_findMaps 126 = .ok (.ireturn, 1) := by decide +kernel
set_option maxRecDepth 20000 in
theorem ggX9_maps_X9_noTable : GoodIn wsX9_maps wsX9_noTable := goodIn_r _ [4, 5, 6, 7, 3, 8] (by decide +kernel) (by decide +kernel)
set_option maxRecDepth 20000 in
theorem gX9_maps_X9_noTable : GoodIn wsX9_maps (va_wsS RX9 64 yX9_noTable wsX9_noTable) := goodIn_app (goodIn_of _ (by decide +kernel)) ggX9_maps_X9_noTable
set_option maxRecDepth 20000 in
theorem ggX9_maps_X9_isPrime : GoodIn wsX9_maps wsX9_isPrime := goodIn_r _ [11] (by decide +kernel) (by decide +kernel)
set_option maxRecDepth 20000 in
theorem gX9_maps_X9_isPrime : GoodIn wsX9_maps (va_wsS RX9 171 yX9_isPrime wsX9_isPrime) := goodIn_app (goodIn_of _ (by decide +kernel)) ggX9_maps_X9_isPrime
set_option maxRecDepth 20000 in
theorem ggX9_maps_X9_isRight : GoodIn wsX9_maps wsX9_isRight := goodIn_r _ [15, 16, 17, 18, 3, 19, 20, 21, 22, 23, 24, 25, 26, 27, 28, 29, 30, 31, 32, 33, 34, 35, 36, 37, 38, 39, 40, 41, 42, 43, 53, 54, 55, 56, 57, 58, 59, 60, 61, 62, 63, 64, 65, 66, 67] (by decide +kernel) (by decide +kernel)
set_option maxRecDepth 20000 in
theorem gX9_maps_X9_isRight : GoodIn wsX9_maps (wsV RX9 96 RX9 yX9_isRight wsX9_isRight) := goodIn_app (goodIn_of _ (by decide +kernel)) ggX9_maps_X9_isRight
set_option maxRecDepth 20000 in
theorem ggX9_maps_X9_findMaps : GoodIn wsX9_maps wsX9_findMaps := goodIn_r _ [47, 20, 48, 49, 50, 51, 3, 52, 21, 22, 23, 24, 25, 53, 54, 55, 56, 57, 58, 59, 60, 61, 62, 63, 64, 65, 66, 67] (by decide +kernel) (by decide +kernel)
set_option maxRecDepth 20000 in
theorem gX9_maps_X9_findMaps : GoodIn wsX9_maps (wsV RX9 174 RX9 yX9_findMaps wsX9_findMaps) := goodIn_app (goodIn_of _ (by decide +kernel)) ggX9_maps_X9_findMaps
theorem dX9_maps_0 : decode cX9_maps 0 = .ok (.iload_n 1, 1) := by decide +kernel
theorem dX9_maps_1 : decode cX9_maps 1 = .ok (.invokestatic 64, 3) := by decide +kernel
theorem dX9_maps_4 : decode cX9_maps 4 = .ok (.ifCond .ne 10, 3) := by decide +kernel
theorem dX9_maps_7 : decode cX9_maps 7 = .ok (.iload_n 2, 1) := by decide +kernel
theorem dX9_maps_8 : decode cX9_maps 8 = .ok (.invokestatic 171, 3) := by decide +kernel
theorem dX9_maps_11 : decode cX9_maps 11 = .ok (.ifCond .ne 6, 3) := by decide +kernel
theorem dX9_maps_14 : decode cX9_maps 14 = .ok (.bipush (-2), 2) := by decide +kernel
theorem dX9_maps_16 : decode cX9_maps 16 = .ok (.ireturn, 1) := by decide +kernel
theorem dX9_maps_17 : decode cX9_maps 17 = .ok (.aload_n 0, 1) := by decide +kernel
theorem dX9_maps_18 : decode cX9_maps 18 = .ok (.iload_n 1, 1) := by decide +kernel
theorem dX9_maps_19 : decode cX9_maps 19 = .ok (.invokevirtual 96, 3) := by decide +kernel
theorem dX9_maps_22 : decode cX9_maps 22 = .ok (.ifCond .eq 14, 3) := by decide +kernel
theorem dX9_maps_25 : decode cX9_maps 25 = .ok (.aload_n 0, 1) := by decide +kernel
theorem dX9_maps_26 : decode cX9_maps 26 = .ok (.iload_n 1, 1) := by decide +kernel
theorem dX9_maps_27 : decode cX9_maps 27 = .ok (.iload_n 2, 1) := by decide +kernel
theorem dX9_maps_28 : decode cX9_maps 28 = .ok (.bipush (-2), 2) := by decide +kernel
theorem dX9_maps_30 : decode cX9_maps 30 = .ok (.invokevirtual 174, 3) := by decide +kernel
theorem dX9_maps_33 : decode cX9_maps 33 = .ok (.goto 5, 3) := by decide +kernel
theorem dX9_maps_36 : decode cX9_maps 36 = .ok (.bipush (-3), 2) := by decide +kernel
theorem dX9_maps_38 : decode cX9_maps 38 = .ok (.ireturn, 1) := by decide +kernel
set_option maxRecDepth 20000 in
theorem ggX9_map_X9_noTable : GoodIn wsX9_map wsX9_noTable := goodIn_r _ [6, 7, 8, 9, 5, 10] (by decide +kernel) (by decide +kernel)
set_option maxRecDepth 20000 in
theorem gX9_map_X9_noTable : GoodIn wsX9_map (va_wsS RX9 64 yX9_noTable wsX9_noTable) := goodIn_app (goodIn_of _ (by decide +kernel)) ggX9_map_X9_noTable
set_option maxRecDepth 20000 in
theorem ggX9_map_X9_isPrime : GoodIn wsX9_map wsX9_isPrime := goodIn_r _ [13] (by decide +kernel) (by decide +kernel)
set_option maxRecDepth 20000 in
theorem gX9_map_X9_isPrime : GoodIn wsX9_map (va_wsS RX9 171 yX9_isPrime wsX9_isPrime) := goodIn_app (goodIn_of _ (by decide +kernel)) ggX9_map_X9_isPrime
set_option maxRecDepth 20000 in
theorem ggX9_map_X9_isKind : GoodIn wsX9_map wsX9_isKind := goodIn_r _ [17, 18, 8, 9, 5, 10, 58, 59, 60, 61, 62, 63, 64, 65, 66, 67, 68, 69, 70, 71, 72] (by decide +kernel) (by decide +kernel)
set_option maxRecDepth 20000 in
theorem gX9_map_X9_isKind : GoodIn wsX9_map (wsV RX9 68 RX9 yX9_isKind wsX9_isKind) := goodIn_app (goodIn_of _ (by decide +kernel)) ggX9_map_X9_isKind
set_option maxRecDepth 20000 in
theorem ggX9_map_X9_isRight : GoodIn wsX9_map wsX9_isRight := goodIn_r _ [22, 23, 24, 25, 5, 26, 18, 27, 28, 29, 30, 31, 32, 33, 34, 35, 36, 37, 38, 39, 40, 41, 42, 43, 44, 45, 46, 47, 48, 49, 58, 59, 60, 61, 62, 63, 64, 65, 66, 67, 68, 69, 70, 71, 72] (by decide +kernel) (by decide +kernel)
set_option maxRecDepth 20000 in
theorem gX9_map_X9_isRight : GoodIn wsX9_map (wsV RX9 96 RX9 yX9_isRight wsX9_isRight) := goodIn_app (goodIn_of _ (by decide +kernel)) ggX9_map_X9_isRight
set_option maxRecDepth 20000 in
theorem ggX9_map_X9_findMaps : GoodIn wsX9_map wsX9_findMaps := goodIn_r _ [53, 18, 2, 54, 55, 56, 5, 57, 27, 28, 29, 30, 31, 58, 59, 60, 61, 62, 63, 64, 65, 66, 67, 68, 69, 70, 71, 72] (by decide +kernel) (by decide +kernel)
set_option maxRecDepth 20000 in
theorem gX9_map_X9_findMaps : GoodIn wsX9_map (wsV RX9 174 RX9 yX9_findMaps wsX9_findMaps) := goodIn_app (goodIn_of _ (by decide +kernel)) ggX9_map_X9_findMaps
theorem dX9_map_0 : decode cX9_map 0 = .ok (.iload_n 1, 1) := by decide +kernel
theorem dX9_map_1 : decode cX9_map 1 = .ok (.invokestatic 64, 3) := by decide +kernel
theorem dX9_map_4 : decode cX9_map 4 = .ok (.ifCond .ne 24, 3) := by decide +kernel
theorem dX9_map_7 : decode cX9_map 7 = .ok (.iload_n 2, 1) := by decide +kernel
theorem dX9_map_8 : decode cX9_map 8 = .ok (.invokestatic 171, 3) := by decide +kernel
theorem dX9_map_11 : decode cX9_map 11 = .ok (.ifCond .eq 17, 3) := by decide +kernel
theorem dX9_map_14 : decode cX9_map 14 = .ok (.iload_n 3, 1) := by decide +kernel
theorem dX9_map_15 : decode cX9_map 15 = .ok (.ifCond .lt 13, 3) := by decide +kernel
theorem dX9_map_18 : decode cX9_map 18 = .ok (.aload_n 0, 1) := by decide +kernel
theorem dX9_map_19 : decode cX9_map 19 = .ok (.iload_n 1, 1) := by decide +kernel
theorem dX9_map_20 : decode cX9_map 20 = .ok (.iload 4, 2) := by decide +kernel
theorem dX9_map_22 : decode cX9_map 22 = .ok (.invokevirtual 68, 3) := by decide +kernel
theorem dX9_map_25 : decode cX9_map 25 = .ok (.ifCond .ne 6, 3) := by decide +kernel
theorem dX9_map_28 : decode cX9_map 28 = .ok (.bipush (-2), 2) := by decide +kernel
theorem dX9_map_30 : decode cX9_map 30 = .ok (.ireturn, 1) := by decide +kernel
theorem dX9_map_31 : decode cX9_map 31 = .ok (.aload_n 0, 1) := by decide +kernel
theorem dX9_map_32 : decode cX9_map 32 = .ok (.iload_n 1, 1) := by decide +kernel
theorem dX9_map_33 : decode cX9_map 33 = .ok (.invokevirtual 96, 3) := by decide +kernel
theorem dX9_map_36 : decode cX9_map 36 = .ok (.ifCond .ne 6, 3) := by decide +kernel
theorem dX9_map_39 : decode cX9_map 39 = .ok (.bipush (-3), 2) := by decide +kernel
theorem dX9_map_41 : decode cX9_map 41 = .ok (.ireturn, 1) := by decide +kernel
theorem dX9_map_42 : decode cX9_map 42 = .ok (.iload_n 3, 1) := by decide +kernel
theorem dX9_map_43 : decode cX9_map 43 = .ok (.ldc 138, 2) := by decide +kernel
theorem dX9_map_45 : decode cX9_map 45 = .ok (.if_icmp .ge 26, 3) := by decide +kernel
theorem dX9_map_48 : decode cX9_map 48 = .ok (.aload_n 0, 1) := by decide +kernel
theorem dX9_map_49 : decode cX9_map 49 = .ok (.iload_n 1, 1) := by decide +kernel
theorem dX9_map_50 : decode cX9_map 50 = .ok (.iload_n 2, 1) := by decide +kernel
theorem dX9_map_51 : decode cX9_map 51 = .ok (.iload_n 3, 1) := by decide +kernel
theorem dX9_map_52 : decode cX9_map 52 = .ok (.invokevirtual 174, 3) := by decide +kernel
theorem dX9_map_55 : decode cX9_map 55 = .ok (.iload_n 3, 1) := by decide +kernel
theorem dX9_map_56 : decode cX9_map 56 = .ok (.iconst 1, 1) := by decide +kernel
theorem dX9_map_57 : decode cX9_map 57 = .ok (.iadd, 1) := by decide +kernel
theorem dX9_map_58 : decode cX9_map 58 = .ok (.if_icmp .ne 13, 3) := by decide +kernel
theorem dX9_map_61 : decode cX9_map 61 = .ok (.aload_n 0, 1) := by decide +kernel
theorem dX9_map_62 : decode cX9_map 62 = .ok (.getfield 41, 3) := by decide +kernel
theorem dX9_map_65 : decode cX9_map 65 = .ok (.iload 4, 2) := by decide +kernel
theorem dX9_map_67 : decode cX9_map 67 = .ok (.iaload, 1) := by decide +kernel
theorem dX9_map_68 : decode cX9_map 68 = .ok (.goto 4, 3) := by decide +kernel
theorem dX9_map_71 : decode cX9_map 71 = .ok (.iconst (-1), 1) := by decide +kernel
theorem dX9_map_72 : decode cX9_map 72 = .ok (.ireturn, 1) := by decide +kernel
set_option maxRecDepth 20000 in
theorem ggX9_layLines_X9_n : GoodIn wsX9_layLines wsX9_n := goodIn_r _ [7, 8, 9, 10, 11, 12, 13, 14, 15, 16, 17, 18, 19, 20, 21, 22, 23] (by decide +kernel) (by decide +kernel)
set_option maxRecDepth 20000 in
theorem gX9_layLines_X9_n : GoodIn wsX9_layLines (wsV RX9 74 RX9 yX9_n wsX9_n) := goodIn_app (goodIn_of _ (by decide +kernel)) ggX9_layLines_X9_n
theorem dX9_layLines_0 : decode cX9_layLines 0 = .ok (.iconst 0, 1) := by decide +kernel
theorem dX9_layLines_1 : decode cX9_layLines 1 = .ok (.istore_n 3, 1) := by decide +kernel
theorem dX9_layLines_2 : decode cX9_layLines 2 = .ok (.iload_n 3, 1) := by decide +kernel
theorem dX9_layLines_3 : decode cX9_layLines 3 = .ok (.aload_n 0, 1) := by decide +kernel
theorem dX9_layLines_4 : decode cX9_layLines 4 = .ok (.getfield 7, 3) := by decide +kernel
theorem dX9_layLines_7 : decode cX9_layLines 7 = .ok (.iload_n 1, 1) := by decide +kernel
theorem dX9_layLines_8 : decode cX9_layLines 8 = .ok (.iaload, 1) := by decide +kernel
theorem dX9_layLines_9 : decode cX9_layLines 9 = .ok (.if_icmp .ge 95, 3) := by decide +kernel
theorem dX9_layLines_12 : decode cX9_layLines 12 = .ok (.iconst 0, 1) := by decide +kernel
theorem dX9_layLines_13 : decode cX9_layLines 13 = .ok (.istore 4, 2) := by decide +kernel
theorem dX9_layLines_15 : decode cX9_layLines 15 = .ok (.iload 4, 2) := by decide +kernel
theorem dX9_layLines_17 : decode cX9_layLines 17 = .ok (.aload_n 0, 1) := by decide +kernel
theorem dX9_layLines_18 : decode cX9_layLines 18 = .ok (.getfield 7, 3) := by decide +kernel
theorem dX9_layLines_21 : decode cX9_layLines 21 = .ok (.iload_n 1, 1) := by decide +kernel
theorem dX9_layLines_22 : decode cX9_layLines 22 = .ok (.iaload, 1) := by decide +kernel
theorem dX9_layLines_23 : decode cX9_layLines 23 = .ok (.if_icmp .ge 75, 3) := by decide +kernel
theorem dX9_layLines_26 : decode cX9_layLines 26 = .ok (.iconst 0, 1) := by decide +kernel
theorem dX9_layLines_27 : decode cX9_layLines 27 = .ok (.istore 5, 2) := by decide +kernel
theorem dX9_layLines_29 : decode cX9_layLines 29 = .ok (.iconst 0, 1) := by decide +kernel
theorem dX9_layLines_30 : decode cX9_layLines 30 = .ok (.istore 6, 2) := by decide +kernel
theorem dX9_layLines_32 : decode cX9_layLines 32 = .ok (.iload 6, 2) := by decide +kernel
theorem dX9_layLines_34 : decode cX9_layLines 34 = .ok (.aload_n 0, 1) := by decide +kernel
theorem dX9_layLines_35 : decode cX9_layLines 35 = .ok (.getfield 7, 3) := by decide +kernel
theorem dX9_layLines_38 : decode cX9_layLines 38 = .ok (.iload_n 1, 1) := by decide +kernel
theorem dX9_layLines_39 : decode cX9_layLines 39 = .ok (.iaload, 1) := by decide +kernel
theorem dX9_layLines_40 : decode cX9_layLines 40 = .ok (.if_icmp .ge 24, 3) := by decide +kernel
theorem dX9_layLines_43 : decode cX9_layLines 43 = .ok (.iload 5, 2) := by decide +kernel
theorem dX9_layLines_45 : decode cX9_layLines 45 = .ok (.aload_n 0, 1) := by decide +kernel
theorem dX9_layLines_46 : decode cX9_layLines 46 = .ok (.iload_n 1, 1) := by decide +kernel
theorem dX9_layLines_47 : decode cX9_layLines 47 = .ok (.iload 6, 2) := by decide +kernel
theorem dX9_layLines_49 : decode cX9_layLines 49 = .ok (.iload_n 3, 1) := by decide +kernel
theorem dX9_layLines_50 : decode cX9_layLines 50 = .ok (.iload 4, 2) := by decide +kernel
theorem dX9_layLines_52 : decode cX9_layLines 52 = .ok (.invokevirtual 74, 3) := by decide +kernel
theorem dX9_layLines_55 : decode cX9_layLines 55 = .ok (.iadd, 1) := by decide +kernel
theorem dX9_layLines_56 : decode cX9_layLines 56 = .ok (.istore 5, 2) := by decide +kernel
theorem dX9_layLines_58 : decode cX9_layLines 58 = .ok (.iinc 6 1, 3) := by decide +kernel
theorem dX9_layLines_61 : decode cX9_layLines 61 = .ok (.goto (-29), 3) := by decide +kernel
theorem dX9_layLines_64 : decode cX9_layLines 64 = .ok (.aload_n 0, 1) := by decide +kernel
theorem dX9_layLines_65 : decode cX9_layLines 65 = .ok (.getfield 44, 3) := by decide +kernel
theorem dX9_layLines_68 : decode cX9_layLines 68 = .ok (.iconst 5, 1) := by decide +kernel
theorem dX9_layLines_69 : decode cX9_layLines 69 = .ok (.iload_n 3, 1) := by decide +kernel
theorem dX9_layLines_70 : decode cX9_layLines 70 = .ok (.imul, 1) := by decide +kernel
theorem dX9_layLines_71 : decode cX9_layLines 71 = .ok (.iload 4, 2) := by decide +kernel
theorem dX9_layLines_73 : decode cX9_layLines 73 = .ok (.iadd, 1) := by decide +kernel
theorem dX9_layLines_74 : decode cX9_layLines 74 = .ok (.iload_n 3, 1) := by decide +kernel
theorem dX9_layLines_75 : decode cX9_layLines 75 = .ok (.iload 4, 2) := by decide +kernel
theorem dX9_layLines_77 : decode cX9_layLines 77 = .ok (.if_icmp .ne 7, 3) := by decide +kernel
theorem dX9_layLines_80 : decode cX9_layLines 80 = .ok (.iload_n 2, 1) := by decide +kernel
theorem dX9_layLines_81 : decode cX9_layLines 81 = .ok (.goto 4, 3) := by decide +kernel
theorem dX9_layLines_84 : decode cX9_layLines 84 = .ok (.iconst 0, 1) := by decide +kernel
theorem dX9_layLines_85 : decode cX9_layLines 85 = .ok (.bipush 10, 2) := by decide +kernel
theorem dX9_layLines_87 : decode cX9_layLines 87 = .ok (.iload 5, 2) := by decide +kernel
theorem dX9_layLines_89 : decode cX9_layLines 89 = .ok (.imul, 1) := by decide +kernel
theorem dX9_layLines_90 : decode cX9_layLines 90 = .ok (.isub, 1) := by decide +kernel
theorem dX9_layLines_91 : decode cX9_layLines 91 = .ok (.iastore, 1) := by decide +kernel
theorem dX9_layLines_92 : decode cX9_layLines 92 = .ok (.iinc 4 1, 3) := by decide +kernel
theorem dX9_layLines_95 : decode cX9_layLines 95 = .ok (.goto (-80), 3) := by decide +kernel
theorem dX9_layLines_98 : decode cX9_layLines 98 = .ok (.iinc 3 1, 3) := by decide +kernel
theorem dX9_layLines_101 : decode cX9_layLines 101 = .ok (.goto (-99), 3) := by decide +kernel
theorem dX9_layLines_104 : decode cX9_layLines 104 = .ok (.return_, 1) := by decide +kernel
theorem dX9_layTurn_0 : decode cX9_layTurn 0 = .ok (.iload_n 2, 1) := by decide +kernel
theorem dX9_layTurn_1 : decode cX9_layTurn 1 = .ok (.istore_n 3, 1) := by decide +kernel
theorem dX9_layTurn_2 : decode cX9_layTurn 2 = .ok (.iconst 1, 1) := by decide +kernel
theorem dX9_layTurn_3 : decode cX9_layTurn 3 = .ok (.istore 4, 2) := by decide +kernel
theorem dX9_layTurn_5 : decode cX9_layTurn 5 = .ok (.iconst 0, 1) := by decide +kernel
theorem dX9_layTurn_6 : decode cX9_layTurn 6 = .ok (.istore 5, 2) := by decide +kernel
theorem dX9_layTurn_8 : decode cX9_layTurn 8 = .ok (.iload 5, 2) := by decide +kernel
theorem dX9_layTurn_10 : decode cX9_layTurn 10 = .ok (.iload_n 1, 1) := by decide +kernel
theorem dX9_layTurn_11 : decode cX9_layTurn 11 = .ok (.if_icmp .ge 88, 3) := by decide +kernel
theorem dX9_layTurn_14 : decode cX9_layTurn 14 = .ok (.aload_n 0, 1) := by decide +kernel
theorem dX9_layTurn_15 : decode cX9_layTurn 15 = .ok (.getfield 47, 3) := by decide +kernel
theorem dX9_layTurn_18 : decode cX9_layTurn 18 = .ok (.iload 5, 2) := by decide +kernel
theorem dX9_layTurn_20 : decode cX9_layTurn 20 = .ok (.iload_n 3, 1) := by decide +kernel
theorem dX9_layTurn_21 : decode cX9_layTurn 21 = .ok (.iload_n 1, 1) := by decide +kernel
theorem dX9_layTurn_22 : decode cX9_layTurn 22 = .ok (.irem, 1) := by decide +kernel
theorem dX9_layTurn_23 : decode cX9_layTurn 23 = .ok (.iastore, 1) := by decide +kernel
theorem dX9_layTurn_24 : decode cX9_layTurn 24 = .ok (.iload_n 3, 1) := by decide +kernel
theorem dX9_layTurn_25 : decode cX9_layTurn 25 = .ok (.iload_n 1, 1) := by decide +kernel
theorem dX9_layTurn_26 : decode cX9_layTurn 26 = .ok (.idiv, 1) := by decide +kernel
theorem dX9_layTurn_27 : decode cX9_layTurn 27 = .ok (.istore_n 3, 1) := by decide +kernel
theorem dX9_layTurn_28 : decode cX9_layTurn 28 = .ok (.iconst 0, 1) := by decide +kernel
theorem dX9_layTurn_29 : decode cX9_layTurn 29 = .ok (.istore 6, 2) := by decide +kernel
theorem dX9_layTurn_31 : decode cX9_layTurn 31 = .ok (.iload 6, 2) := by decide +kernel
theorem dX9_layTurn_33 : decode cX9_layTurn 33 = .ok (.iload 5, 2) := by decide +kernel
theorem dX9_layTurn_35 : decode cX9_layTurn 35 = .ok (.if_icmp .ge 58, 3) := by decide +kernel
theorem dX9_layTurn_38 : decode cX9_layTurn 38 = .ok (.aload_n 0, 1) := by decide +kernel
theorem dX9_layTurn_39 : decode cX9_layTurn 39 = .ok (.getfield 47, 3) := by decide +kernel
theorem dX9_layTurn_42 : decode cX9_layTurn 42 = .ok (.iload 6, 2) := by decide +kernel
theorem dX9_layTurn_44 : decode cX9_layTurn 44 = .ok (.iaload, 1) := by decide +kernel
theorem dX9_layTurn_45 : decode cX9_layTurn 45 = .ok (.aload_n 0, 1) := by decide +kernel
theorem dX9_layTurn_46 : decode cX9_layTurn 46 = .ok (.getfield 47, 3) := by decide +kernel
theorem dX9_layTurn_49 : decode cX9_layTurn 49 = .ok (.iload 5, 2) := by decide +kernel
theorem dX9_layTurn_51 : decode cX9_layTurn 51 = .ok (.iaload, 1) := by decide +kernel
theorem dX9_layTurn_52 : decode cX9_layTurn 52 = .ok (.if_icmp .ne 7, 3) := by decide +kernel
theorem dX9_layTurn_55 : decode cX9_layTurn 55 = .ok (.iconst 0, 1) := by decide +kernel
theorem dX9_layTurn_56 : decode cX9_layTurn 56 = .ok (.goto 29, 3) := by decide +kernel
theorem dX9_layTurn_59 : decode cX9_layTurn 59 = .ok (.aload_n 0, 1) := by decide +kernel
theorem dX9_layTurn_60 : decode cX9_layTurn 60 = .ok (.getfield 47, 3) := by decide +kernel
theorem dX9_layTurn_63 : decode cX9_layTurn 63 = .ok (.iload 6, 2) := by decide +kernel
theorem dX9_layTurn_65 : decode cX9_layTurn 65 = .ok (.iaload, 1) := by decide +kernel
theorem dX9_layTurn_66 : decode cX9_layTurn 66 = .ok (.aload_n 0, 1) := by decide +kernel
theorem dX9_layTurn_67 : decode cX9_layTurn 67 = .ok (.getfield 47, 3) := by decide +kernel
theorem dX9_layTurn_70 : decode cX9_layTurn 70 = .ok (.iload 5, 2) := by decide +kernel
theorem dX9_layTurn_72 : decode cX9_layTurn 72 = .ok (.iaload, 1) := by decide +kernel
theorem dX9_layTurn_73 : decode cX9_layTurn 73 = .ok (.if_icmp .le 10, 3) := by decide +kernel
theorem dX9_layTurn_76 : decode cX9_layTurn 76 = .ok (.iconst 0, 1) := by decide +kernel
theorem dX9_layTurn_77 : decode cX9_layTurn 77 = .ok (.iload 4, 2) := by decide +kernel
theorem dX9_layTurn_79 : decode cX9_layTurn 79 = .ok (.isub, 1) := by decide +kernel
theorem dX9_layTurn_80 : decode cX9_layTurn 80 = .ok (.goto 5, 3) := by decide +kernel
theorem dX9_layTurn_83 : decode cX9_layTurn 83 = .ok (.iload 4, 2) := by decide +kernel
theorem dX9_layTurn_85 : decode cX9_layTurn 85 = .ok (.istore 4, 2) := by decide +kernel
theorem dX9_layTurn_87 : decode cX9_layTurn 87 = .ok (.iinc 6 1, 3) := by decide +kernel
theorem dX9_layTurn_90 : decode cX9_layTurn 90 = .ok (.goto (-59), 3) := by decide +kernel
theorem dX9_layTurn_93 : decode cX9_layTurn 93 = .ok (.iinc 5 1, 3) := by decide +kernel
theorem dX9_layTurn_96 : decode cX9_layTurn 96 = .ok (.goto (-88), 3) := by decide +kernel
theorem dX9_layTurn_99 : decode cX9_layTurn 99 = .ok (.iload 4, 2) := by decide +kernel
theorem dX9_layTurn_101 : decode cX9_layTurn 101 = .ok (.ireturn, 1) := by decide +kernel
set_option maxRecDepth 20000 in
theorem ggX9_isAbove_X9_layTurn : GoodIn wsX9_isAbove wsX9_layTurn := goodIn_r _ [8, 2, 9, 10, 11, 12, 13, 14, 15, 16, 17, 18, 19, 20, 21, 22, 23] (by decide +kernel) (by decide +kernel)
set_option maxRecDepth 20000 in
theorem gX9_isAbove_X9_layTurn : GoodIn wsX9_isAbove (wsV RX9 177 RX9 yX9_layTurn wsX9_layTurn) := goodIn_app (goodIn_of _ (by decide +kernel)) ggX9_isAbove_X9_layTurn
theorem dX9_isAbove_0 : decode cX9_isAbove 0 = .ok (.lconst 0, 1) := by decide +kernel
theorem dX9_isAbove_1 : decode cX9_isAbove 1 = .ok (.lstore_n 2, 1) := by decide +kernel
theorem dX9_isAbove_2 : decode cX9_isAbove 2 = .ok (.lconst 0, 1) := by decide +kernel
theorem dX9_isAbove_3 : decode cX9_isAbove 3 = .ok (.lstore 4, 2) := by decide +kernel
theorem dX9_isAbove_5 : decode cX9_isAbove 5 = .ok (.iconst 1, 1) := by decide +kernel
theorem dX9_isAbove_6 : decode cX9_isAbove 6 = .ok (.istore 6, 2) := by decide +kernel
theorem dX9_isAbove_8 : decode cX9_isAbove 8 = .ok (.iconst 0, 1) := by decide +kernel
theorem dX9_isAbove_9 : decode cX9_isAbove 9 = .ok (.istore 7, 2) := by decide +kernel
theorem dX9_isAbove_11 : decode cX9_isAbove 11 = .ok (.iload 7, 2) := by decide +kernel
theorem dX9_isAbove_13 : decode cX9_isAbove 13 = .ok (.iload_n 1, 1) := by decide +kernel
theorem dX9_isAbove_14 : decode cX9_isAbove 14 = .ok (.if_icmp .ge 15, 3) := by decide +kernel
theorem dX9_isAbove_17 : decode cX9_isAbove 17 = .ok (.iload 6, 2) := by decide +kernel
theorem dX9_isAbove_19 : decode cX9_isAbove 19 = .ok (.iload_n 1, 1) := by decide +kernel
theorem dX9_isAbove_20 : decode cX9_isAbove 20 = .ok (.imul, 1) := by decide +kernel
theorem dX9_isAbove_21 : decode cX9_isAbove 21 = .ok (.istore 6, 2) := by decide +kernel
theorem dX9_isAbove_23 : decode cX9_isAbove 23 = .ok (.iinc 7 1, 3) := by decide +kernel
theorem dX9_isAbove_26 : decode cX9_isAbove 26 = .ok (.goto (-15), 3) := by decide +kernel
theorem dX9_isAbove_29 : decode cX9_isAbove 29 = .ok (.iconst 0, 1) := by decide +kernel
theorem dX9_isAbove_30 : decode cX9_isAbove 30 = .ok (.istore 7, 2) := by decide +kernel
theorem dX9_isAbove_32 : decode cX9_isAbove 32 = .ok (.iload 7, 2) := by decide +kernel
theorem dX9_isAbove_34 : decode cX9_isAbove 34 = .ok (.iload 6, 2) := by decide +kernel
theorem dX9_isAbove_36 : decode cX9_isAbove 36 = .ok (.if_icmp .ge 138, 3) := by decide +kernel
theorem dX9_isAbove_39 : decode cX9_isAbove 39 = .ok (.aload_n 0, 1) := by decide +kernel
theorem dX9_isAbove_40 : decode cX9_isAbove 40 = .ok (.iload_n 1, 1) := by decide +kernel
theorem dX9_isAbove_41 : decode cX9_isAbove 41 = .ok (.iload 7, 2) := by decide +kernel
theorem dX9_isAbove_43 : decode cX9_isAbove 43 = .ok (.invokevirtual 177, 3) := by decide +kernel
theorem dX9_isAbove_46 : decode cX9_isAbove 46 = .ok (.istore 8, 2) := by decide +kernel
theorem dX9_isAbove_48 : decode cX9_isAbove 48 = .ok (.iload 8, 2) := by decide +kernel
theorem dX9_isAbove_50 : decode cX9_isAbove 50 = .ok (.ifCond .eq 118, 3) := by decide +kernel
theorem dX9_isAbove_53 : decode cX9_isAbove 53 = .ok (.iload 8, 2) := by decide +kernel
theorem dX9_isAbove_55 : decode cX9_isAbove 55 = .ok (.i2l, 1) := by decide +kernel
theorem dX9_isAbove_56 : decode cX9_isAbove 56 = .ok (.lstore 9, 2) := by decide +kernel
theorem dX9_isAbove_58 : decode cX9_isAbove 58 = .ok (.lconst 1, 1) := by decide +kernel
theorem dX9_isAbove_59 : decode cX9_isAbove 59 = .ok (.lstore 11, 2) := by decide +kernel
theorem dX9_isAbove_61 : decode cX9_isAbove 61 = .ok (.iconst 0, 1) := by decide +kernel
theorem dX9_isAbove_62 : decode cX9_isAbove 62 = .ok (.istore 13, 2) := by decide +kernel
theorem dX9_isAbove_64 : decode cX9_isAbove 64 = .ok (.iload 13, 2) := by decide +kernel
theorem dX9_isAbove_66 : decode cX9_isAbove 66 = .ok (.iload_n 1, 1) := by decide +kernel
theorem dX9_isAbove_67 : decode cX9_isAbove 67 = .ok (.if_icmp .ge 75, 3) := by decide +kernel
theorem dX9_isAbove_70 : decode cX9_isAbove 70 = .ok (.lload 9, 2) := by decide +kernel
theorem dX9_isAbove_72 : decode cX9_isAbove 72 = .ok (.iload 13, 2) := by decide +kernel
theorem dX9_isAbove_74 : decode cX9_isAbove 74 = .ok (.iconst 3, 1) := by decide +kernel
theorem dX9_isAbove_75 : decode cX9_isAbove 75 = .ok (.if_icmp .ge 24, 3) := by decide +kernel
theorem dX9_isAbove_78 : decode cX9_isAbove 78 = .ok (.aload_n 0, 1) := by decide +kernel
theorem dX9_isAbove_79 : decode cX9_isAbove 79 = .ok (.getfield 44, 3) := by decide +kernel
theorem dX9_isAbove_82 : decode cX9_isAbove 82 = .ok (.iconst 5, 1) := by decide +kernel
theorem dX9_isAbove_83 : decode cX9_isAbove 83 = .ok (.iload 13, 2) := by decide +kernel
theorem dX9_isAbove_85 : decode cX9_isAbove 85 = .ok (.imul, 1) := by decide +kernel
theorem dX9_isAbove_86 : decode cX9_isAbove 86 = .ok (.aload_n 0, 1) := by decide +kernel
theorem dX9_isAbove_87 : decode cX9_isAbove 87 = .ok (.getfield 47, 3) := by decide +kernel
theorem dX9_isAbove_90 : decode cX9_isAbove 90 = .ok (.iload 13, 2) := by decide +kernel
theorem dX9_isAbove_92 : decode cX9_isAbove 92 = .ok (.iaload, 1) := by decide +kernel
theorem dX9_isAbove_93 : decode cX9_isAbove 93 = .ok (.iadd, 1) := by decide +kernel
theorem dX9_isAbove_94 : decode cX9_isAbove 94 = .ok (.iaload, 1) := by decide +kernel
theorem dX9_isAbove_95 : decode cX9_isAbove 95 = .ok (.i2l, 1) := by decide +kernel
theorem dX9_isAbove_96 : decode cX9_isAbove 96 = .ok (.goto 4, 3) := by decide +kernel
theorem dX9_isAbove_99 : decode cX9_isAbove 99 = .ok (.lconst 1, 1) := by decide +kernel
theorem dX9_isAbove_100 : decode cX9_isAbove 100 = .ok (.lmul, 1) := by decide +kernel
theorem dX9_isAbove_101 : decode cX9_isAbove 101 = .ok (.lstore 9, 2) := by decide +kernel
theorem dX9_isAbove_103 : decode cX9_isAbove 103 = .ok (.lload 11, 2) := by decide +kernel
theorem dX9_isAbove_105 : decode cX9_isAbove 105 = .ok (.iload 13, 2) := by decide +kernel
theorem dX9_isAbove_107 : decode cX9_isAbove 107 = .ok (.iconst 3, 1) := by decide +kernel
theorem dX9_isAbove_108 : decode cX9_isAbove 108 = .ok (.if_icmp .ge 7, 3) := by decide +kernel
theorem dX9_isAbove_111 : decode cX9_isAbove 111 = .ok (.lconst 1, 1) := by decide +kernel
theorem dX9_isAbove_112 : decode cX9_isAbove 112 = .ok (.goto 21, 3) := by decide +kernel
theorem dX9_isAbove_115 : decode cX9_isAbove 115 = .ok (.aload_n 0, 1) := by decide +kernel
theorem dX9_isAbove_116 : decode cX9_isAbove 116 = .ok (.getfield 44, 3) := by decide +kernel
theorem dX9_isAbove_119 : decode cX9_isAbove 119 = .ok (.iconst 5, 1) := by decide +kernel
theorem dX9_isAbove_120 : decode cX9_isAbove 120 = .ok (.iload 13, 2) := by decide +kernel
theorem dX9_isAbove_122 : decode cX9_isAbove 122 = .ok (.imul, 1) := by decide +kernel
theorem dX9_isAbove_123 : decode cX9_isAbove 123 = .ok (.aload_n 0, 1) := by decide +kernel
theorem dX9_isAbove_124 : decode cX9_isAbove 124 = .ok (.getfield 47, 3) := by decide +kernel
theorem dX9_isAbove_127 : decode cX9_isAbove 127 = .ok (.iload 13, 2) := by decide +kernel
theorem dX9_isAbove_129 : decode cX9_isAbove 129 = .ok (.iaload, 1) := by decide +kernel
theorem dX9_isAbove_130 : decode cX9_isAbove 130 = .ok (.iadd, 1) := by decide +kernel
theorem dX9_isAbove_131 : decode cX9_isAbove 131 = .ok (.iaload, 1) := by decide +kernel
theorem dX9_isAbove_132 : decode cX9_isAbove 132 = .ok (.i2l, 1) := by decide +kernel
theorem dX9_isAbove_133 : decode cX9_isAbove 133 = .ok (.lmul, 1) := by decide +kernel
theorem dX9_isAbove_134 : decode cX9_isAbove 134 = .ok (.lstore 11, 2) := by decide +kernel
theorem dX9_isAbove_136 : decode cX9_isAbove 136 = .ok (.iinc 13 1, 3) := by decide +kernel
theorem dX9_isAbove_139 : decode cX9_isAbove 139 = .ok (.goto (-75), 3) := by decide +kernel
theorem dX9_isAbove_142 : decode cX9_isAbove 142 = .ok (.lload_n 2, 1) := by decide +kernel
theorem dX9_isAbove_143 : decode cX9_isAbove 143 = .ok (.lload 9, 2) := by decide +kernel
theorem dX9_isAbove_145 : decode cX9_isAbove 145 = .ok (.ldc2_w 180, 3) := by decide +kernel
theorem dX9_isAbove_148 : decode cX9_isAbove 148 = .ok (.ldiv, 1) := by decide +kernel
theorem dX9_isAbove_149 : decode cX9_isAbove 149 = .ok (.lload 11, 2) := by decide +kernel
theorem dX9_isAbove_151 : decode cX9_isAbove 151 = .ok (.lmul, 1) := by decide +kernel
theorem dX9_isAbove_152 : decode cX9_isAbove 152 = .ok (.ladd, 1) := by decide +kernel
theorem dX9_isAbove_153 : decode cX9_isAbove 153 = .ok (.lstore_n 2, 1) := by decide +kernel
theorem dX9_isAbove_154 : decode cX9_isAbove 154 = .ok (.lload 4, 2) := by decide +kernel
theorem dX9_isAbove_156 : decode cX9_isAbove 156 = .ok (.lload 9, 2) := by decide +kernel
theorem dX9_isAbove_158 : decode cX9_isAbove 158 = .ok (.ldc2_w 180, 3) := by decide +kernel
theorem dX9_isAbove_161 : decode cX9_isAbove 161 = .ok (.lrem, 1) := by decide +kernel
theorem dX9_isAbove_162 : decode cX9_isAbove 162 = .ok (.lload 11, 2) := by decide +kernel
theorem dX9_isAbove_164 : decode cX9_isAbove 164 = .ok (.lmul, 1) := by decide +kernel
theorem dX9_isAbove_165 : decode cX9_isAbove 165 = .ok (.ladd, 1) := by decide +kernel
theorem dX9_isAbove_166 : decode cX9_isAbove 166 = .ok (.lstore 4, 2) := by decide +kernel
theorem dX9_isAbove_168 : decode cX9_isAbove 168 = .ok (.iinc 7 1, 3) := by decide +kernel
theorem dX9_isAbove_171 : decode cX9_isAbove 171 = .ok (.goto (-139), 3) := by decide +kernel
theorem dX9_isAbove_174 : decode cX9_isAbove 174 = .ok (.lload_n 2, 1) := by decide +kernel
theorem dX9_isAbove_175 : decode cX9_isAbove 175 = .ok (.lload 4, 2) := by decide +kernel
theorem dX9_isAbove_177 : decode cX9_isAbove 177 = .ok (.ldc2_w 180, 3) := by decide +kernel
theorem dX9_isAbove_180 : decode cX9_isAbove 180 = .ok (.ldiv, 1) := by decide +kernel
theorem dX9_isAbove_181 : decode cX9_isAbove 181 = .ok (.ladd, 1) := by decide +kernel
theorem dX9_isAbove_182 : decode cX9_isAbove 182 = .ok (.lstore 7, 2) := by decide +kernel
theorem dX9_isAbove_184 : decode cX9_isAbove 184 = .ok (.lload 4, 2) := by decide +kernel
theorem dX9_isAbove_186 : decode cX9_isAbove 186 = .ok (.ldc2_w 180, 3) := by decide +kernel
theorem dX9_isAbove_189 : decode cX9_isAbove 189 = .ok (.lrem, 1) := by decide +kernel
theorem dX9_isAbove_190 : decode cX9_isAbove 190 = .ok (.lstore 9, 2) := by decide +kernel
theorem dX9_isAbove_192 : decode cX9_isAbove 192 = .ok (.lload 7, 2) := by decide +kernel
theorem dX9_isAbove_194 : decode cX9_isAbove 194 = .ok (.lconst 0, 1) := by decide +kernel
theorem dX9_isAbove_195 : decode cX9_isAbove 195 = .ok (.lcmp, 1) := by decide +kernel
theorem dX9_isAbove_196 : decode cX9_isAbove 196 = .ok (.ifCond .gt 31, 3) := by decide +kernel
theorem dX9_isAbove_199 : decode cX9_isAbove 199 = .ok (.lload 7, 2) := by decide +kernel
theorem dX9_isAbove_201 : decode cX9_isAbove 201 = .ok (.lconst 0, 1) := by decide +kernel
theorem dX9_isAbove_202 : decode cX9_isAbove 202 = .ok (.lcmp, 1) := by decide +kernel
theorem dX9_isAbove_203 : decode cX9_isAbove 203 = .ok (.ifCond .ne 10, 3) := by decide +kernel
theorem dX9_isAbove_206 : decode cX9_isAbove 206 = .ok (.lload 9, 2) := by decide +kernel
theorem dX9_isAbove_208 : decode cX9_isAbove 208 = .ok (.lconst 0, 1) := by decide +kernel
theorem dX9_isAbove_209 : decode cX9_isAbove 209 = .ok (.lcmp, 1) := by decide +kernel
theorem dX9_isAbove_210 : decode cX9_isAbove 210 = .ok (.ifCond .gt 17, 3) := by decide +kernel
theorem dX9_isAbove_213 : decode cX9_isAbove 213 = .ok (.lload 7, 2) := by decide +kernel
theorem dX9_isAbove_215 : decode cX9_isAbove 215 = .ok (.lconst 1, 1) := by decide +kernel
theorem dX9_isAbove_216 : decode cX9_isAbove 216 = .ok (.lcmp, 1) := by decide +kernel
theorem dX9_isAbove_217 : decode cX9_isAbove 217 = .ok (.ifCond .ne 14, 3) := by decide +kernel
theorem dX9_isAbove_220 : decode cX9_isAbove 220 = .ok (.lload 9, 2) := by decide +kernel
theorem dX9_isAbove_222 : decode cX9_isAbove 222 = .ok (.lconst 0, 1) := by decide +kernel
theorem dX9_isAbove_223 : decode cX9_isAbove 223 = .ok (.lcmp, 1) := by decide +kernel
theorem dX9_isAbove_224 : decode cX9_isAbove 224 = .ok (.ifCond .ge 7, 3) := by decide +kernel
theorem dX9_isAbove_227 : decode cX9_isAbove 227 = .ok (.iconst 1, 1) := by decide +kernel
theorem dX9_isAbove_228 : decode cX9_isAbove 228 = .ok (.goto 4, 3) := by decide +kernel
theorem dX9_isAbove_231 : decode cX9_isAbove 231 = .ok (.iconst 0, 1) := by decide +kernel
theorem dX9_isAbove_232 : decode cX9_isAbove 232 = .ok (.ireturn, 1) := by decide +kernel
set_option maxRecDepth 20000 in
theorem ggX9_isBelow_X9_layLines : GoodIn wsX9_isBelow wsX9_layLines := goodIn_r _ [6, 1, 7, 8, 9, 10, 5, 11, 12, 23, 24, 25, 26, 27, 28, 29, 30, 31, 32, 33, 34, 35, 36, 37] (by decide +kernel) (by decide +kernel)
set_option maxRecDepth 20000 in
theorem gX9_isBelow_X9_layLines : GoodIn wsX9_isBelow (wsV RX9 182 RX9 yX9_layLines wsX9_layLines) := goodIn_app (goodIn_of _ (by decide +kernel)) ggX9_isBelow_X9_layLines
set_option maxRecDepth 20000 in
theorem ggX9_isBelow_X9_isAbove : GoodIn wsX9_isBelow wsX9_isAbove := goodIn_r _ [16, 7, 17, 18, 19, 20, 21, 5, 22, 23, 24, 25, 26, 27, 28, 29, 30, 31, 32, 33, 34, 35, 36, 37] (by decide +kernel) (by decide +kernel)
set_option maxRecDepth 20000 in
theorem gX9_isBelow_X9_isAbove : GoodIn wsX9_isBelow (wsV RX9 185 RX9 yX9_isAbove wsX9_isAbove) := goodIn_app (goodIn_of _ (by decide +kernel)) ggX9_isBelow_X9_isAbove
theorem dX9_isBelow_0 : decode cX9_isBelow 0 = .ok (.aload_n 0, 1) := by decide +kernel
theorem dX9_isBelow_1 : decode cX9_isBelow 1 = .ok (.iload_n 1, 1) := by decide +kernel
theorem dX9_isBelow_2 : decode cX9_isBelow 2 = .ok (.iload_n 2, 1) := by decide +kernel
theorem dX9_isBelow_3 : decode cX9_isBelow 3 = .ok (.invokevirtual 182, 3) := by decide +kernel
theorem dX9_isBelow_6 : decode cX9_isBelow 6 = .ok (.iconst 1, 1) := by decide +kernel
theorem dX9_isBelow_7 : decode cX9_isBelow 7 = .ok (.istore_n 3, 1) := by decide +kernel
theorem dX9_isBelow_8 : decode cX9_isBelow 8 = .ok (.iconst 1, 1) := by decide +kernel
theorem dX9_isBelow_9 : decode cX9_isBelow 9 = .ok (.istore 4, 2) := by decide +kernel
theorem dX9_isBelow_11 : decode cX9_isBelow 11 = .ok (.iload 4, 2) := by decide +kernel
theorem dX9_isBelow_13 : decode cX9_isBelow 13 = .ok (.aload_n 0, 1) := by decide +kernel
theorem dX9_isBelow_14 : decode cX9_isBelow 14 = .ok (.getfield 7, 3) := by decide +kernel
theorem dX9_isBelow_17 : decode cX9_isBelow 17 = .ok (.iload_n 1, 1) := by decide +kernel
theorem dX9_isBelow_18 : decode cX9_isBelow 18 = .ok (.iaload, 1) := by decide +kernel
theorem dX9_isBelow_19 : decode cX9_isBelow 19 = .ok (.if_icmp .gt 20, 3) := by decide +kernel
theorem dX9_isBelow_22 : decode cX9_isBelow 22 = .ok (.iload_n 3, 1) := by decide +kernel
theorem dX9_isBelow_23 : decode cX9_isBelow 23 = .ok (.ifCond .eq 16, 3) := by decide +kernel
theorem dX9_isBelow_26 : decode cX9_isBelow 26 = .ok (.aload_n 0, 1) := by decide +kernel
theorem dX9_isBelow_27 : decode cX9_isBelow 27 = .ok (.iload 4, 2) := by decide +kernel
theorem dX9_isBelow_29 : decode cX9_isBelow 29 = .ok (.invokevirtual 185, 3) := by decide +kernel
theorem dX9_isBelow_32 : decode cX9_isBelow 32 = .ok (.istore_n 3, 1) := by decide +kernel
theorem dX9_isBelow_33 : decode cX9_isBelow 33 = .ok (.iinc 4 1, 3) := by decide +kernel
theorem dX9_isBelow_36 : decode cX9_isBelow 36 = .ok (.goto (-25), 3) := by decide +kernel
theorem dX9_isBelow_39 : decode cX9_isBelow 39 = .ok (.iload_n 3, 1) := by decide +kernel
theorem dX9_isBelow_40 : decode cX9_isBelow 40 = .ok (.ireturn, 1) := by decide +kernel
set_option maxRecDepth 20000 in
theorem ggX9_size_X9_noTable : GoodIn wsX9_size wsX9_noTable := goodIn_r _ [4, 5, 6, 7, 3, 8] (by decide +kernel) (by decide +kernel)
set_option maxRecDepth 20000 in
theorem gX9_size_X9_noTable : GoodIn wsX9_size (va_wsS RX9 64 yX9_noTable wsX9_noTable) := goodIn_app (goodIn_of _ (by decide +kernel)) ggX9_size_X9_noTable
set_option maxRecDepth 20000 in
theorem ggX9_size_X9_isRight : GoodIn wsX9_size wsX9_isRight := goodIn_r _ [12, 13, 14, 15, 3, 16, 17, 18, 19, 20, 21, 22, 23, 24, 25, 26, 27, 28, 29, 30, 31, 32, 33, 34, 35, 36, 37, 38, 39, 40, 60, 61, 62, 63, 64, 65, 66, 67, 68, 69, 70, 71, 72, 73, 74] (by decide +kernel) (by decide +kernel)
set_option maxRecDepth 20000 in
theorem gX9_size_X9_isRight : GoodIn wsX9_size (wsV RX9 96 RX9 yX9_isRight wsX9_isRight) := goodIn_app (goodIn_of _ (by decide +kernel)) ggX9_size_X9_isRight
set_option maxRecDepth 20000 in
theorem ggX9_size_X9_isBelow : GoodIn wsX9_size wsX9_isBelow := goodIn_r _ [44, 17, 45, 46, 47, 3, 48, 49, 18, 19, 20, 21, 22, 50, 51, 52, 53, 54, 55, 56, 57, 58, 59, 60, 61, 62, 63, 64, 65, 66, 67, 68, 69, 70, 71, 72, 73, 74] (by decide +kernel) (by decide +kernel)
set_option maxRecDepth 20000 in
theorem gX9_size_X9_isBelow : GoodIn wsX9_size (wsV RX9 188 RX9 yX9_isBelow wsX9_isBelow) := goodIn_app (goodIn_of _ (by decide +kernel)) ggX9_size_X9_isBelow
theorem dX9_size_0 : decode cX9_size 0 = .ok (.iload_n 1, 1) := by decide +kernel
theorem dX9_size_1 : decode cX9_size 1 = .ok (.invokestatic 64, 3) := by decide +kernel
theorem dX9_size_4 : decode cX9_size 4 = .ok (.ifCond .eq 6, 3) := by decide +kernel
theorem dX9_size_7 : decode cX9_size 7 = .ok (.bipush (-2), 2) := by decide +kernel
theorem dX9_size_9 : decode cX9_size 9 = .ok (.ireturn, 1) := by decide +kernel
theorem dX9_size_10 : decode cX9_size 10 = .ok (.aload_n 0, 1) := by decide +kernel
theorem dX9_size_11 : decode cX9_size 11 = .ok (.iload_n 1, 1) := by decide +kernel
theorem dX9_size_12 : decode cX9_size 12 = .ok (.invokevirtual 96, 3) := by decide +kernel
theorem dX9_size_15 : decode cX9_size 15 = .ok (.ifCond .ne 6, 3) := by decide +kernel
theorem dX9_size_18 : decode cX9_size 18 = .ok (.bipush (-3), 2) := by decide +kernel
theorem dX9_size_20 : decode cX9_size 20 = .ok (.ireturn, 1) := by decide +kernel
theorem dX9_size_21 : decode cX9_size 21 = .ok (.iconst 0, 1) := by decide +kernel
theorem dX9_size_22 : decode cX9_size 22 = .ok (.istore_n 2, 1) := by decide +kernel
theorem dX9_size_23 : decode cX9_size 23 = .ok (.sipush 2251, 3) := by decide +kernel
theorem dX9_size_26 : decode cX9_size 26 = .ok (.istore_n 3, 1) := by decide +kernel
theorem dX9_size_27 : decode cX9_size 27 = .ok (.iload_n 3, 1) := by decide +kernel
theorem dX9_size_28 : decode cX9_size 28 = .ok (.iload_n 2, 1) := by decide +kernel
theorem dX9_size_29 : decode cX9_size 29 = .ok (.isub, 1) := by decide +kernel
theorem dX9_size_30 : decode cX9_size 30 = .ok (.iconst 1, 1) := by decide +kernel
theorem dX9_size_31 : decode cX9_size 31 = .ok (.if_icmp .le 32, 3) := by decide +kernel
theorem dX9_size_34 : decode cX9_size 34 = .ok (.iload_n 2, 1) := by decide +kernel
theorem dX9_size_35 : decode cX9_size 35 = .ok (.iload_n 3, 1) := by decide +kernel
theorem dX9_size_36 : decode cX9_size 36 = .ok (.iadd, 1) := by decide +kernel
theorem dX9_size_37 : decode cX9_size 37 = .ok (.iconst 2, 1) := by decide +kernel
theorem dX9_size_38 : decode cX9_size 38 = .ok (.idiv, 1) := by decide +kernel
theorem dX9_size_39 : decode cX9_size 39 = .ok (.istore 4, 2) := by decide +kernel
theorem dX9_size_41 : decode cX9_size 41 = .ok (.aload_n 0, 1) := by decide +kernel
theorem dX9_size_42 : decode cX9_size 42 = .ok (.iload_n 1, 1) := by decide +kernel
theorem dX9_size_43 : decode cX9_size 43 = .ok (.iload 4, 2) := by decide +kernel
theorem dX9_size_45 : decode cX9_size 45 = .ok (.invokevirtual 188, 3) := by decide +kernel
theorem dX9_size_48 : decode cX9_size 48 = .ok (.ifCond .eq 9, 3) := by decide +kernel
theorem dX9_size_51 : decode cX9_size 51 = .ok (.iload 4, 2) := by decide +kernel
theorem dX9_size_53 : decode cX9_size 53 = .ok (.istore_n 3, 1) := by decide +kernel
theorem dX9_size_54 : decode cX9_size 54 = .ok (.goto 6, 3) := by decide +kernel
theorem dX9_size_57 : decode cX9_size 57 = .ok (.iload 4, 2) := by decide +kernel
theorem dX9_size_59 : decode cX9_size 59 = .ok (.istore_n 2, 1) := by decide +kernel
theorem dX9_size_60 : decode cX9_size 60 = .ok (.goto (-33), 3) := by decide +kernel
theorem dX9_size_63 : decode cX9_size 63 = .ok (.iload_n 2, 1) := by decide +kernel
theorem dX9_size_64 : decode cX9_size 64 = .ok (.ireturn, 1) := by decide +kernel
set_option maxRecDepth 20000 in
theorem ggX9_digest_X9_n : GoodIn wsX9_digest wsX9_n := goodIn_r _ [10, 11, 12, 13, 14, 15, 16, 17, 18, 19, 20, 21, 22, 23, 24, 25, 26] (by decide +kernel) (by decide +kernel)
set_option maxRecDepth 20000 in
theorem gX9_digest_X9_n : GoodIn wsX9_digest (wsV RX9 74 RX9 yX9_n wsX9_n) := goodIn_app (goodIn_of _ (by decide +kernel)) ggX9_digest_X9_n
theorem dX9_digest_0 : decode cX9_digest 0 = .ok (.ldc2_w 191, 3) := by decide +kernel
theorem dX9_digest_3 : decode cX9_digest 3 = .ok (.lstore_n 1, 1) := by decide +kernel
theorem dX9_digest_4 : decode cX9_digest 4 = .ok (.iconst 0, 1) := by decide +kernel
theorem dX9_digest_5 : decode cX9_digest 5 = .ok (.istore_n 3, 1) := by decide +kernel
theorem dX9_digest_6 : decode cX9_digest 6 = .ok (.iload_n 3, 1) := by decide +kernel
theorem dX9_digest_7 : decode cX9_digest 7 = .ok (.bipush 6, 2) := by decide +kernel
theorem dX9_digest_9 : decode cX9_digest 9 = .ok (.if_icmp .ge 83, 3) := by decide +kernel
theorem dX9_digest_12 : decode cX9_digest 12 = .ok (.aload_n 0, 1) := by decide +kernel
theorem dX9_digest_13 : decode cX9_digest 13 = .ok (.getfield 7, 3) := by decide +kernel
theorem dX9_digest_16 : decode cX9_digest 16 = .ok (.iload_n 3, 1) := by decide +kernel
theorem dX9_digest_17 : decode cX9_digest 17 = .ok (.iaload, 1) := by decide +kernel
theorem dX9_digest_18 : decode cX9_digest 18 = .ok (.istore 4, 2) := by decide +kernel
theorem dX9_digest_20 : decode cX9_digest 20 = .ok (.ldc2_w 193, 3) := by decide +kernel
theorem dX9_digest_23 : decode cX9_digest 23 = .ok (.lload_n 1, 1) := by decide +kernel
theorem dX9_digest_24 : decode cX9_digest 24 = .ok (.lmul, 1) := by decide +kernel
theorem dX9_digest_25 : decode cX9_digest 25 = .ok (.iload 4, 2) := by decide +kernel
theorem dX9_digest_27 : decode cX9_digest 27 = .ok (.i2l, 1) := by decide +kernel
theorem dX9_digest_28 : decode cX9_digest 28 = .ok (.ladd, 1) := by decide +kernel
theorem dX9_digest_29 : decode cX9_digest 29 = .ok (.lstore_n 1, 1) := by decide +kernel
theorem dX9_digest_30 : decode cX9_digest 30 = .ok (.iconst 0, 1) := by decide +kernel
theorem dX9_digest_31 : decode cX9_digest 31 = .ok (.istore 5, 2) := by decide +kernel
theorem dX9_digest_33 : decode cX9_digest 33 = .ok (.iload 5, 2) := by decide +kernel
theorem dX9_digest_35 : decode cX9_digest 35 = .ok (.iload 4, 2) := by decide +kernel
theorem dX9_digest_37 : decode cX9_digest 37 = .ok (.iload 4, 2) := by decide +kernel
theorem dX9_digest_39 : decode cX9_digest 39 = .ok (.imul, 1) := by decide +kernel
theorem dX9_digest_40 : decode cX9_digest 40 = .ok (.iload 4, 2) := by decide +kernel
theorem dX9_digest_42 : decode cX9_digest 42 = .ok (.imul, 1) := by decide +kernel
theorem dX9_digest_43 : decode cX9_digest 43 = .ok (.if_icmp .ge 43, 3) := by decide +kernel
theorem dX9_digest_46 : decode cX9_digest 46 = .ok (.ldc2_w 193, 3) := by decide +kernel
theorem dX9_digest_49 : decode cX9_digest 49 = .ok (.lload_n 1, 1) := by decide +kernel
theorem dX9_digest_50 : decode cX9_digest 50 = .ok (.lmul, 1) := by decide +kernel
theorem dX9_digest_51 : decode cX9_digest 51 = .ok (.aload_n 0, 1) := by decide +kernel
theorem dX9_digest_52 : decode cX9_digest 52 = .ok (.iload_n 3, 1) := by decide +kernel
theorem dX9_digest_53 : decode cX9_digest 53 = .ok (.iload 5, 2) := by decide +kernel
theorem dX9_digest_55 : decode cX9_digest 55 = .ok (.iload 4, 2) := by decide +kernel
theorem dX9_digest_57 : decode cX9_digest 57 = .ok (.iload 4, 2) := by decide +kernel
theorem dX9_digest_59 : decode cX9_digest 59 = .ok (.imul, 1) := by decide +kernel
theorem dX9_digest_60 : decode cX9_digest 60 = .ok (.idiv, 1) := by decide +kernel
theorem dX9_digest_61 : decode cX9_digest 61 = .ok (.iload 5, 2) := by decide +kernel
theorem dX9_digest_63 : decode cX9_digest 63 = .ok (.iload 4, 2) := by decide +kernel
theorem dX9_digest_65 : decode cX9_digest 65 = .ok (.idiv, 1) := by decide +kernel
theorem dX9_digest_66 : decode cX9_digest 66 = .ok (.iload 4, 2) := by decide +kernel
theorem dX9_digest_68 : decode cX9_digest 68 = .ok (.irem, 1) := by decide +kernel
theorem dX9_digest_69 : decode cX9_digest 69 = .ok (.iload 5, 2) := by decide +kernel
theorem dX9_digest_71 : decode cX9_digest 71 = .ok (.iload 4, 2) := by decide +kernel
theorem dX9_digest_73 : decode cX9_digest 73 = .ok (.irem, 1) := by decide +kernel
theorem dX9_digest_74 : decode cX9_digest 74 = .ok (.invokevirtual 74, 3) := by decide +kernel
theorem dX9_digest_77 : decode cX9_digest 77 = .ok (.i2l, 1) := by decide +kernel
theorem dX9_digest_78 : decode cX9_digest 78 = .ok (.ladd, 1) := by decide +kernel
theorem dX9_digest_79 : decode cX9_digest 79 = .ok (.lstore_n 1, 1) := by decide +kernel
theorem dX9_digest_80 : decode cX9_digest 80 = .ok (.iinc 5 1, 3) := by decide +kernel
theorem dX9_digest_83 : decode cX9_digest 83 = .ok (.goto (-50), 3) := by decide +kernel
theorem dX9_digest_86 : decode cX9_digest 86 = .ok (.iinc 3 1, 3) := by decide +kernel
theorem dX9_digest_89 : decode cX9_digest 89 = .ok (.goto (-83), 3) := by decide +kernel
theorem dX9_digest_92 : decode cX9_digest 92 = .ok (.ldc2_w 193, 3) := by decide +kernel
theorem dX9_digest_95 : decode cX9_digest 95 = .ok (.lload_n 1, 1) := by decide +kernel
theorem dX9_digest_96 : decode cX9_digest 96 = .ok (.lmul, 1) := by decide +kernel
theorem dX9_digest_97 : decode cX9_digest 97 = .ok (.aload_n 0, 1) := by decide +kernel
theorem dX9_digest_98 : decode cX9_digest 98 = .ok (.getfield 139, 3) := by decide +kernel
theorem dX9_digest_101 : decode cX9_digest 101 = .ok (.i2l, 1) := by decide +kernel
theorem dX9_digest_102 : decode cX9_digest 102 = .ok (.ladd, 1) := by decide +kernel
theorem dX9_digest_103 : decode cX9_digest 103 = .ok (.lstore_n 1, 1) := by decide +kernel
theorem dX9_digest_104 : decode cX9_digest 104 = .ok (.iconst 0, 1) := by decide +kernel
theorem dX9_digest_105 : decode cX9_digest 105 = .ok (.istore_n 3, 1) := by decide +kernel
theorem dX9_digest_106 : decode cX9_digest 106 = .ok (.iload_n 3, 1) := by decide +kernel
theorem dX9_digest_107 : decode cX9_digest 107 = .ok (.aload_n 0, 1) := by decide +kernel
theorem dX9_digest_108 : decode cX9_digest 108 = .ok (.getfield 139, 3) := by decide +kernel
theorem dX9_digest_111 : decode cX9_digest 111 = .ok (.if_icmp .ge 23, 3) := by decide +kernel
theorem dX9_digest_114 : decode cX9_digest 114 = .ok (.ldc2_w 193, 3) := by decide +kernel
theorem dX9_digest_117 : decode cX9_digest 117 = .ok (.lload_n 1, 1) := by decide +kernel
theorem dX9_digest_118 : decode cX9_digest 118 = .ok (.lmul, 1) := by decide +kernel
theorem dX9_digest_119 : decode cX9_digest 119 = .ok (.aload_n 0, 1) := by decide +kernel
theorem dX9_digest_120 : decode cX9_digest 120 = .ok (.getfield 28, 3) := by decide +kernel
theorem dX9_digest_123 : decode cX9_digest 123 = .ok (.iload_n 3, 1) := by decide +kernel
theorem dX9_digest_124 : decode cX9_digest 124 = .ok (.iaload, 1) := by decide +kernel
theorem dX9_digest_125 : decode cX9_digest 125 = .ok (.i2l, 1) := by decide +kernel
theorem dX9_digest_126 : decode cX9_digest 126 = .ok (.ladd, 1) := by decide +kernel
theorem dX9_digest_127 : decode cX9_digest 127 = .ok (.lstore_n 1, 1) := by decide +kernel
theorem dX9_digest_128 : decode cX9_digest 128 = .ok (.iinc 3 1, 3) := by decide +kernel
theorem dX9_digest_131 : decode cX9_digest 131 = .ok (.goto (-25), 3) := by decide +kernel
theorem dX9_digest_134 : decode cX9_digest 134 = .ok (.lload_n 1, 1) := by decide +kernel
theorem dX9_digest_135 : decode cX9_digest 135 = .ok (.lreturn, 1) := by decide +kernel
theorem dJ6_bitCount_0f7a4_0 : decode cJ6_bitCount_0f7a4 0 = .ok (.iload_n 0, 1) := by decide +kernel
theorem dJ6_bitCount_0f7a4_1 : decode cJ6_bitCount_0f7a4 1 = .ok (.iload_n 0, 1) := by decide +kernel
theorem dJ6_bitCount_0f7a4_2 : decode cJ6_bitCount_0f7a4 2 = .ok (.iconst 1, 1) := by decide +kernel
theorem dJ6_bitCount_0f7a4_3 : decode cJ6_bitCount_0f7a4 3 = .ok (.iushr, 1) := by decide +kernel
theorem dJ6_bitCount_0f7a4_4 : decode cJ6_bitCount_0f7a4 4 = .ok (.ldc_w 265, 3) := by decide +kernel
theorem dJ6_bitCount_0f7a4_7 : decode cJ6_bitCount_0f7a4 7 = .ok (.iand, 1) := by decide +kernel
theorem dJ6_bitCount_0f7a4_8 : decode cJ6_bitCount_0f7a4 8 = .ok (.isub, 1) := by decide +kernel
theorem dJ6_bitCount_0f7a4_9 : decode cJ6_bitCount_0f7a4 9 = .ok (.istore_n 0, 1) := by decide +kernel
theorem dJ6_bitCount_0f7a4_10 : decode cJ6_bitCount_0f7a4 10 = .ok (.iload_n 0, 1) := by decide +kernel
theorem dJ6_bitCount_0f7a4_11 : decode cJ6_bitCount_0f7a4 11 = .ok (.ldc_w 266, 3) := by decide +kernel
theorem dJ6_bitCount_0f7a4_14 : decode cJ6_bitCount_0f7a4 14 = .ok (.iand, 1) := by decide +kernel
theorem dJ6_bitCount_0f7a4_15 : decode cJ6_bitCount_0f7a4 15 = .ok (.iload_n 0, 1) := by decide +kernel
theorem dJ6_bitCount_0f7a4_16 : decode cJ6_bitCount_0f7a4 16 = .ok (.iconst 2, 1) := by decide +kernel
theorem dJ6_bitCount_0f7a4_17 : decode cJ6_bitCount_0f7a4 17 = .ok (.iushr, 1) := by decide +kernel
theorem dJ6_bitCount_0f7a4_18 : decode cJ6_bitCount_0f7a4 18 = .ok (.ldc_w 266, 3) := by decide +kernel
theorem dJ6_bitCount_0f7a4_21 : decode cJ6_bitCount_0f7a4 21 = .ok (.iand, 1) := by decide +kernel
theorem dJ6_bitCount_0f7a4_22 : decode cJ6_bitCount_0f7a4 22 = .ok (.iadd, 1) := by decide +kernel
theorem dJ6_bitCount_0f7a4_23 : decode cJ6_bitCount_0f7a4 23 = .ok (.istore_n 0, 1) := by decide +kernel
theorem dJ6_bitCount_0f7a4_24 : decode cJ6_bitCount_0f7a4 24 = .ok (.iload_n 0, 1) := by decide +kernel
theorem dJ6_bitCount_0f7a4_25 : decode cJ6_bitCount_0f7a4 25 = .ok (.iload_n 0, 1) := by decide +kernel
theorem dJ6_bitCount_0f7a4_26 : decode cJ6_bitCount_0f7a4 26 = .ok (.iconst 4, 1) := by decide +kernel
theorem dJ6_bitCount_0f7a4_27 : decode cJ6_bitCount_0f7a4 27 = .ok (.iushr, 1) := by decide +kernel
theorem dJ6_bitCount_0f7a4_28 : decode cJ6_bitCount_0f7a4 28 = .ok (.iadd, 1) := by decide +kernel
theorem dJ6_bitCount_0f7a4_29 : decode cJ6_bitCount_0f7a4 29 = .ok (.ldc_w 267, 3) := by decide +kernel
theorem dJ6_bitCount_0f7a4_32 : decode cJ6_bitCount_0f7a4 32 = .ok (.iand, 1) := by decide +kernel
theorem dJ6_bitCount_0f7a4_33 : decode cJ6_bitCount_0f7a4 33 = .ok (.istore_n 0, 1) := by decide +kernel
theorem dJ6_bitCount_0f7a4_34 : decode cJ6_bitCount_0f7a4 34 = .ok (.iload_n 0, 1) := by decide +kernel
theorem dJ6_bitCount_0f7a4_35 : decode cJ6_bitCount_0f7a4 35 = .ok (.iload_n 0, 1) := by decide +kernel
theorem dJ6_bitCount_0f7a4_36 : decode cJ6_bitCount_0f7a4 36 = .ok (.bipush 8, 2) := by decide +kernel
theorem dJ6_bitCount_0f7a4_38 : decode cJ6_bitCount_0f7a4 38 = .ok (.iushr, 1) := by decide +kernel
theorem dJ6_bitCount_0f7a4_39 : decode cJ6_bitCount_0f7a4 39 = .ok (.iadd, 1) := by decide +kernel
theorem dJ6_bitCount_0f7a4_40 : decode cJ6_bitCount_0f7a4 40 = .ok (.istore_n 0, 1) := by decide +kernel
theorem dJ6_bitCount_0f7a4_41 : decode cJ6_bitCount_0f7a4 41 = .ok (.iload_n 0, 1) := by decide +kernel
theorem dJ6_bitCount_0f7a4_42 : decode cJ6_bitCount_0f7a4 42 = .ok (.iload_n 0, 1) := by decide +kernel
theorem dJ6_bitCount_0f7a4_43 : decode cJ6_bitCount_0f7a4 43 = .ok (.bipush 16, 2) := by decide +kernel
theorem dJ6_bitCount_0f7a4_45 : decode cJ6_bitCount_0f7a4 45 = .ok (.iushr, 1) := by decide +kernel
theorem dJ6_bitCount_0f7a4_46 : decode cJ6_bitCount_0f7a4 46 = .ok (.iadd, 1) := by decide +kernel
theorem dJ6_bitCount_0f7a4_47 : decode cJ6_bitCount_0f7a4 47 = .ok (.istore_n 0, 1) := by decide +kernel
theorem dJ6_bitCount_0f7a4_48 : decode cJ6_bitCount_0f7a4 48 = .ok (.iload_n 0, 1) := by decide +kernel
theorem dJ6_bitCount_0f7a4_49 : decode cJ6_bitCount_0f7a4 49 = .ok (.bipush 63, 2) := by decide +kernel
theorem dJ6_bitCount_0f7a4_51 : decode cJ6_bitCount_0f7a4 51 = .ok (.iand, 1) := by decide +kernel
theorem dJ6_bitCount_0f7a4_52 : decode cJ6_bitCount_0f7a4 52 = .ok (.ireturn, 1) := by decide +kernel
theorem dJ9_max_7cf53_0 : decode cJ9_max_7cf53 0 = .ok (.iload_n 0, 1) := by decide +kernel
theorem dJ9_max_7cf53_1 : decode cJ9_max_7cf53 1 = .ok (.iload_n 1, 1) := by decide +kernel
theorem dJ9_max_7cf53_2 : decode cJ9_max_7cf53 2 = .ok (.if_icmp .lt 7, 3) := by decide +kernel
theorem dJ9_max_7cf53_5 : decode cJ9_max_7cf53 5 = .ok (.iload_n 0, 1) := by decide +kernel
theorem dJ9_max_7cf53_6 : decode cJ9_max_7cf53 6 = .ok (.goto 4, 3) := by decide +kernel
theorem dJ9_max_7cf53_9 : decode cJ9_max_7cf53 9 = .ok (.iload_n 1, 1) := by decide +kernel
theorem dJ9_max_7cf53_10 : decode cJ9_max_7cf53 10 = .ok (.ireturn, 1) := by decide +kernel
theorem dJ7_fill_d0a16_0 : decode cJ7_fill_d0a16 0 = .ok (.iconst 0, 1) := by decide +kernel
theorem dJ7_fill_d0a16_1 : decode cJ7_fill_d0a16 1 = .ok (.istore_n 3, 1) := by decide +kernel
theorem dJ7_fill_d0a16_2 : decode cJ7_fill_d0a16 2 = .ok (.aload_n 0, 1) := by decide +kernel
theorem dJ7_fill_d0a16_3 : decode cJ7_fill_d0a16 3 = .ok (.arraylength, 1) := by decide +kernel
theorem dJ7_fill_d0a16_4 : decode cJ7_fill_d0a16 4 = .ok (.istore 4, 2) := by decide +kernel
theorem dJ7_fill_d0a16_6 : decode cJ7_fill_d0a16 6 = .ok (.iload_n 3, 1) := by decide +kernel
theorem dJ7_fill_d0a16_7 : decode cJ7_fill_d0a16 7 = .ok (.iload 4, 2) := by decide +kernel
theorem dJ7_fill_d0a16_9 : decode cJ7_fill_d0a16 9 = .ok (.if_icmp .ge 13, 3) := by decide +kernel
theorem dJ7_fill_d0a16_12 : decode cJ7_fill_d0a16 12 = .ok (.aload_n 0, 1) := by decide +kernel
theorem dJ7_fill_d0a16_13 : decode cJ7_fill_d0a16 13 = .ok (.iload_n 3, 1) := by decide +kernel
theorem dJ7_fill_d0a16_14 : decode cJ7_fill_d0a16 14 = .ok (.lload_n 1, 1) := by decide +kernel
theorem dJ7_fill_d0a16_15 : decode cJ7_fill_d0a16 15 = .ok (.lastore, 1) := by decide +kernel
theorem dJ7_fill_d0a16_16 : decode cJ7_fill_d0a16 16 = .ok (.iinc 3 1, 3) := by decide +kernel
theorem dJ7_fill_d0a16_19 : decode cJ7_fill_d0a16 19 = .ok (.goto (-13), 3) := by decide +kernel
theorem dJ7_fill_d0a16_22 : decode cJ7_fill_d0a16 22 = .ok (.return_, 1) := by decide +kernel
theorem dJ7_fill_53178_0 : decode cJ7_fill_53178 0 = .ok (.iconst 0, 1) := by decide +kernel
theorem dJ7_fill_53178_1 : decode cJ7_fill_53178 1 = .ok (.istore_n 2, 1) := by decide +kernel
theorem dJ7_fill_53178_2 : decode cJ7_fill_53178 2 = .ok (.aload_n 0, 1) := by decide +kernel
theorem dJ7_fill_53178_3 : decode cJ7_fill_53178 3 = .ok (.arraylength, 1) := by decide +kernel
theorem dJ7_fill_53178_4 : decode cJ7_fill_53178 4 = .ok (.istore_n 3, 1) := by decide +kernel
theorem dJ7_fill_53178_5 : decode cJ7_fill_53178 5 = .ok (.iload_n 2, 1) := by decide +kernel
theorem dJ7_fill_53178_6 : decode cJ7_fill_53178 6 = .ok (.iload_n 3, 1) := by decide +kernel
theorem dJ7_fill_53178_7 : decode cJ7_fill_53178 7 = .ok (.if_icmp .ge 13, 3) := by decide +kernel
theorem dJ7_fill_53178_10 : decode cJ7_fill_53178 10 = .ok (.aload_n 0, 1) := by decide +kernel
theorem dJ7_fill_53178_11 : decode cJ7_fill_53178 11 = .ok (.iload_n 2, 1) := by decide +kernel
theorem dJ7_fill_53178_12 : decode cJ7_fill_53178 12 = .ok (.iload_n 1, 1) := by decide +kernel
theorem dJ7_fill_53178_13 : decode cJ7_fill_53178 13 = .ok (.iastore, 1) := by decide +kernel
theorem dJ7_fill_53178_14 : decode cJ7_fill_53178 14 = .ok (.iinc 2 1, 3) := by decide +kernel
theorem dJ7_fill_53178_17 : decode cJ7_fill_53178 17 = .ok (.goto (-12), 3) := by decide +kernel
theorem dJ7_fill_53178_20 : decode cJ7_fill_53178 20 = .ok (.return_, 1) := by decide +kernel
