theorem dX6_addUpAhead_104 : decode cX6_addUpAhead 104 = .ok (.iload_n 2, 1) := by decide +kernel
theorem dX6_addUpAhead_105 : decode cX6_addUpAhead 105 = .ok (.iadd, 1) := by decide +kernel
theorem dX6_addUpAhead_106 : decode cX6_addUpAhead 106 = .ok (.iload_n 3, 1) := by decide +kernel
theorem dX6_addUpAhead_107 : decode cX6_addUpAhead 107 = .ok (.iastore, 1) := by decide +kernel
theorem dX6_addUpAhead_108 : decode cX6_addUpAhead 108 = .ok (.iinc 2 1, 3) := by decide +kernel
theorem dX6_addUpAhead_111 : decode cX6_addUpAhead 111 = .ok (.goto (-109), 3) := by decide +kernel
theorem dX6_addUpAhead_114 : decode cX6_addUpAhead 114 = .ok (.return_, 1) := by decide +kernel
set_option maxRecDepth 20000 in
theorem ggX6_addUpBehind_X6_step : GoodIn wsX6_addUpBehind wsX6_step := goodIn_r _ [12, 13, 14, 15, 16, 17, 11, 18, 19, 20, 21, 22, 23, 24, 25, 26, 27, 28, 29, 30, 31, 32, 33, 34, 35, 36, 37, 38, 39, 40, 41, 42, 43, 44, 45] (by decide +kernel) (by decide +kernel)
set_option maxRecDepth 20000 in
theorem gX6_addUpBehind_X6_step : GoodIn wsX6_addUpBehind (wsV RX6 73 RX6 yX6_step wsX6_step) := goodIn_app (goodIn_of _ (by decide +kernel)) ggX6_addUpBehind_X6_step
theorem dX6_addUpBehind_0 : decode cX6_addUpBehind 0 = .ok (.iconst 0, 1) := by decide +kernel
theorem dX6_addUpBehind_1 : decode cX6_addUpBehind 1 = .ok (.istore_n 2, 1) := by decide +kernel
theorem dX6_addUpBehind_2 : decode cX6_addUpBehind 2 = .ok (.iload_n 2, 1) := by decide +kernel
theorem dX6_addUpBehind_3 : decode cX6_addUpBehind 3 = .ok (.aload_n 0, 1) := by decide +kernel
theorem dX6_addUpBehind_4 : decode cX6_addUpBehind 4 = .ok (.getfield 35, 3) := by decide +kernel
theorem dX6_addUpBehind_7 : decode cX6_addUpBehind 7 = .ok (.if_icmp .ge 109, 3) := by decide +kernel
theorem dX6_addUpBehind_10 : decode cX6_addUpBehind 10 = .ok (.iload_n 1, 1) := by decide +kernel
theorem dX6_addUpBehind_11 : decode cX6_addUpBehind 11 = .ok (.aload_n 0, 1) := by decide +kernel
theorem dX6_addUpBehind_12 : decode cX6_addUpBehind 12 = .ok (.getfield 31, 3) := by decide +kernel
theorem dX6_addUpBehind_15 : decode cX6_addUpBehind 15 = .ok (.iconst 1, 1) := by decide +kernel
theorem dX6_addUpBehind_16 : decode cX6_addUpBehind 16 = .ok (.isub, 1) := by decide +kernel
theorem dX6_addUpBehind_17 : decode cX6_addUpBehind 17 = .ok (.if_icmp .ne 7, 3) := by decide +kernel
theorem dX6_addUpBehind_20 : decode cX6_addUpBehind 20 = .ok (.iconst 0, 1) := by decide +kernel
theorem dX6_addUpBehind_21 : decode cX6_addUpBehind 21 = .ok (.goto 4, 3) := by decide +kernel
theorem dX6_addUpBehind_24 : decode cX6_addUpBehind 24 = .ok (.iconst (-1), 1) := by decide +kernel
theorem dX6_addUpBehind_25 : decode cX6_addUpBehind 25 = .ok (.istore_n 3, 1) := by decide +kernel
theorem dX6_addUpBehind_26 : decode cX6_addUpBehind 26 = .ok (.iconst 0, 1) := by decide +kernel
theorem dX6_addUpBehind_27 : decode cX6_addUpBehind 27 = .ok (.istore 4, 2) := by decide +kernel
theorem dX6_addUpBehind_29 : decode cX6_addUpBehind 29 = .ok (.iload 4, 2) := by decide +kernel
theorem dX6_addUpBehind_31 : decode cX6_addUpBehind 31 = .ok (.aload_n 0, 1) := by decide +kernel
theorem dX6_addUpBehind_32 : decode cX6_addUpBehind 32 = .ok (.getfield 35, 3) := by decide +kernel
theorem dX6_addUpBehind_35 : decode cX6_addUpBehind 35 = .ok (.if_icmp .ge 63, 3) := by decide +kernel
theorem dX6_addUpBehind_38 : decode cX6_addUpBehind 38 = .ok (.iload_n 1, 1) := by decide +kernel
theorem dX6_addUpBehind_39 : decode cX6_addUpBehind 39 = .ok (.aload_n 0, 1) := by decide +kernel
theorem dX6_addUpBehind_40 : decode cX6_addUpBehind 40 = .ok (.getfield 31, 3) := by decide +kernel
theorem dX6_addUpBehind_43 : decode cX6_addUpBehind 43 = .ok (.iconst 1, 1) := by decide +kernel
theorem dX6_addUpBehind_44 : decode cX6_addUpBehind 44 = .ok (.isub, 1) := by decide +kernel
theorem dX6_addUpBehind_45 : decode cX6_addUpBehind 45 = .ok (.if_icmp .ge 53, 3) := by decide +kernel
theorem dX6_addUpBehind_48 : decode cX6_addUpBehind 48 = .ok (.aload_n 0, 1) := by decide +kernel
theorem dX6_addUpBehind_49 : decode cX6_addUpBehind 49 = .ok (.iload_n 1, 1) := by decide +kernel
theorem dX6_addUpBehind_50 : decode cX6_addUpBehind 50 = .ok (.iconst 1, 1) := by decide +kernel
theorem dX6_addUpBehind_51 : decode cX6_addUpBehind 51 = .ok (.iadd, 1) := by decide +kernel
theorem dX6_addUpBehind_52 : decode cX6_addUpBehind 52 = .ok (.iload_n 2, 1) := by decide +kernel
theorem dX6_addUpBehind_53 : decode cX6_addUpBehind 53 = .ok (.iload 4, 2) := by decide +kernel
theorem dX6_addUpBehind_55 : decode cX6_addUpBehind 55 = .ok (.invokevirtual 73, 3) := by decide +kernel
theorem dX6_addUpBehind_58 : decode cX6_addUpBehind 58 = .ok (.aload_n 0, 1) := by decide +kernel
theorem dX6_addUpBehind_59 : decode cX6_addUpBehind 59 = .ok (.getfield 25, 3) := by decide +kernel
theorem dX6_addUpBehind_62 : decode cX6_addUpBehind 62 = .ok (.iload_n 1, 1) := by decide +kernel
theorem dX6_addUpBehind_63 : decode cX6_addUpBehind 63 = .ok (.iconst 1, 1) := by decide +kernel
theorem dX6_addUpBehind_64 : decode cX6_addUpBehind 64 = .ok (.iadd, 1) := by decide +kernel
theorem dX6_addUpBehind_65 : decode cX6_addUpBehind 65 = .ok (.bipush 8, 2) := by decide +kernel
theorem dX6_addUpBehind_67 : decode cX6_addUpBehind 67 = .ok (.imul, 1) := by decide +kernel
theorem dX6_addUpBehind_68 : decode cX6_addUpBehind 68 = .ok (.iload 4, 2) := by decide +kernel
theorem dX6_addUpBehind_70 : decode cX6_addUpBehind 70 = .ok (.iadd, 1) := by decide +kernel
theorem dX6_addUpBehind_71 : decode cX6_addUpBehind 71 = .ok (.iaload, 1) := by decide +kernel
theorem dX6_addUpBehind_72 : decode cX6_addUpBehind 72 = .ok (.iadd, 1) := by decide +kernel
theorem dX6_addUpBehind_73 : decode cX6_addUpBehind 73 = .ok (.istore 5, 2) := by decide +kernel
theorem dX6_addUpBehind_75 : decode cX6_addUpBehind 75 = .ok (.iload_n 3, 1) := by decide +kernel
theorem dX6_addUpBehind_76 : decode cX6_addUpBehind 76 = .ok (.iconst (-1), 1) := by decide +kernel
theorem dX6_addUpBehind_77 : decode cX6_addUpBehind 77 = .ok (.if_icmp .ne 8, 3) := by decide +kernel
theorem dX6_addUpBehind_80 : decode cX6_addUpBehind 80 = .ok (.iload 5, 2) := by decide +kernel
theorem dX6_addUpBehind_82 : decode cX6_addUpBehind 82 = .ok (.goto 9, 3) := by decide +kernel
theorem dX6_addUpBehind_85 : decode cX6_addUpBehind 85 = .ok (.iload_n 3, 1) := by decide +kernel
theorem dX6_addUpBehind_86 : decode cX6_addUpBehind 86 = .ok (.iload 5, 2) := by decide +kernel
theorem dX6_addUpBehind_88 : decode cX6_addUpBehind 88 = .ok (.invokestatic 38, 3) := by decide +kernel
theorem dX6_addUpBehind_91 : decode cX6_addUpBehind 91 = .ok (.istore_n 3, 1) := by decide +kernel
theorem dX6_addUpBehind_92 : decode cX6_addUpBehind 92 = .ok (.iinc 4 1, 3) := by decide +kernel
theorem dX6_addUpBehind_95 : decode cX6_addUpBehind 95 = .ok (.goto (-66), 3) := by decide +kernel
theorem dX6_addUpBehind_98 : decode cX6_addUpBehind 98 = .ok (.aload_n 0, 1) := by decide +kernel
theorem dX6_addUpBehind_99 : decode cX6_addUpBehind 99 = .ok (.getfield 25, 3) := by decide +kernel
theorem dX6_addUpBehind_102 : decode cX6_addUpBehind 102 = .ok (.iload_n 1, 1) := by decide +kernel
theorem dX6_addUpBehind_103 : decode cX6_addUpBehind 103 = .ok (.bipush 8, 2) := by decide +kernel
theorem dX6_addUpBehind_105 : decode cX6_addUpBehind 105 = .ok (.imul, 1) := by decide +kernel
theorem dX6_addUpBehind_106 : decode cX6_addUpBehind 106 = .ok (.iload_n 2, 1) := by decide +kernel
theorem dX6_addUpBehind_107 : decode cX6_addUpBehind 107 = .ok (.iadd, 1) := by decide +kernel
theorem dX6_addUpBehind_108 : decode cX6_addUpBehind 108 = .ok (.iload_n 3, 1) := by decide +kernel
theorem dX6_addUpBehind_109 : decode cX6_addUpBehind 109 = .ok (.iastore, 1) := by decide +kernel
theorem dX6_addUpBehind_110 : decode cX6_addUpBehind 110 = .ok (.iinc 2 1, 3) := by decide +kernel
theorem dX6_addUpBehind_113 : decode cX6_addUpBehind 113 = .ok (.goto (-111), 3) := by decide +kernel
theorem dX6_addUpBehind_116 : decode cX6_addUpBehind 116 = .ok (.return_, 1) := by decide +kernel
set_option maxRecDepth 20000 in
theorem ggX6_cheapestStyle_X6_missOf : GoodIn wsX6_cheapestStyle wsX6_missOf := goodIn_r _ [9, 10, 11, 12, 13, 14, 15, 16, 17, 18, 27, 28, 29, 30, 31, 32, 33, 34, 35, 36, 37, 38, 39, 40, 41] (by decide +kernel) (by decide +kernel)
set_option maxRecDepth 20000 in
theorem gX6_cheapestStyle_X6_missOf : GoodIn wsX6_cheapestStyle (wsV RX6 70 RX6 yX6_missOf wsX6_missOf) := goodIn_app (goodIn_of _ (by decide +kernel)) ggX6_cheapestStyle_X6_missOf
set_option maxRecDepth 20000 in
theorem ggX6_cheapestStyle_X6_step : GoodIn wsX6_cheapestStyle wsX6_step := goodIn_r _ [22, 11, 2, 5, 6, 7, 8, 9, 10, 12, 13, 14, 15, 16, 17, 18, 23, 24, 25, 26, 27, 28, 29, 30, 31, 32, 33, 34, 35, 36, 37, 38, 39, 40, 41] (by decide +kernel) (by decide +kernel)
set_option maxRecDepth 20000 in
theorem gX6_cheapestStyle_X6_step : GoodIn wsX6_cheapestStyle (wsV RX6 73 RX6 yX6_step wsX6_step) := goodIn_app (goodIn_of _ (by decide +kernel)) ggX6_cheapestStyle_X6_step
theorem dX6_cheapestStyle_0 : decode cX6_cheapestStyle 0 = .ok (.iconst 0, 1) := by decide +kernel
theorem dX6_cheapestStyle_1 : decode cX6_cheapestStyle 1 = .ok (.istore_n 2, 1) := by decide +kernel
theorem dX6_cheapestStyle_2 : decode cX6_cheapestStyle 2 = .ok (.iconst (-1), 1) := by decide +kernel
theorem dX6_cheapestStyle_3 : decode cX6_cheapestStyle 3 = .ok (.istore_n 3, 1) := by decide +kernel
theorem dX6_cheapestStyle_4 : decode cX6_cheapestStyle 4 = .ok (.iconst 0, 1) := by decide +kernel
theorem dX6_cheapestStyle_5 : decode cX6_cheapestStyle 5 = .ok (.istore 4, 2) := by decide +kernel
theorem dX6_cheapestStyle_7 : decode cX6_cheapestStyle 7 = .ok (.iload 4, 2) := by decide +kernel
theorem dX6_cheapestStyle_9 : decode cX6_cheapestStyle 9 = .ok (.aload_n 0, 1) := by decide +kernel
theorem dX6_cheapestStyle_10 : decode cX6_cheapestStyle 10 = .ok (.getfield 35, 3) := by decide +kernel
theorem dX6_cheapestStyle_13 : decode cX6_cheapestStyle 13 = .ok (.if_icmp .ge 82, 3) := by decide +kernel
theorem dX6_cheapestStyle_16 : decode cX6_cheapestStyle 16 = .ok (.iload_n 1, 1) := by decide +kernel
theorem dX6_cheapestStyle_17 : decode cX6_cheapestStyle 17 = .ok (.ifCond .ne 21, 3) := by decide +kernel
theorem dX6_cheapestStyle_20 : decode cX6_cheapestStyle 20 = .ok (.aload_n 0, 1) := by decide +kernel
theorem dX6_cheapestStyle_21 : decode cX6_cheapestStyle 21 = .ok (.getfield 15, 3) := by decide +kernel
theorem dX6_cheapestStyle_24 : decode cX6_cheapestStyle 24 = .ok (.iload 4, 2) := by decide +kernel
theorem dX6_cheapestStyle_26 : decode cX6_cheapestStyle 26 = .ok (.iaload, 1) := by decide +kernel
theorem dX6_cheapestStyle_27 : decode cX6_cheapestStyle 27 = .ok (.aload_n 0, 1) := by decide +kernel
theorem dX6_cheapestStyle_28 : decode cX6_cheapestStyle 28 = .ok (.iload_n 1, 1) := by decide +kernel
theorem dX6_cheapestStyle_29 : decode cX6_cheapestStyle 29 = .ok (.iload 4, 2) := by decide +kernel
theorem dX6_cheapestStyle_31 : decode cX6_cheapestStyle 31 = .ok (.invokevirtual 70, 3) := by decide +kernel
theorem dX6_cheapestStyle_34 : decode cX6_cheapestStyle 34 = .ok (.iadd, 1) := by decide +kernel
theorem dX6_cheapestStyle_35 : decode cX6_cheapestStyle 35 = .ok (.goto 18, 3) := by decide +kernel
theorem dX6_cheapestStyle_38 : decode cX6_cheapestStyle 38 = .ok (.aload_n 0, 1) := by decide +kernel
theorem dX6_cheapestStyle_39 : decode cX6_cheapestStyle 39 = .ok (.iload_n 1, 1) := by decide +kernel
theorem dX6_cheapestStyle_40 : decode cX6_cheapestStyle 40 = .ok (.aload_n 0, 1) := by decide +kernel
theorem dX6_cheapestStyle_41 : decode cX6_cheapestStyle 41 = .ok (.getfield 28, 3) := by decide +kernel
theorem dX6_cheapestStyle_44 : decode cX6_cheapestStyle 44 = .ok (.iload_n 1, 1) := by decide +kernel
theorem dX6_cheapestStyle_45 : decode cX6_cheapestStyle 45 = .ok (.iconst 1, 1) := by decide +kernel
theorem dX6_cheapestStyle_46 : decode cX6_cheapestStyle 46 = .ok (.isub, 1) := by decide +kernel
theorem dX6_cheapestStyle_47 : decode cX6_cheapestStyle 47 = .ok (.iaload, 1) := by decide +kernel
theorem dX6_cheapestStyle_48 : decode cX6_cheapestStyle 48 = .ok (.iload 4, 2) := by decide +kernel
theorem dX6_cheapestStyle_50 : decode cX6_cheapestStyle 50 = .ok (.invokevirtual 73, 3) := by decide +kernel
theorem dX6_cheapestStyle_53 : decode cX6_cheapestStyle 53 = .ok (.istore 5, 2) := by decide +kernel
theorem dX6_cheapestStyle_55 : decode cX6_cheapestStyle 55 = .ok (.iload 5, 2) := by decide +kernel
theorem dX6_cheapestStyle_57 : decode cX6_cheapestStyle 57 = .ok (.aload_n 0, 1) := by decide +kernel
theorem dX6_cheapestStyle_58 : decode cX6_cheapestStyle 58 = .ok (.getfield 25, 3) := by decide +kernel
theorem dX6_cheapestStyle_61 : decode cX6_cheapestStyle 61 = .ok (.iload_n 1, 1) := by decide +kernel
theorem dX6_cheapestStyle_62 : decode cX6_cheapestStyle 62 = .ok (.bipush 8, 2) := by decide +kernel
theorem dX6_cheapestStyle_64 : decode cX6_cheapestStyle 64 = .ok (.imul, 1) := by decide +kernel
theorem dX6_cheapestStyle_65 : decode cX6_cheapestStyle 65 = .ok (.iload 4, 2) := by decide +kernel
theorem dX6_cheapestStyle_67 : decode cX6_cheapestStyle 67 = .ok (.iadd, 1) := by decide +kernel
theorem dX6_cheapestStyle_68 : decode cX6_cheapestStyle 68 = .ok (.iaload, 1) := by decide +kernel
theorem dX6_cheapestStyle_69 : decode cX6_cheapestStyle 69 = .ok (.iadd, 1) := by decide +kernel
theorem dX6_cheapestStyle_70 : decode cX6_cheapestStyle 70 = .ok (.istore 6, 2) := by decide +kernel
theorem dX6_cheapestStyle_72 : decode cX6_cheapestStyle 72 = .ok (.iload_n 3, 1) := by decide +kernel
theorem dX6_cheapestStyle_73 : decode cX6_cheapestStyle 73 = .ok (.iconst (-1), 1) := by decide +kernel
theorem dX6_cheapestStyle_74 : decode cX6_cheapestStyle 74 = .ok (.if_icmp .eq 9, 3) := by decide +kernel
theorem dX6_cheapestStyle_77 : decode cX6_cheapestStyle 77 = .ok (.iload 6, 2) := by decide +kernel
theorem dX6_cheapestStyle_79 : decode cX6_cheapestStyle 79 = .ok (.iload_n 3, 1) := by decide +kernel
theorem dX6_cheapestStyle_80 : decode cX6_cheapestStyle 80 = .ok (.if_icmp .ge 9, 3) := by decide +kernel
theorem dX6_cheapestStyle_83 : decode cX6_cheapestStyle 83 = .ok (.iload 6, 2) := by decide +kernel
theorem dX6_cheapestStyle_85 : decode cX6_cheapestStyle 85 = .ok (.istore_n 3, 1) := by decide +kernel
theorem dX6_cheapestStyle_86 : decode cX6_cheapestStyle 86 = .ok (.iload 4, 2) := by decide +kernel
theorem dX6_cheapestStyle_88 : decode cX6_cheapestStyle 88 = .ok (.istore_n 2, 1) := by decide +kernel
theorem dX6_cheapestStyle_89 : decode cX6_cheapestStyle 89 = .ok (.iinc 4 1, 3) := by decide +kernel
theorem dX6_cheapestStyle_92 : decode cX6_cheapestStyle 92 = .ok (.goto (-85), 3) := by decide +kernel
theorem dX6_cheapestStyle_95 : decode cX6_cheapestStyle 95 = .ok (.iload_n 2, 1) := by decide +kernel
theorem dX6_cheapestStyle_96 : decode cX6_cheapestStyle 96 = .ok (.ireturn, 1) := by decide +kernel
set_option maxRecDepth 20000 in
theorem ggX6_step_X6_missOf : GoodIn wsX6_step wsX6_missOf := goodIn_r _ [7, 8, 1, 9, 10, 11, 12, 13, 14, 15, 20, 21, 22, 23, 24, 25, 26, 27, 28, 29, 30, 31, 32, 33, 34] (by decide +kernel) (by decide +kernel)
set_option maxRecDepth 20000 in
theorem gX6_step_X6_missOf : GoodIn wsX6_step (wsV RX6 70 RX6 yX6_missOf wsX6_missOf) := goodIn_app (goodIn_of _ (by decide +kernel)) ggX6_step_X6_missOf
set_option maxRecDepth 20000 in
theorem ggX6_step_X6_breaksOrder : GoodIn wsX6_step wsX6_breaksOrder := goodIn_r _ [19, 8, 9, 10, 11, 12, 13, 14, 15, 20, 21, 22, 23, 24, 25, 26, 27, 28, 29, 30, 31, 32, 33, 34] (by decide +kernel) (by decide +kernel)
set_option maxRecDepth 20000 in
theorem gX6_step_X6_breaksOrder : GoodIn wsX6_step (wsV RX6 77 RX6 yX6_breaksOrder wsX6_breaksOrder) := goodIn_app (goodIn_of _ (by decide +kernel)) ggX6_step_X6_breaksOrder
theorem dX6_step_0 : decode cX6_step 0 = .ok (.aload_n 0, 1) := by decide +kernel
theorem dX6_step_1 : decode cX6_step 1 = .ok (.iload_n 1, 1) := by decide +kernel
theorem dX6_step_2 : decode cX6_step 2 = .ok (.iload_n 3, 1) := by decide +kernel
theorem dX6_step_3 : decode cX6_step 3 = .ok (.invokevirtual 70, 3) := by decide +kernel
theorem dX6_step_6 : decode cX6_step 6 = .ok (.istore 4, 2) := by decide +kernel
theorem dX6_step_8 : decode cX6_step 8 = .ok (.iload_n 2, 1) := by decide +kernel
theorem dX6_step_9 : decode cX6_step 9 = .ok (.iload_n 3, 1) := by decide +kernel
theorem dX6_step_10 : decode cX6_step 10 = .ok (.if_icmp .eq 21, 3) := by decide +kernel
theorem dX6_step_13 : decode cX6_step 13 = .ok (.iload 4, 2) := by decide +kernel
theorem dX6_step_15 : decode cX6_step 15 = .ok (.aload_n 0, 1) := by decide +kernel
theorem dX6_step_16 : decode cX6_step 16 = .ok (.getfield 19, 3) := by decide +kernel
theorem dX6_step_19 : decode cX6_step 19 = .ok (.iconst 0, 1) := by decide +kernel
theorem dX6_step_20 : decode cX6_step 20 = .ok (.iaload, 1) := by decide +kernel
theorem dX6_step_21 : decode cX6_step 21 = .ok (.aload_n 0, 1) := by decide +kernel
theorem dX6_step_22 : decode cX6_step 22 = .ok (.getfield 15, 3) := by decide +kernel
theorem dX6_step_25 : decode cX6_step 25 = .ok (.iload_n 3, 1) := by decide +kernel
theorem dX6_step_26 : decode cX6_step 26 = .ok (.iaload, 1) := by decide +kernel
theorem dX6_step_27 : decode cX6_step 27 = .ok (.iadd, 1) := by decide +kernel
theorem dX6_step_28 : decode cX6_step 28 = .ok (.iadd, 1) := by decide +kernel
theorem dX6_step_29 : decode cX6_step 29 = .ok (.istore 4, 2) := by decide +kernel
theorem dX6_step_31 : decode cX6_step 31 = .ok (.aload_n 0, 1) := by decide +kernel
theorem dX6_step_32 : decode cX6_step 32 = .ok (.iload_n 1, 1) := by decide +kernel
theorem dX6_step_33 : decode cX6_step 33 = .ok (.iload_n 2, 1) := by decide +kernel
theorem dX6_step_34 : decode cX6_step 34 = .ok (.iload_n 3, 1) := by decide +kernel
theorem dX6_step_35 : decode cX6_step 35 = .ok (.invokevirtual 77, 3) := by decide +kernel
theorem dX6_step_38 : decode cX6_step 38 = .ok (.ifCond .eq 15, 3) := by decide +kernel
theorem dX6_step_41 : decode cX6_step 41 = .ok (.iload 4, 2) := by decide +kernel
theorem dX6_step_43 : decode cX6_step 43 = .ok (.aload_n 0, 1) := by decide +kernel
theorem dX6_step_44 : decode cX6_step 44 = .ok (.getfield 19, 3) := by decide +kernel
theorem dX6_step_47 : decode cX6_step 47 = .ok (.iconst 2, 1) := by decide +kernel
theorem dX6_step_48 : decode cX6_step 48 = .ok (.iaload, 1) := by decide +kernel
theorem dX6_step_49 : decode cX6_step 49 = .ok (.iadd, 1) := by decide +kernel
theorem dX6_step_50 : decode cX6_step 50 = .ok (.goto 5, 3) := by decide +kernel
theorem dX6_step_53 : decode cX6_step 53 = .ok (.iload 4, 2) := by decide +kernel
theorem dX6_step_55 : decode cX6_step 55 = .ok (.ireturn, 1) := by decide +kernel
set_option maxRecDepth 20000 in
theorem ggX6_missOf_X3_edge : GoodIn wsX6_missOf wsX3_edge := goodIn_r _ [7, 8, 9, 18, 19, 20, 21, 22, 23, 24] (by decide +kernel) (by decide +kernel)
set_option maxRecDepth 20000 in
theorem gX6_missOf_X3_edge : GoodIn wsX6_missOf (wsV RX6 80 RX3 yX3_edge wsX3_edge) := goodIn_app (goodIn_of _ (by decide +kernel)) ggX6_missOf_X3_edge
theorem dX6_missOf_0 : decode cX6_missOf 0 = .ok (.aload_n 0, 1) := by decide +kernel
theorem dX6_missOf_1 : decode cX6_missOf 1 = .ok (.getfield 9, 3) := by decide +kernel
theorem dX6_missOf_4 : decode cX6_missOf 4 = .ok (.iload_n 1, 1) := by decide +kernel
theorem dX6_missOf_5 : decode cX6_missOf 5 = .ok (.iload_n 2, 1) := by decide +kernel
theorem dX6_missOf_6 : decode cX6_missOf 6 = .ok (.iconst 0, 1) := by decide +kernel
theorem dX6_missOf_7 : decode cX6_missOf 7 = .ok (.invokevirtual 80, 3) := by decide +kernel
theorem dX6_missOf_10 : decode cX6_missOf 10 = .ok (.iconst (-1), 1) := by decide +kernel
theorem dX6_missOf_11 : decode cX6_missOf 11 = .ok (.if_icmp .ne 12, 3) := by decide +kernel
theorem dX6_missOf_14 : decode cX6_missOf 14 = .ok (.aload_n 0, 1) := by decide +kernel
theorem dX6_missOf_15 : decode cX6_missOf 15 = .ok (.getfield 19, 3) := by decide +kernel
theorem dX6_missOf_18 : decode cX6_missOf 18 = .ok (.iconst 1, 1) := by decide +kernel
theorem dX6_missOf_19 : decode cX6_missOf 19 = .ok (.iaload, 1) := by decide +kernel
theorem dX6_missOf_20 : decode cX6_missOf 20 = .ok (.goto 4, 3) := by decide +kernel
theorem dX6_missOf_23 : decode cX6_missOf 23 = .ok (.iconst 0, 1) := by decide +kernel
theorem dX6_missOf_24 : decode cX6_missOf 24 = .ok (.ireturn, 1) := by decide +kernel
set_option maxRecDepth 20000 in
theorem ggX6_breaksOrder_X3_edge : GoodIn wsX6_breaksOrder wsX3_edge := goodIn_r _ [6, 7, 8, 17, 18, 19, 20, 21, 22, 23] (by decide +kernel) (by decide +kernel)
set_option maxRecDepth 20000 in
theorem gX6_breaksOrder_X3_edge : GoodIn wsX6_breaksOrder (wsV RX6 80 RX3 yX3_edge wsX3_edge) := goodIn_app (goodIn_of _ (by decide +kernel)) ggX6_breaksOrder_X3_edge
theorem dX6_breaksOrder_0 : decode cX6_breaksOrder 0 = .ok (.aload_n 0, 1) := by decide +kernel
theorem dX6_breaksOrder_1 : decode cX6_breaksOrder 1 = .ok (.getfield 9, 3) := by decide +kernel
theorem dX6_breaksOrder_4 : decode cX6_breaksOrder 4 = .ok (.iload_n 1, 1) := by decide +kernel
theorem dX6_breaksOrder_5 : decode cX6_breaksOrder 5 = .ok (.iload_n 3, 1) := by decide +kernel
theorem dX6_breaksOrder_6 : decode cX6_breaksOrder 6 = .ok (.iconst 1, 1) := by decide +kernel
theorem dX6_breaksOrder_7 : decode cX6_breaksOrder 7 = .ok (.invokevirtual 80, 3) := by decide +kernel
theorem dX6_breaksOrder_10 : decode cX6_breaksOrder 10 = .ok (.istore 4, 2) := by decide +kernel
theorem dX6_breaksOrder_12 : decode cX6_breaksOrder 12 = .ok (.iload 4, 2) := by decide +kernel
theorem dX6_breaksOrder_14 : decode cX6_breaksOrder 14 = .ok (.iconst (-1), 1) := by decide +kernel
theorem dX6_breaksOrder_15 : decode cX6_breaksOrder 15 = .ok (.if_icmp .eq 24, 3) := by decide +kernel
theorem dX6_breaksOrder_18 : decode cX6_breaksOrder 18 = .ok (.aload_n 0, 1) := by decide +kernel
theorem dX6_breaksOrder_19 : decode cX6_breaksOrder 19 = .ok (.getfield 9, 3) := by decide +kernel
theorem dX6_breaksOrder_22 : decode cX6_breaksOrder 22 = .ok (.iload_n 1, 1) := by decide +kernel
theorem dX6_breaksOrder_23 : decode cX6_breaksOrder 23 = .ok (.iconst 1, 1) := by decide +kernel
theorem dX6_breaksOrder_24 : decode cX6_breaksOrder 24 = .ok (.isub, 1) := by decide +kernel
theorem dX6_breaksOrder_25 : decode cX6_breaksOrder 25 = .ok (.iload_n 2, 1) := by decide +kernel
theorem dX6_breaksOrder_26 : decode cX6_breaksOrder 26 = .ok (.iconst 0, 1) := by decide +kernel
theorem dX6_breaksOrder_27 : decode cX6_breaksOrder 27 = .ok (.invokevirtual 80, 3) := by decide +kernel
theorem dX6_breaksOrder_30 : decode cX6_breaksOrder 30 = .ok (.iload 4, 2) := by decide +kernel
theorem dX6_breaksOrder_32 : decode cX6_breaksOrder 32 = .ok (.if_icmp .le 7, 3) := by decide +kernel
theorem dX6_breaksOrder_35 : decode cX6_breaksOrder 35 = .ok (.iconst 1, 1) := by decide +kernel
theorem dX6_breaksOrder_36 : decode cX6_breaksOrder 36 = .ok (.goto 4, 3) := by decide +kernel
theorem dX6_breaksOrder_39 : decode cX6_breaksOrder 39 = .ok (.iconst 0, 1) := by decide +kernel
theorem dX6_breaksOrder_40 : decode cX6_breaksOrder 40 = .ok (.ireturn, 1) := by decide +kernel
set_option maxRecDepth 20000 in
theorem ggX8_init_X4_init : GoodIn wsX8_init wsX4_init := goodIn_r _ [29, 30, 2, 3, 31, 32, 33, 86, 87] (by decide +kernel) (by decide +kernel)
set_option maxRecDepth 20000 in
theorem gX8_init_X4_init : GoodIn wsX8_init (wsX4_init) := ggX8_init_X4_init
set_option maxRecDepth 20000 in
theorem ggX8_init_X5_init : GoodIn wsX8_init wsX5_init := goodIn_r _ [36, 37, 2, 3, 38, 39, 40, 41, 42, 43, 44, 31, 45, 46, 47, 96, 97, 98] (by decide +kernel) (by decide +kernel)
set_option maxRecDepth 20000 in
theorem gX8_init_X5_init : GoodIn wsX8_init (wsX5_init) := ggX8_init_X5_init
set_option maxRecDepth 20000 in
theorem ggX8_init_X3_init : GoodIn wsX8_init wsX3_init := goodIn_r _ [50, 51, 2, 3, 52, 53, 54, 55, 56, 57, 31, 58, 59, 60, 61, 62, 63, 64, 65, 66, 67, 99, 100, 101, 102, 103, 104, 105, 116, 117, 118, 119, 120, 121, 122, 123, 124] (by decide +kernel) (by decide +kernel)
set_option maxRecDepth 20000 in
theorem gX8_init_X3_init : GoodIn wsX8_init (wsX3_init) := ggX8_init_X3_init
set_option maxRecDepth 20000 in
theorem ggX8_init_X6_init : GoodIn wsX8_init wsX6_init := goodIn_r _ [70, 71, 2, 3, 72, 31, 73, 74, 75, 76, 77, 78, 79, 106, 107, 108, 109, 110, 111, 112, 113] (by decide +kernel) (by decide +kernel)
set_option maxRecDepth 20000 in
theorem gX8_init_X6_init : GoodIn wsX8_init (wsX6_init) := ggX8_init_X6_init
set_option maxRecDepth 20000 in
theorem ggX8_init_X1_init : GoodIn wsX8_init wsX1_init := goodIn_r _ [82, 83, 2, 3, 31, 84, 85, 114, 115] (by decide +kernel) (by decide +kernel)
set_option maxRecDepth 20000 in
theorem gX8_init_X1_init : GoodIn wsX8_init (wsX1_init) := ggX8_init_X1_init
theorem dX8_init_0 : decode cX8_init 0 = .ok (.aload_n 0, 1) := by decide +kernel
theorem dX8_init_1 : decode cX8_init 1 = .ok (.invokespecial 1, 3) := by decide +kernel
theorem dX8_init_4 : decode cX8_init 4 = .ok (.aload_n 0, 1) := by decide +kernel
theorem dX8_init_5 : decode cX8_init 5 = .ok (.new 7, 3) := by decide +kernel
theorem dX8_init_8 : decode cX8_init 8 = .ok (.dup, 1) := by decide +kernel
theorem dX8_init_9 : decode cX8_init 9 = .ok (.invokespecial 9, 3) := by decide +kernel
theorem dX8_init_12 : decode cX8_init 12 = .ok (.putfield 10, 3) := by decide +kernel
theorem dX8_init_15 : decode cX8_init 15 = .ok (.aload_n 0, 1) := by decide +kernel
theorem dX8_init_16 : decode cX8_init 16 = .ok (.new 16, 3) := by decide +kernel
theorem dX8_init_19 : decode cX8_init 19 = .ok (.dup, 1) := by decide +kernel
theorem dX8_init_20 : decode cX8_init 20 = .ok (.bipush 8, 2) := by decide +kernel
theorem dX8_init_22 : decode cX8_init 22 = .ok (.invokespecial 18, 3) := by decide +kernel
theorem dX8_init_25 : decode cX8_init 25 = .ok (.putfield 21, 3) := by decide +kernel
theorem dX8_init_28 : decode cX8_init 28 = .ok (.aload_n 0, 1) := by decide +kernel
theorem dX8_init_29 : decode cX8_init 29 = .ok (.new 16, 3) := by decide +kernel
theorem dX8_init_32 : decode cX8_init 32 = .ok (.dup, 1) := by decide +kernel
theorem dX8_init_33 : decode cX8_init 33 = .ok (.bipush 30, 2) := by decide +kernel
theorem dX8_init_35 : decode cX8_init 35 = .ok (.invokespecial 18, 3) := by decide +kernel
theorem dX8_init_38 : decode cX8_init 38 = .ok (.putfield 25, 3) := by decide +kernel
theorem dX8_init_41 : decode cX8_init 41 = .ok (.aload_n 0, 1) := by decide +kernel
theorem dX8_init_42 : decode cX8_init 42 = .ok (.new 28, 3) := by decide +kernel
theorem dX8_init_45 : decode cX8_init 45 = .ok (.dup, 1) := by decide +kernel
theorem dX8_init_46 : decode cX8_init 46 = .ok (.aload_n 0, 1) := by decide +kernel
theorem dX8_init_47 : decode cX8_init 47 = .ok (.getfield 21, 3) := by decide +kernel
theorem dX8_init_50 : decode cX8_init 50 = .ok (.aload_n 0, 1) := by decide +kernel
theorem dX8_init_51 : decode cX8_init 51 = .ok (.getfield 25, 3) := by decide +kernel
theorem dX8_init_54 : decode cX8_init 54 = .ok (.invokespecial 30, 3) := by decide +kernel
theorem dX8_init_57 : decode cX8_init 57 = .ok (.putfield 33, 3) := by decide +kernel
theorem dX8_init_60 : decode cX8_init 60 = .ok (.aload_n 0, 1) := by decide +kernel
theorem dX8_init_61 : decode cX8_init 61 = .ok (.new 37, 3) := by decide +kernel
theorem dX8_init_64 : decode cX8_init 64 = .ok (.dup, 1) := by decide +kernel
theorem dX8_init_65 : decode cX8_init 65 = .ok (.aload_n 0, 1) := by decide +kernel
theorem dX8_init_66 : decode cX8_init 66 = .ok (.getfield 33, 3) := by decide +kernel
theorem dX8_init_69 : decode cX8_init 69 = .ok (.invokespecial 39, 3) := by decide +kernel
theorem dX8_init_72 : decode cX8_init 72 = .ok (.putfield 42, 3) := by decide +kernel
theorem dX8_init_75 : decode cX8_init 75 = .ok (.aload_n 0, 1) := by decide +kernel
theorem dX8_init_76 : decode cX8_init 76 = .ok (.new 46, 3) := by decide +kernel
theorem dX8_init_79 : decode cX8_init 79 = .ok (.dup, 1) := by decide +kernel
theorem dX8_init_80 : decode cX8_init 80 = .ok (.invokespecial 48, 3) := by decide +kernel
theorem dX8_init_83 : decode cX8_init 83 = .ok (.putfield 49, 3) := by decide +kernel
theorem dX8_init_86 : decode cX8_init 86 = .ok (.aload_n 0, 1) := by decide +kernel
theorem dX8_init_87 : decode cX8_init 87 = .ok (.sipush 1950, 3) := by decide +kernel
theorem dX8_init_90 : decode cX8_init 90 = .ok (.putfield 53, 3) := by decide +kernel
theorem dX8_init_93 : decode cX8_init 93 = .ok (.aload_n 0, 1) := by decide +kernel
theorem dX8_init_94 : decode cX8_init 94 = .ok (.iconst 0, 1) := by decide +kernel
theorem dX8_init_95 : decode cX8_init 95 = .ok (.putfield 57, 3) := by decide +kernel
theorem dX8_init_98 : decode cX8_init 98 = .ok (.return_, 1) := by decide +kernel
set_option maxRecDepth 20000 in
theorem ggX8_feed_X4_bytesIn : GoodIn wsX8_feed wsX4_bytesIn := goodIn_r _ [5] (by decide +kernel) (by decide +kernel)
set_option maxRecDepth 20000 in
theorem gX8_feed_X4_bytesIn : GoodIn wsX8_feed (va_wsS RX8 61 yX4_bytesIn wsX4_bytesIn) := goodIn_app (goodIn_of _ (by decide +kernel)) ggX8_feed_X4_bytesIn
set_option maxRecDepth 20000 in
theorem ggX8_feed_X4_length : GoodIn wsX8_feed wsX4_length := goodIn_r _ [9, 10, 24, 25] (by decide +kernel) (by decide +kernel)
set_option maxRecDepth 20000 in
theorem gX8_feed_X4_length : GoodIn wsX8_feed (wsV RX8 65 RX4 yX4_length wsX4_length) := goodIn_app (goodIn_of _ (by decide +kernel)) ggX8_feed_X4_length
set_option maxRecDepth 20000 in
theorem ggX8_feed_X4_append : GoodIn wsX8_feed wsX4_append := goodIn_r _ [14, 10, 15, 24, 25] (by decide +kernel) (by decide +kernel)
set_option maxRecDepth 20000 in
theorem gX8_feed_X4_append : GoodIn wsX8_feed (wsV RX8 69 RX4 yX4_append wsX4_append) := goodIn_app (goodIn_of _ (by decide +kernel)) ggX8_feed_X4_append
theorem dX8_feed_0 : decode cX8_feed 0 = .ok (.iload_n 1, 1) := by decide +kernel
theorem dX8_feed_1 : decode cX8_feed 1 = .ok (.invokestatic 61, 3) := by decide +kernel
theorem dX8_feed_4 : decode cX8_feed 4 = .ok (.iload_n 2, 1) := by decide +kernel
theorem dX8_feed_5 : decode cX8_feed 5 = .ok (.invokestatic 61, 3) := by decide +kernel
theorem dX8_feed_8 : decode cX8_feed 8 = .ok (.iadd, 1) := by decide +kernel
theorem dX8_feed_9 : decode cX8_feed 9 = .ok (.istore_n 3, 1) := by decide +kernel
theorem dX8_feed_10 : decode cX8_feed 10 = .ok (.aload_n 0, 1) := by decide +kernel
theorem dX8_feed_11 : decode cX8_feed 11 = .ok (.getfield 10, 3) := by decide +kernel
theorem dX8_feed_14 : decode cX8_feed 14 = .ok (.invokevirtual 65, 3) := by decide +kernel
theorem dX8_feed_17 : decode cX8_feed 17 = .ok (.iload_n 3, 1) := by decide +kernel
theorem dX8_feed_18 : decode cX8_feed 18 = .ok (.iadd, 1) := by decide +kernel
theorem dX8_feed_19 : decode cX8_feed 19 = .ok (.bipush 24, 2) := by decide +kernel
theorem dX8_feed_21 : decode cX8_feed 21 = .ok (.if_icmp .le 5, 3) := by decide +kernel
theorem dX8_feed_24 : decode cX8_feed 24 = .ok (.iconst (-1), 1) := by decide +kernel
theorem dX8_feed_25 : decode cX8_feed 25 = .ok (.ireturn, 1) := by decide +kernel
theorem dX8_feed_26 : decode cX8_feed 26 = .ok (.aload_n 0, 1) := by decide +kernel
theorem dX8_feed_27 : decode cX8_feed 27 = .ok (.getfield 10, 3) := by decide +kernel
theorem dX8_feed_30 : decode cX8_feed 30 = .ok (.iload_n 1, 1) := by decide +kernel
theorem dX8_feed_31 : decode cX8_feed 31 = .ok (.invokevirtual 69, 3) := by decide +kernel
theorem dX8_feed_34 : decode cX8_feed 34 = .ok (.aload_n 0, 1) := by decide +kernel
theorem dX8_feed_35 : decode cX8_feed 35 = .ok (.getfield 10, 3) := by decide +kernel
theorem dX8_feed_38 : decode cX8_feed 38 = .ok (.iload_n 2, 1) := by decide +kernel
theorem dX8_feed_39 : decode cX8_feed 39 = .ok (.invokevirtual 69, 3) := by decide +kernel
theorem dX8_feed_42 : decode cX8_feed 42 = .ok (.aload_n 0, 1) := by decide +kernel
theorem dX8_feed_43 : decode cX8_feed 43 = .ok (.getfield 10, 3) := by decide +kernel
theorem dX8_feed_46 : decode cX8_feed 46 = .ok (.invokevirtual 65, 3) := by decide +kernel
theorem dX8_feed_49 : decode cX8_feed 49 = .ok (.ireturn, 1) := by decide +kernel
set_option maxRecDepth 20000 in
theorem ggX8_end_X4_cut : GoodIn wsX8_end wsX4_cut := goodIn_r _ [6, 7, 16, 17] (by decide +kernel) (by decide +kernel)
set_option maxRecDepth 20000 in
theorem gX8_end_X4_cut : GoodIn wsX8_end (wsV RX8 72 RX4 yX4_cut wsX4_cut) := goodIn_app (goodIn_of _ (by decide +kernel)) ggX8_end_X4_cut
theorem dX8_end_0 : decode cX8_end 0 = .ok (.aload_n 0, 1) := by decide +kernel
theorem dX8_end_1 : decode cX8_end 1 = .ok (.getfield 10, 3) := by decide +kernel
theorem dX8_end_4 : decode cX8_end 4 = .ok (.iload_n 1, 1) := by decide +kernel
theorem dX8_end_5 : decode cX8_end 5 = .ok (.invokevirtual 72, 3) := by decide +kernel
theorem dX8_end_8 : decode cX8_end 8 = .ok (.ireturn, 1) := by decide +kernel
set_option maxRecDepth 20000 in
theorem ggX8_style_X8_isPrice : GoodIn wsX8_style wsX8_isPrice := goodIn_r _ [8] (by decide +kernel) (by decide +kernel)
set_option maxRecDepth 20000 in
theorem gX8_style_X8_isPrice : GoodIn wsX8_style (va_wsS RX8 76 yX8_isPrice wsX8_isPrice) := goodIn_app (goodIn_of _ (by decide +kernel)) ggX8_style_X8_isPrice
set_option maxRecDepth 20000 in
theorem ggX8_style_X5_isFull : GoodIn wsX8_style wsX5_isFull := goodIn_r _ [13, 14, 15, 63, 64, 65] (by decide +kernel) (by decide +kernel)
set_option maxRecDepth 20000 in
theorem gX8_style_X5_isFull : GoodIn wsX8_style (wsV RX8 79 RX5 yX5_isFull wsX5_isFull) := goodIn_app (goodIn_of _ (by decide +kernel)) ggX8_style_X5_isFull
set_option maxRecDepth 20000 in
theorem ggX8_style_X4_isPattern : GoodIn wsX8_style wsX4_isPattern := goodIn_r _ [20, 21, 22, 23, 19, 24, 25, 26, 27, 28, 29, 30, 66, 67] (by decide +kernel) (by decide +kernel)
set_option maxRecDepth 20000 in
theorem gX8_style_X4_isPattern : GoodIn wsX8_style (wsV RX8 83 RX4 yX4_isPattern wsX4_isPattern) := goodIn_app (goodIn_of _ (by decide +kernel)) ggX8_style_X4_isPattern
set_option maxRecDepth 20000 in
theorem ggX8_style_X5_add : GoodIn wsX8_style wsX5_add := goodIn_r _ [34, 14, 35, 15, 36, 10, 11, 12, 13, 37, 38, 39, 19, 40, 25, 41, 42, 43, 44, 26, 45, 46, 47, 48, 63, 64, 65, 66, 67] (by decide +kernel) (by decide +kernel)
set_option maxRecDepth 20000 in
theorem gX8_style_X5_add : GoodIn wsX8_style (wsV RX8 86 RX5 yX5_add wsX5_add) := goodIn_app (goodIn_of _ (by decide +kernel)) ggX8_style_X5_add
set_option maxRecDepth 20000 in
theorem ggX8_style_X6_setCost : GoodIn wsX8_style wsX6_setCost := goodIn_r _ [53, 54, 68, 69, 70, 71, 72, 73, 74, 75] (by decide +kernel) (by decide +kernel)
set_option maxRecDepth 20000 in
theorem gX8_style_X6_setCost : GoodIn wsX8_style (wsV RX8 90 RX6 yX6_setCost wsX6_setCost) := goodIn_app (goodIn_of _ (by decide +kernel)) ggX8_style_X6_setCost
theorem dX8_style_0 : decode cX8_style 0 = .ok (.iload_n 1, 1) := by decide +kernel
theorem dX8_style_1 : decode cX8_style 1 = .ok (.invokestatic 76, 3) := by decide +kernel
theorem dX8_style_4 : decode cX8_style 4 = .ok (.ifCond .eq 23, 3) := by decide +kernel
theorem dX8_style_7 : decode cX8_style 7 = .ok (.aload_n 0, 1) := by decide +kernel
theorem dX8_style_8 : decode cX8_style 8 = .ok (.getfield 21, 3) := by decide +kernel
theorem dX8_style_11 : decode cX8_style 11 = .ok (.invokevirtual 79, 3) := by decide +kernel
theorem dX8_style_14 : decode cX8_style 14 = .ok (.ifCond .ne 13, 3) := by decide +kernel
theorem dX8_style_17 : decode cX8_style 17 = .ok (.aload_n 0, 1) := by decide +kernel
theorem dX8_style_18 : decode cX8_style 18 = .ok (.getfield 10, 3) := by decide +kernel
theorem dX8_style_21 : decode cX8_style 21 = .ok (.invokevirtual 83, 3) := by decide +kernel
theorem dX8_style_24 : decode cX8_style 24 = .ok (.ifCond .ne 5, 3) := by decide +kernel
theorem dX8_style_27 : decode cX8_style 27 = .ok (.iconst (-1), 1) := by decide +kernel
theorem dX8_style_28 : decode cX8_style 28 = .ok (.ireturn, 1) := by decide +kernel
theorem dX8_style_29 : decode cX8_style 29 = .ok (.aload_n 0, 1) := by decide +kernel
theorem dX8_style_30 : decode cX8_style 30 = .ok (.getfield 21, 3) := by decide +kernel
theorem dX8_style_33 : decode cX8_style 33 = .ok (.aload_n 0, 1) := by decide +kernel
theorem dX8_style_34 : decode cX8_style 34 = .ok (.getfield 10, 3) := by decide +kernel
theorem dX8_style_37 : decode cX8_style 37 = .ok (.invokevirtual 86, 3) := by decide +kernel
theorem dX8_style_40 : decode cX8_style 40 = .ok (.istore_n 2, 1) := by decide +kernel
theorem dX8_style_41 : decode cX8_style 41 = .ok (.aload_n 0, 1) := by decide +kernel
theorem dX8_style_42 : decode cX8_style 42 = .ok (.getfield 42, 3) := by decide +kernel
theorem dX8_style_45 : decode cX8_style 45 = .ok (.iload_n 2, 1) := by decide +kernel
theorem dX8_style_46 : decode cX8_style 46 = .ok (.iload_n 1, 1) := by decide +kernel
theorem dX8_style_47 : decode cX8_style 47 = .ok (.invokevirtual 90, 3) := by decide +kernel
theorem dX8_style_50 : decode cX8_style 50 = .ok (.aload_n 0, 1) := by decide +kernel
theorem dX8_style_51 : decode cX8_style 51 = .ok (.iconst 0, 1) := by decide +kernel
theorem dX8_style_52 : decode cX8_style 52 = .ok (.putfield 57, 3) := by decide +kernel
theorem dX8_style_55 : decode cX8_style 55 = .ok (.iload_n 2, 1) := by decide +kernel
theorem dX8_style_56 : decode cX8_style 56 = .ok (.ireturn, 1) := by decide +kernel
set_option maxRecDepth 20000 in
theorem ggX8_row_X5_isFull : GoodIn wsX8_row wsX5_isFull := goodIn_r _ [9, 10, 11, 51, 52, 53] (by decide +kernel) (by decide +kernel)
set_option maxRecDepth 20000 in
theorem gX8_row_X5_isFull : GoodIn wsX8_row (wsV RX8 79 RX5 yX5_isFull wsX5_isFull) := goodIn_app (goodIn_of _ (by decide +kernel)) ggX8_row_X5_isFull
set_option maxRecDepth 20000 in
theorem ggX8_row_X4_isText : GoodIn wsX8_row wsX4_isText := goodIn_r _ [16, 17, 18, 54, 55] (by decide +kernel) (by decide +kernel)
set_option maxRecDepth 20000 in
theorem gX8_row_X4_isText : GoodIn wsX8_row (wsV RX8 94 RX4 yX4_isText wsX4_isText) := goodIn_app (goodIn_of _ (by decide +kernel)) ggX8_row_X4_isText
set_option maxRecDepth 20000 in
theorem ggX8_row_X5_add : GoodIn wsX8_row wsX5_add := goodIn_r _ [22, 10, 23, 11, 24, 6, 7, 8, 9, 25, 26, 27, 15, 28, 17, 29, 30, 31, 32, 18, 33, 34, 35, 36, 51, 52, 53, 54, 55] (by decide +kernel) (by decide +kernel)
set_option maxRecDepth 20000 in
theorem gX8_row_X5_add : GoodIn wsX8_row (wsV RX8 86 RX5 yX5_add wsX5_add) := goodIn_app (goodIn_of _ (by decide +kernel)) ggX8_row_X5_add
set_option maxRecDepth 20000 in
theorem ggX8_row_X3_forget : GoodIn wsX8_row wsX3_forget := goodIn_r _ [41, 42, 56, 57, 58, 59, 60, 61, 62] (by decide +kernel) (by decide +kernel)
set_option maxRecDepth 20000 in
theorem gX8_row_X3_forget : GoodIn wsX8_row (wsV RX8 97 RX3 yX3_forget wsX3_forget) := goodIn_app (goodIn_of _ (by decide +kernel)) ggX8_row_X3_forget
theorem dX8_row_0 : decode cX8_row 0 = .ok (.aload_n 0, 1) := by decide +kernel
theorem dX8_row_1 : decode cX8_row 1 = .ok (.getfield 25, 3) := by decide +kernel
theorem dX8_row_4 : decode cX8_row 4 = .ok (.invokevirtual 79, 3) := by decide +kernel
theorem dX8_row_7 : decode cX8_row 7 = .ok (.ifCond .ne 13, 3) := by decide +kernel
theorem dX8_row_10 : decode cX8_row 10 = .ok (.aload_n 0, 1) := by decide +kernel
theorem dX8_row_11 : decode cX8_row 11 = .ok (.getfield 10, 3) := by decide +kernel
theorem dX8_row_14 : decode cX8_row 14 = .ok (.invokevirtual 94, 3) := by decide +kernel
theorem dX8_row_17 : decode cX8_row 17 = .ok (.ifCond .ne 5, 3) := by decide +kernel
theorem dX8_row_20 : decode cX8_row 20 = .ok (.iconst (-1), 1) := by decide +kernel
theorem dX8_row_21 : decode cX8_row 21 = .ok (.ireturn, 1) := by decide +kernel
theorem dX8_row_22 : decode cX8_row 22 = .ok (.aload_n 0, 1) := by decide +kernel
theorem dX8_row_23 : decode cX8_row 23 = .ok (.getfield 25, 3) := by decide +kernel
theorem dX8_row_26 : decode cX8_row 26 = .ok (.aload_n 0, 1) := by decide +kernel
theorem dX8_row_27 : decode cX8_row 27 = .ok (.getfield 10, 3) := by decide +kernel
theorem dX8_row_30 : decode cX8_row 30 = .ok (.invokevirtual 86, 3) := by decide +kernel
theorem dX8_row_33 : decode cX8_row 33 = .ok (.istore_n 1, 1) := by decide +kernel
theorem dX8_row_34 : decode cX8_row 34 = .ok (.aload_n 0, 1) := by decide +kernel
theorem dX8_row_35 : decode cX8_row 35 = .ok (.getfield 33, 3) := by decide +kernel
theorem dX8_row_38 : decode cX8_row 38 = .ok (.iload_n 1, 1) := by decide +kernel
theorem dX8_row_39 : decode cX8_row 39 = .ok (.invokevirtual 97, 3) := by decide +kernel
theorem dX8_row_42 : decode cX8_row 42 = .ok (.aload_n 0, 1) := by decide +kernel
theorem dX8_row_43 : decode cX8_row 43 = .ok (.iconst 0, 1) := by decide +kernel
theorem dX8_row_44 : decode cX8_row 44 = .ok (.putfield 57, 3) := by decide +kernel
theorem dX8_row_47 : decode cX8_row 47 = .ok (.iload_n 1, 1) := by decide +kernel
theorem dX8_row_48 : decode cX8_row 48 = .ok (.ireturn, 1) := by decide +kernel
set_option maxRecDepth 20000 in
theorem ggX8_clear_X5_removeAll : GoodIn wsX8_clear wsX5_removeAll := goodIn_r _ [7, 8, 17, 18, 19] (by decide +kernel) (by decide +kernel)
set_option maxRecDepth 20000 in
theorem gX8_clear_X5_removeAll : GoodIn wsX8_clear (wsV RX8 100 RX5 yX5_removeAll wsX5_removeAll) := goodIn_app (goodIn_of _ (by decide +kernel)) ggX8_clear_X5_removeAll
theorem dX8_clear_0 : decode cX8_clear 0 = .ok (.aload_n 0, 1) := by decide +kernel
theorem dX8_clear_1 : decode cX8_clear 1 = .ok (.getfield 25, 3) := by decide +kernel
theorem dX8_clear_4 : decode cX8_clear 4 = .ok (.invokevirtual 100, 3) := by decide +kernel
theorem dX8_clear_7 : decode cX8_clear 7 = .ok (.aload_n 0, 1) := by decide +kernel
theorem dX8_clear_8 : decode cX8_clear 8 = .ok (.iconst 0, 1) := by decide +kernel
theorem dX8_clear_9 : decode cX8_clear 9 = .ok (.putfield 57, 3) := by decide +kernel
theorem dX8_clear_12 : decode cX8_clear 12 = .ok (.return_, 1) := by decide +kernel
theorem dX8_window_0 : decode cX8_window 0 = .ok (.iload_n 1, 1) := by decide +kernel
theorem dX8_window_1 : decode cX8_window 1 = .ok (.sipush 1900, 3) := by decide +kernel
theorem dX8_window_4 : decode cX8_window 4 = .ok (.if_icmp .lt 10, 3) := by decide +kernel
theorem dX8_window_7 : decode cX8_window 7 = .ok (.iload_n 1, 1) := by decide +kernel
theorem dX8_window_8 : decode cX8_window 8 = .ok (.sipush 2100, 3) := by decide +kernel
theorem dX8_window_11 : decode cX8_window 11 = .ok (.if_icmp .le 5, 3) := by decide +kernel
theorem dX8_window_14 : decode cX8_window 14 = .ok (.iconst 0, 1) := by decide +kernel
theorem dX8_window_15 : decode cX8_window 15 = .ok (.ireturn, 1) := by decide +kernel
theorem dX8_window_16 : decode cX8_window 16 = .ok (.aload_n 0, 1) := by decide +kernel
theorem dX8_window_17 : decode cX8_window 17 = .ok (.iload_n 1, 1) := by decide +kernel
theorem dX8_window_18 : decode cX8_window 18 = .ok (.putfield 53, 3) := by decide +kernel
theorem dX8_window_21 : decode cX8_window 21 = .ok (.aload_n 0, 1) := by decide +kernel
theorem dX8_window_22 : decode cX8_window 22 = .ok (.iconst 0, 1) := by decide +kernel
theorem dX8_window_23 : decode cX8_window 23 = .ok (.putfield 57, 3) := by decide +kernel
theorem dX8_window_26 : decode cX8_window 26 = .ok (.iconst 1, 1) := by decide +kernel
theorem dX8_window_27 : decode cX8_window 27 = .ok (.ireturn, 1) := by decide +kernel
set_option maxRecDepth 20000 in
theorem ggX8_price_X8_isPrice : GoodIn wsX8_price wsX8_isPrice := goodIn_r _ [6] (by decide +kernel) (by decide +kernel)
set_option maxRecDepth 20000 in
theorem gX8_price_X8_isPrice : GoodIn wsX8_price (va_wsS RX8 76 yX8_isPrice wsX8_isPrice) := goodIn_app (goodIn_of _ (by decide +kernel)) ggX8_price_X8_isPrice
set_option maxRecDepth 20000 in
theorem ggX8_price_X6_setPrice : GoodIn wsX8_price wsX6_setPrice := goodIn_r _ [11, 12, 21, 22, 23, 24, 25, 26, 27, 28] (by decide +kernel) (by decide +kernel)
set_option maxRecDepth 20000 in
theorem gX8_price_X6_setPrice : GoodIn wsX8_price (wsV RX8 103 RX6 yX6_setPrice wsX6_setPrice) := goodIn_app (goodIn_of _ (by decide +kernel)) ggX8_price_X6_setPrice
theorem dX8_price_0 : decode cX8_price 0 = .ok (.iload_n 2, 1) := by decide +kernel
theorem dX8_price_1 : decode cX8_price 1 = .ok (.invokestatic 76, 3) := by decide +kernel
theorem dX8_price_4 : decode cX8_price 4 = .ok (.ifCond .eq 15, 3) := by decide +kernel
theorem dX8_price_7 : decode cX8_price 7 = .ok (.aload_n 0, 1) := by decide +kernel
theorem dX8_price_8 : decode cX8_price 8 = .ok (.getfield 42, 3) := by decide +kernel
theorem dX8_price_11 : decode cX8_price 11 = .ok (.iload_n 1, 1) := by decide +kernel
theorem dX8_price_12 : decode cX8_price 12 = .ok (.iload_n 2, 1) := by decide +kernel
theorem dX8_price_13 : decode cX8_price 13 = .ok (.invokevirtual 103, 3) := by decide +kernel
theorem dX8_price_16 : decode cX8_price 16 = .ok (.ifCond .ne 5, 3) := by decide +kernel
theorem dX8_price_19 : decode cX8_price 19 = .ok (.iconst 0, 1) := by decide +kernel
theorem dX8_price_20 : decode cX8_price 20 = .ok (.ireturn, 1) := by decide +kernel
theorem dX8_price_21 : decode cX8_price 21 = .ok (.aload_n 0, 1) := by decide +kernel
theorem dX8_price_22 : decode cX8_price 22 = .ok (.iconst 0, 1) := by decide +kernel
theorem dX8_price_23 : decode cX8_price 23 = .ok (.putfield 57, 3) := by decide +kernel
theorem dX8_price_26 : decode cX8_price 26 = .ok (.iconst 1, 1) := by decide +kernel
theorem dX8_price_27 : decode cX8_price 27 = .ok (.ireturn, 1) := by decide +kernel
set_option maxRecDepth 20000 in
theorem ggX8_read_X5_has : GoodIn wsX8_read wsX5_has := goodIn_r _ [9, 10, 139, 140, 141] (by decide +kernel) (by decide +kernel)
set_option maxRecDepth 20000 in
theorem gX8_read_X5_has : GoodIn wsX8_read (wsV RX8 107 RX5 yX5_has wsX5_has) := goodIn_app (goodIn_of _ (by decide +kernel)) ggX8_read_X5_has
set_option maxRecDepth 20000 in
theorem ggX8_read_X3_bring : GoodIn wsX8_read wsX3_bring := goodIn_r _ [15, 16, 17, 18, 19, 20, 21, 22, 23, 24, 25, 26, 27, 28, 29, 8, 30, 10, 31, 32, 33, 34, 35, 36, 37, 38, 39, 40, 41, 42, 43, 44, 6, 7, 9, 45, 46, 47, 48, 49, 50, 51, 52, 53, 54, 55, 56, 57, 58, 59, 60, 61, 62, 63, 64, 65, 66, 67, 68, 69, 70, 71, 72, 73, 74, 75, 76, 77, 78, 79, 80, 81, 82, 83, 84, 85, 86, 87, 88, 89, 90, 91, 92, 93, 94, 95, 96, 97, 98, 99, 100, 101, 102, 103, 104, 105, 106, 107, 108, 109, 110, 111, 112, 113, 114, 115, 116, 117, 118, 119, 120, 121, 122, 123, 124, 125, 126, 142, 143, 144, 145, 146, 147, 148, 139, 140, 141, 149, 150, 151, 152, 153, 154, 155, 156, 157] (by decide +kernel) (by decide +kernel)
set_option maxRecDepth 20000 in
theorem gX8_read_X3_bring : GoodIn wsX8_read (wsV RX8 110 RX3 yX3_bring wsX3_bring) := goodIn_app (goodIn_of _ (by decide +kernel)) ggX8_read_X3_bring
set_option maxRecDepth 20000 in
theorem ggX8_read_X3_edge : GoodIn wsX8_read wsX3_edge := goodIn_r _ [130, 25, 26, 142, 143, 144, 145, 146, 147, 148] (by decide +kernel) (by decide +kernel)
set_option maxRecDepth 20000 in
theorem gX8_read_X3_edge : GoodIn wsX8_read (wsV RX8 113 RX3 yX3_edge wsX3_edge) := goodIn_app (goodIn_of _ (by decide +kernel)) ggX8_read_X3_edge
theorem dX8_read_0 : decode cX8_read 0 = .ok (.aload_n 0, 1) := by decide +kernel
theorem dX8_read_1 : decode cX8_read 1 = .ok (.getfield 25, 3) := by decide +kernel
theorem dX8_read_4 : decode cX8_read 4 = .ok (.iload_n 1, 1) := by decide +kernel
theorem dX8_read_5 : decode cX8_read 5 = .ok (.invokevirtual 107, 3) := by decide +kernel
theorem dX8_read_8 : decode cX8_read 8 = .ok (.ifCond .eq 14, 3) := by decide +kernel
theorem dX8_read_11 : decode cX8_read 11 = .ok (.aload_n 0, 1) := by decide +kernel
theorem dX8_read_12 : decode cX8_read 12 = .ok (.getfield 21, 3) := by decide +kernel
theorem dX8_read_15 : decode cX8_read 15 = .ok (.iload_n 2, 1) := by decide +kernel
theorem dX8_read_16 : decode cX8_read 16 = .ok (.invokevirtual 107, 3) := by decide +kernel
theorem dX8_read_19 : decode cX8_read 19 = .ok (.ifCond .ne 5, 3) := by decide +kernel
theorem dX8_read_22 : decode cX8_read 22 = .ok (.iconst (-1), 1) := by decide +kernel
theorem dX8_read_23 : decode cX8_read 23 = .ok (.ireturn, 1) := by decide +kernel
theorem dX8_read_24 : decode cX8_read 24 = .ok (.aload_n 0, 1) := by decide +kernel
theorem dX8_read_25 : decode cX8_read 25 = .ok (.getfield 33, 3) := by decide +kernel
theorem dX8_read_28 : decode cX8_read 28 = .ok (.iload_n 1, 1) := by decide +kernel
theorem dX8_read_29 : decode cX8_read 29 = .ok (.aload_n 0, 1) := by decide +kernel
theorem dX8_read_30 : decode cX8_read 30 = .ok (.getfield 53, 3) := by decide +kernel
theorem dX8_read_33 : decode cX8_read 33 = .ok (.invokevirtual 110, 3) := by decide +kernel
theorem dX8_read_36 : decode cX8_read 36 = .ok (.aload_n 0, 1) := by decide +kernel
theorem dX8_read_37 : decode cX8_read 37 = .ok (.getfield 33, 3) := by decide +kernel
theorem dX8_read_40 : decode cX8_read 40 = .ok (.iload_n 1, 1) := by decide +kernel
theorem dX8_read_41 : decode cX8_read 41 = .ok (.iload_n 2, 1) := by decide +kernel
theorem dX8_read_42 : decode cX8_read 42 = .ok (.iload_n 3, 1) := by decide +kernel
theorem dX8_read_43 : decode cX8_read 43 = .ok (.invokevirtual 113, 3) := by decide +kernel
theorem dX8_read_46 : decode cX8_read 46 = .ok (.ireturn, 1) := by decide +kernel
set_option maxRecDepth 20000 in
theorem ggX8_readings_X5_has : GoodIn wsX8_readings wsX5_has := goodIn_r _ [8, 9, 154, 155, 156] (by decide +kernel) (by decide +kernel)
set_option maxRecDepth 20000 in
theorem gX8_readings_X5_has : GoodIn wsX8_readings (wsV RX8 107 RX5 yX5_has wsX5_has) := goodIn_app (goodIn_of _ (by decide +kernel)) ggX8_readings_X5_has
set_option maxRecDepth 20000 in
theorem ggX8_readings_X3_bring : GoodIn wsX8_readings wsX3_bring := goodIn_r _ [14, 15, 16, 17, 18, 19, 20, 21, 22, 23, 24, 25, 26, 27, 28, 7, 29, 9, 30, 31, 32, 33, 34, 35, 36, 37, 38, 39, 40, 41, 42, 43, 5, 6, 8, 44, 45, 46, 47, 48, 49, 50, 51, 52, 53, 54, 55, 56, 57, 58, 59, 60, 61, 62, 63, 64, 65, 66, 67, 68, 69, 70, 71, 72, 73, 74, 75, 76, 77, 78, 79, 80, 81, 82, 83, 84, 85, 86, 87, 88, 89, 90, 91, 92, 93, 94, 95, 96, 97, 98, 99, 100, 101, 102, 103, 104, 105, 106, 107, 108, 109, 110, 111, 112, 113, 114, 115, 116, 117, 118, 119, 120, 121, 122, 123, 124, 125, 157, 158, 159, 160, 161, 162, 163, 154, 155, 156, 164, 165, 166, 167, 168, 169, 170, 171, 172] (by decide +kernel) (by decide +kernel)
set_option maxRecDepth 20000 in
theorem gX8_readings_X3_bring : GoodIn wsX8_readings (wsV RX8 110 RX3 yX3_bring wsX3_bring) := goodIn_app (goodIn_of _ (by decide +kernel)) ggX8_readings_X3_bring
set_option maxRecDepth 20000 in
theorem ggX8_readings_X3_unlike : GoodIn wsX8_readings wsX3_unlike := goodIn_r _ [129, 15, 26, 27, 28, 7, 29, 9, 130, 131, 132, 13, 133, 134, 135, 136, 137, 24, 25, 138, 139, 140, 141, 142, 143, 144, 145, 157, 158, 159, 160, 161, 162, 163, 154, 155, 156] (by decide +kernel) (by decide +kernel)
set_option maxRecDepth 20000 in
theorem gX8_readings_X3_unlike : GoodIn wsX8_readings (wsV RX8 117 RX3 yX3_unlike wsX3_unlike) := goodIn_app (goodIn_of _ (by decide +kernel)) ggX8_readings_X3_unlike
theorem dX8_readings_0 : decode cX8_readings 0 = .ok (.aload_n 0, 1) := by decide +kernel
theorem dX8_readings_1 : decode cX8_readings 1 = .ok (.getfield 25, 3) := by decide +kernel
theorem dX8_readings_4 : decode cX8_readings 4 = .ok (.iload_n 1, 1) := by decide +kernel
theorem dX8_readings_5 : decode cX8_readings 5 = .ok (.invokevirtual 107, 3) := by decide +kernel
theorem dX8_readings_8 : decode cX8_readings 8 = .ok (.ifCond .ne 5, 3) := by decide +kernel
theorem dX8_readings_11 : decode cX8_readings 11 = .ok (.iconst (-1), 1) := by decide +kernel
theorem dX8_readings_12 : decode cX8_readings 12 = .ok (.ireturn, 1) := by decide +kernel
theorem dX8_readings_13 : decode cX8_readings 13 = .ok (.aload_n 0, 1) := by decide +kernel
theorem dX8_readings_14 : decode cX8_readings 14 = .ok (.getfield 33, 3) := by decide +kernel
theorem dX8_readings_17 : decode cX8_readings 17 = .ok (.iload_n 1, 1) := by decide +kernel
theorem dX8_readings_18 : decode cX8_readings 18 = .ok (.aload_n 0, 1) := by decide +kernel
theorem dX8_readings_19 : decode cX8_readings 19 = .ok (.getfield 53, 3) := by decide +kernel
theorem dX8_readings_22 : decode cX8_readings 22 = .ok (.invokevirtual 110, 3) := by decide +kernel
theorem dX8_readings_25 : decode cX8_readings 25 = .ok (.aload_n 0, 1) := by decide +kernel
theorem dX8_readings_26 : decode cX8_readings 26 = .ok (.getfield 33, 3) := by decide +kernel
theorem dX8_readings_29 : decode cX8_readings 29 = .ok (.iload_n 1, 1) := by decide +kernel
theorem dX8_readings_30 : decode cX8_readings 30 = .ok (.invokevirtual 117, 3) := by decide +kernel
theorem dX8_readings_33 : decode cX8_readings 33 = .ok (.ireturn, 1) := by decide +kernel
set_option maxRecDepth 20000 in
theorem ggX8_cost_X8_settle : GoodIn wsX8_cost wsX8_settle := goodIn_r _ [6, 7, 8, 9, 10, 11, 1, 12, 13, 14, 15, 16, 17, 18, 19, 20, 21, 22, 23, 24, 25, 26, 27, 28, 29, 30, 31, 32, 33, 34, 35, 36, 37, 38, 39, 40, 41, 42, 43, 44, 45, 46, 47, 48, 49, 50, 51, 52, 53, 54, 55, 56, 57, 58, 59, 60, 61, 62, 63, 64, 65, 66, 67, 68, 69, 70, 71, 72, 73, 74, 75, 76, 77, 78, 79, 80, 81, 82, 83, 84, 85, 86, 87, 88, 89, 90, 91, 92, 93, 94, 95, 96, 97, 98, 99, 100, 101, 102, 103, 104, 105, 106, 107, 108, 109, 110, 111, 112, 113, 114, 115, 116, 117, 118, 119, 120, 121, 122, 123, 124, 125, 126, 127, 128, 129, 130, 131, 132, 133, 134, 135, 136, 137, 138, 139, 140, 141, 142, 143, 144, 145, 146, 147, 148, 149, 150, 151, 152, 153, 154, 155, 156, 157, 158, 159, 160, 161, 162, 163, 164, 165, 166, 167, 168, 169, 170, 171, 172, 173, 174, 175, 176, 177, 178, 191, 192, 193, 194, 195, 196, 197, 198, 199, 200, 201, 202, 203, 204, 205, 206, 207, 208, 209, 210, 211, 212, 213, 214, 215, 216, 217, 218, 219, 220, 221, 222, 223, 224, 225] (by decide +kernel) (by decide +kernel)
set_option maxRecDepth 20000 in
theorem gX8_cost_X8_settle : GoodIn wsX8_cost (wsV RX8 120 RX8 yX8_settle wsX8_settle) := goodIn_app (goodIn_of _ (by decide +kernel)) ggX8_cost_X8_settle
set_option maxRecDepth 20000 in
theorem ggX8_cost_X6_leastCost : GoodIn wsX8_cost wsX6_leastCost := goodIn_r _ [182, 183, 184, 185, 137, 186, 143, 145, 187, 188, 189, 190, 144, 151, 174, 218, 219, 220, 221, 222, 223, 224, 225] (by decide +kernel) (by decide +kernel)
set_option maxRecDepth 20000 in
theorem gX8_cost_X6_leastCost : GoodIn wsX8_cost (wsV RX8 123 RX6 yX6_leastCost wsX6_leastCost) := goodIn_app (goodIn_of _ (by decide +kernel)) ggX8_cost_X6_leastCost
theorem dX8_cost_0 : decode cX8_cost 0 = .ok (.aload_n 0, 1) := by decide +kernel
theorem dX8_cost_1 : decode cX8_cost 1 = .ok (.invokevirtual 120, 3) := by decide +kernel
theorem dX8_cost_4 : decode cX8_cost 4 = .ok (.ifCond .eq 13, 3) := by decide +kernel
theorem dX8_cost_7 : decode cX8_cost 7 = .ok (.aload_n 0, 1) := by decide +kernel
theorem dX8_cost_8 : decode cX8_cost 8 = .ok (.getfield 42, 3) := by decide +kernel
theorem dX8_cost_11 : decode cX8_cost 11 = .ok (.invokevirtual 123, 3) := by decide +kernel
theorem dX8_cost_14 : decode cX8_cost 14 = .ok (.goto 4, 3) := by decide +kernel
theorem dX8_cost_17 : decode cX8_cost 17 = .ok (.iconst (-1), 1) := by decide +kernel
theorem dX8_cost_18 : decode cX8_cost 18 = .ok (.ireturn, 1) := by decide +kernel
set_option maxRecDepth 20000 in
theorem ggX8_told_X8_settle : GoodIn wsX8_told wsX8_settle := goodIn_r _ [7, 8, 1, 9, 10, 11, 2, 12, 13, 14, 15, 16, 17, 18, 19, 20, 21, 22, 23, 24, 25, 26, 27, 28, 29, 30, 31, 32, 33, 34, 35, 36, 37, 38, 39, 40, 41, 42, 43, 44, 45, 46, 47, 48, 49, 50, 51, 52, 53, 54, 55, 56, 57, 58, 59, 60, 61, 62, 63, 64, 65, 66, 67, 68, 69, 70, 71, 72, 73, 74, 75, 76, 77, 78, 79, 80, 81, 82, 83, 84, 85, 86, 87, 88, 89, 90, 91, 92, 93, 94, 95, 96, 97, 98, 99, 100, 101, 102, 103, 104, 105, 106, 107, 108, 109, 110, 111, 112, 113, 114, 115, 116, 117, 118, 119, 120, 121, 122, 123, 124, 125, 126, 127, 128, 129, 130, 131, 132, 133, 134, 135, 136, 137, 138, 139, 140, 141, 142, 143, 144, 145, 146, 147, 148, 149, 150, 151, 152, 153, 154, 155, 156, 157, 158, 159, 160, 161, 162, 163, 164, 165, 166, 167, 168, 169, 170, 171, 172, 173, 174, 175, 176, 177, 178, 184, 185, 186, 187, 188, 189, 190, 191, 192, 193, 194, 195, 196, 197, 198, 199, 200, 201, 202, 203, 204, 205, 206, 207, 208, 209, 210, 211, 212, 213, 214, 215, 216, 217, 218] (by decide +kernel) (by decide +kernel)
set_option maxRecDepth 20000 in
theorem gX8_told_X8_settle : GoodIn wsX8_told (wsV RX8 120 RX8 yX8_settle wsX8_settle) := goodIn_app (goodIn_of _ (by decide +kernel)) ggX8_told_X8_settle
set_option maxRecDepth 20000 in
theorem ggX8_told_X5_has : GoodIn wsX8_told wsX5_has := goodIn_r _ [51, 17, 192, 193, 194] (by decide +kernel) (by decide +kernel)
set_option maxRecDepth 20000 in
theorem gX8_told_X5_has : GoodIn wsX8_told (wsV RX8 107 RX5 yX5_has wsX5_has) := goodIn_app (goodIn_of _ (by decide +kernel)) ggX8_told_X5_has
set_option maxRecDepth 20000 in
theorem ggX8_told_X6_styleOf : GoodIn wsX8_told wsX6_styleOf := goodIn_r _ [183, 143, 145, 211, 212, 213, 214, 215, 216, 217, 218] (by decide +kernel) (by decide +kernel)
set_option maxRecDepth 20000 in
theorem gX8_told_X6_styleOf : GoodIn wsX8_told (wsV RX8 126 RX6 yX6_styleOf wsX6_styleOf) := goodIn_app (goodIn_of _ (by decide +kernel)) ggX8_told_X6_styleOf
theorem dX8_told_0 : decode cX8_told 0 = .ok (.aload_n 0, 1) := by decide +kernel
theorem dX8_told_1 : decode cX8_told 1 = .ok (.invokevirtual 120, 3) := by decide +kernel
theorem dX8_told_4 : decode cX8_told 4 = .ok (.ifCond .eq 25, 3) := by decide +kernel
theorem dX8_told_7 : decode cX8_told 7 = .ok (.aload_n 0, 1) := by decide +kernel
theorem dX8_told_8 : decode cX8_told 8 = .ok (.getfield 25, 3) := by decide +kernel
theorem dX8_told_11 : decode cX8_told 11 = .ok (.iload_n 1, 1) := by decide +kernel
theorem dX8_told_12 : decode cX8_told 12 = .ok (.invokevirtual 107, 3) := by decide +kernel
theorem dX8_told_15 : decode cX8_told 15 = .ok (.ifCond .eq 14, 3) := by decide +kernel
theorem dX8_told_18 : decode cX8_told 18 = .ok (.aload_n 0, 1) := by decide +kernel
theorem dX8_told_19 : decode cX8_told 19 = .ok (.getfield 42, 3) := by decide +kernel
theorem dX8_told_22 : decode cX8_told 22 = .ok (.iload_n 1, 1) := by decide +kernel
theorem dX8_told_23 : decode cX8_told 23 = .ok (.invokevirtual 126, 3) := by decide +kernel
theorem dX8_told_26 : decode cX8_told 26 = .ok (.goto 4, 3) := by decide +kernel
theorem dX8_told_29 : decode cX8_told 29 = .ok (.iconst (-1), 1) := by decide +kernel
theorem dX8_told_30 : decode cX8_told 30 = .ok (.ireturn, 1) := by decide +kernel
set_option maxRecDepth 20000 in
theorem ggX8_day_X8_settle : GoodIn wsX8_day wsX8_settle := goodIn_r _ [8, 9, 1, 10, 2, 11, 3, 12, 13, 14, 15, 16, 17, 18, 19, 20, 21, 22, 23, 24, 25, 26, 27, 28, 29, 30, 31, 32, 33, 34, 35, 36, 37, 38, 39, 40, 41, 42, 43, 44, 45, 46, 47, 48, 49, 50, 51, 52, 53, 54, 55, 56, 57, 58, 59, 60, 61, 62, 63, 64, 65, 66, 67, 68, 69, 70, 71, 72, 73, 74, 75, 76, 77, 78, 79, 80, 81, 82, 83, 84, 85, 86, 87, 88, 89, 90, 91, 92, 93, 94, 95, 96, 97, 98, 99, 100, 101, 102, 103, 104, 105, 106, 107, 108, 109, 110, 111, 112, 113, 114, 115, 116, 117, 118, 119, 120, 121, 122, 123, 124, 125, 126, 127, 128, 129, 130, 131, 132, 133, 134, 135, 136, 137, 138, 139, 140, 141, 142, 143, 144, 145, 146, 147, 148, 149, 150, 151, 152, 153, 154, 155, 156, 157, 158, 159, 160, 161, 162, 163, 164, 165, 166, 167, 168, 169, 170, 171, 172, 173, 174, 175, 176, 177, 178, 185, 186, 187, 188, 189, 190, 191, 192, 193, 194, 195, 196, 197, 198, 199, 200, 201, 202, 203, 204, 205, 206, 207, 208, 209, 210, 211, 212, 213, 214, 215, 216, 217, 218, 219] (by decide +kernel) (by decide +kernel)
set_option maxRecDepth 20000 in
theorem gX8_day_X8_settle : GoodIn wsX8_day (wsV RX8 120 RX8 yX8_settle wsX8_settle) := goodIn_app (goodIn_of _ (by decide +kernel)) ggX8_day_X8_settle
set_option maxRecDepth 20000 in
theorem ggX8_day_X5_has : GoodIn wsX8_day wsX5_has := goodIn_r _ [51, 17, 193, 194, 195] (by decide +kernel) (by decide +kernel)
set_option maxRecDepth 20000 in
theorem gX8_day_X5_has : GoodIn wsX8_day (wsV RX8 107 RX5 yX5_has wsX5_has) := goodIn_app (goodIn_of _ (by decide +kernel)) ggX8_day_X5_has
set_option maxRecDepth 20000 in
theorem ggX8_day_X6_styleOf : GoodIn wsX8_day wsX6_styleOf := goodIn_r _ [183, 143, 145, 212, 213, 214, 215, 216, 217, 218, 219] (by decide +kernel) (by decide +kernel)
set_option maxRecDepth 20000 in
theorem gX8_day_X6_styleOf : GoodIn wsX8_day (wsV RX8 126 RX6 yX6_styleOf wsX6_styleOf) := goodIn_app (goodIn_of _ (by decide +kernel)) ggX8_day_X6_styleOf
set_option maxRecDepth 20000 in
theorem ggX8_day_X3_edge : GoodIn wsX8_day wsX3_edge := goodIn_r _ [161, 32, 33, 196, 197, 198, 199, 200, 201, 202] (by decide +kernel) (by decide +kernel)
set_option maxRecDepth 20000 in
theorem gX8_day_X3_edge : GoodIn wsX8_day (wsV RX8 113 RX3 yX3_edge wsX3_edge) := goodIn_app (goodIn_of _ (by decide +kernel)) ggX8_day_X3_edge
theorem dX8_day_0 : decode cX8_day 0 = .ok (.aload_n 0, 1) := by decide +kernel
theorem dX8_day_1 : decode cX8_day 1 = .ok (.invokevirtual 120, 3) := by decide +kernel
theorem dX8_day_4 : decode cX8_day 4 = .ok (.ifCond .eq 34, 3) := by decide +kernel
theorem dX8_day_7 : decode cX8_day 7 = .ok (.aload_n 0, 1) := by decide +kernel
theorem dX8_day_8 : decode cX8_day 8 = .ok (.getfield 25, 3) := by decide +kernel
theorem dX8_day_11 : decode cX8_day 11 = .ok (.iload_n 1, 1) := by decide +kernel
theorem dX8_day_12 : decode cX8_day 12 = .ok (.invokevirtual 107, 3) := by decide +kernel
theorem dX8_day_15 : decode cX8_day 15 = .ok (.ifCond .eq 23, 3) := by decide +kernel
theorem dX8_day_18 : decode cX8_day 18 = .ok (.aload_n 0, 1) := by decide +kernel
theorem dX8_day_19 : decode cX8_day 19 = .ok (.getfield 33, 3) := by decide +kernel
theorem dX8_day_22 : decode cX8_day 22 = .ok (.iload_n 1, 1) := by decide +kernel
theorem dX8_day_23 : decode cX8_day 23 = .ok (.aload_n 0, 1) := by decide +kernel
theorem dX8_day_24 : decode cX8_day 24 = .ok (.getfield 42, 3) := by decide +kernel
theorem dX8_day_27 : decode cX8_day 27 = .ok (.iload_n 1, 1) := by decide +kernel
theorem dX8_day_28 : decode cX8_day 28 = .ok (.invokevirtual 126, 3) := by decide +kernel
theorem dX8_day_31 : decode cX8_day 31 = .ok (.iload_n 2, 1) := by decide +kernel
theorem dX8_day_32 : decode cX8_day 32 = .ok (.invokevirtual 113, 3) := by decide +kernel
theorem dX8_day_35 : decode cX8_day 35 = .ok (.goto 4, 3) := by decide +kernel
theorem dX8_day_38 : decode cX8_day 38 = .ok (.iconst (-1), 1) := by decide +kernel
theorem dX8_day_39 : decode cX8_day 39 = .ok (.ireturn, 1) := by decide +kernel
set_option maxRecDepth 20000 in
theorem ggX8_kind_X8_settle : GoodIn wsX8_kind wsX8_settle := goodIn_r _ [6, 7, 1, 8, 9, 10, 11, 12, 13, 14, 15, 16, 17, 18, 19, 20, 21, 22, 23, 24, 25, 26, 27, 28, 29, 30, 31, 32, 33, 34, 35, 36, 37, 38, 39, 40, 41, 42, 43, 44, 45, 46, 47, 48, 49, 50, 51, 52, 53, 54, 55, 56, 57, 58, 59, 60, 61, 62, 63, 64, 65, 66, 67, 68, 69, 70, 71, 72, 73, 74, 75, 76, 77, 78, 79, 80, 81, 82, 83, 84, 85, 86, 87, 88, 89, 90, 91, 92, 93, 94, 95, 96, 97, 98, 99, 100, 101, 102, 103, 104, 105, 106, 107, 108, 109, 110, 111, 112, 113, 114, 115, 116, 117, 118, 119, 120, 121, 122, 123, 124, 125, 126, 127, 128, 129, 130, 131, 132, 133, 134, 135, 136, 137, 138, 139, 140, 141, 142, 143, 144, 145, 146, 147, 148, 149, 150, 151, 152, 153, 154, 155, 156, 157, 158, 159, 160, 161, 162, 163, 164, 165, 166, 167, 168, 169, 170, 171, 172, 173, 174, 175, 176, 177, 178, 224, 225, 226, 227, 228, 229, 230, 231, 232, 233, 234, 235, 236, 237, 238, 239, 240, 241, 242, 243, 244, 245, 246, 247, 248, 249, 250, 251, 252, 253, 254, 255, 256, 257, 258] (by decide +kernel) (by decide +kernel)
set_option maxRecDepth 20000 in
theorem gX8_kind_X8_settle : GoodIn wsX8_kind (wsV RX8 120 RX8 yX8_settle wsX8_settle) := goodIn_app (goodIn_of _ (by decide +kernel)) ggX8_kind_X8_settle
set_option maxRecDepth 20000 in
theorem ggX8_kind_X5_has : GoodIn wsX8_kind wsX5_has := goodIn_r _ [51, 17, 232, 233, 234] (by decide +kernel) (by decide +kernel)
set_option maxRecDepth 20000 in
theorem gX8_kind_X5_has : GoodIn wsX8_kind (wsV RX8 107 RX5 yX5_has wsX5_has) := goodIn_app (goodIn_of _ (by decide +kernel)) ggX8_kind_X5_has
set_option maxRecDepth 20000 in
theorem ggX8_kind_X8_kindOf : GoodIn wsX8_kind wsX8_kindOf := goodIn_r _ [183, 9, 11, 184, 185, 186, 5, 187, 188, 189, 190, 137, 191, 143, 145, 192, 193, 194, 21, 195, 196, 159, 160, 161, 32, 33, 197, 198, 199, 200, 23, 34, 13, 14, 15, 16, 17, 201, 202, 203, 204, 205, 206, 207, 208, 209, 210, 211, 212, 213, 144, 156, 139, 25, 26, 27, 214, 215, 216, 217, 218, 219, 151, 174, 220, 221, 222, 223, 224, 225, 226, 227, 228, 229, 230, 231, 251, 252, 253, 254, 255, 256, 257, 258, 235, 236, 237, 238, 239, 240, 241, 232, 233, 234] (by decide +kernel) (by decide +kernel)
set_option maxRecDepth 20000 in
theorem gX8_kind_X8_kindOf : GoodIn wsX8_kind (wsV RX8 129 RX8 yX8_kindOf wsX8_kindOf) := goodIn_app (goodIn_of _ (by decide +kernel)) ggX8_kind_X8_kindOf
theorem dX8_kind_0 : decode cX8_kind 0 = .ok (.aload_n 0, 1) := by decide +kernel
theorem dX8_kind_1 : decode cX8_kind 1 = .ok (.invokevirtual 120, 3) := by decide +kernel
theorem dX8_kind_4 : decode cX8_kind 4 = .ok (.ifCond .eq 22, 3) := by decide +kernel
theorem dX8_kind_7 : decode cX8_kind 7 = .ok (.aload_n 0, 1) := by decide +kernel
theorem dX8_kind_8 : decode cX8_kind 8 = .ok (.getfield 25, 3) := by decide +kernel
theorem dX8_kind_11 : decode cX8_kind 11 = .ok (.iload_n 1, 1) := by decide +kernel
theorem dX8_kind_12 : decode cX8_kind 12 = .ok (.invokevirtual 107, 3) := by decide +kernel
theorem dX8_kind_15 : decode cX8_kind 15 = .ok (.ifCond .eq 11, 3) := by decide +kernel
theorem dX8_kind_18 : decode cX8_kind 18 = .ok (.aload_n 0, 1) := by decide +kernel
theorem dX8_kind_19 : decode cX8_kind 19 = .ok (.iload_n 1, 1) := by decide +kernel
theorem dX8_kind_20 : decode cX8_kind 20 = .ok (.invokevirtual 129, 3) := by decide +kernel
theorem dX8_kind_23 : decode cX8_kind 23 = .ok (.goto 4, 3) := by decide +kernel
theorem dX8_kind_26 : decode cX8_kind 26 = .ok (.iconst (-1), 1) := by decide +kernel
theorem dX8_kind_27 : decode cX8_kind 27 = .ok (.ireturn, 1) := by decide +kernel
set_option maxRecDepth 20000 in
theorem ggX8_second_X8_settle : GoodIn wsX8_second wsX8_settle := goodIn_r _ [7, 8, 1, 9, 10, 11, 2, 12, 13, 14, 15, 16, 17, 18, 19, 20, 21, 22, 23, 24, 25, 26, 27, 28, 29, 30, 31, 32, 33, 34, 35, 36, 37, 38, 39, 40, 41, 42, 43, 44, 45, 46, 47, 48, 49, 50, 51, 52, 53, 54, 55, 56, 57, 58, 59, 60, 61, 62, 63, 64, 65, 66, 67, 68, 69, 70, 71, 72, 73, 74, 75, 76, 77, 78, 79, 80, 81, 82, 83, 84, 85, 86, 87, 88, 89, 90, 91, 92, 93, 94, 95, 96, 97, 98, 99, 100, 101, 102, 103, 104, 105, 106, 107, 108, 109, 110, 111, 112, 113, 114, 115, 116, 117, 118, 119, 120, 121, 122, 123, 124, 125, 126, 127, 128, 129, 130, 131, 132, 133, 134, 135, 136, 137, 138, 139, 140, 141, 142, 143, 144, 145, 146, 147, 148, 149, 150, 151, 152, 153, 154, 155, 156, 157, 158, 159, 160, 161, 162, 163, 164, 165, 166, 167, 168, 169, 170, 171, 172, 173, 174, 175, 176, 177, 178, 206, 207, 208, 209, 210, 211, 212, 213, 214, 215, 216, 217, 218, 219, 220, 221, 222, 223, 224, 225, 226, 227, 228, 229, 230, 231, 232, 233, 234, 235, 236, 237, 238, 239, 240] (by decide +kernel) (by decide +kernel)
set_option maxRecDepth 20000 in
theorem gX8_second_X8_settle : GoodIn wsX8_second (wsV RX8 120 RX8 yX8_settle wsX8_settle) := goodIn_app (goodIn_of _ (by decide +kernel)) ggX8_second_X8_settle
set_option maxRecDepth 20000 in
theorem ggX8_second_X5_has : GoodIn wsX8_second wsX5_has := goodIn_r _ [51, 17, 214, 215, 216] (by decide +kernel) (by decide +kernel)
set_option maxRecDepth 20000 in
theorem gX8_second_X5_has : GoodIn wsX8_second (wsV RX8 107 RX5 yX5_has wsX5_has) := goodIn_app (goodIn_of _ (by decide +kernel)) ggX8_second_X5_has
set_option maxRecDepth 20000 in
theorem ggX8_second_X8_isReadByBest : GoodIn wsX8_second wsX8_isReadByBest := goodIn_r _ [183, 10, 2, 184, 185, 186, 137, 187, 143, 145, 188, 189, 190, 21, 191, 192, 159, 160, 161, 32, 33, 206, 207, 208, 209, 210, 211, 212, 213, 233, 234, 235, 236, 237, 238, 239, 240, 217, 218, 219, 220, 221, 222, 223] (by decide +kernel) (by decide +kernel)
set_option maxRecDepth 20000 in
theorem gX8_second_X8_isReadByBest : GoodIn wsX8_second (wsV RX8 132 RX8 yX8_isReadByBest wsX8_isReadByBest) := goodIn_app (goodIn_of _ (by decide +kernel)) ggX8_second_X8_isReadByBest
set_option maxRecDepth 20000 in
theorem ggX8_second_X6_leastOtherwise : GoodIn wsX8_second wsX6_leastOtherwise := goodIn_r _ [196, 144, 156, 139, 25, 26, 27, 197, 185, 186, 137, 187, 143, 145, 198, 199, 200, 21, 201, 192, 159, 160, 161, 32, 33, 202, 203, 204, 205, 151, 174, 233, 234, 235, 236, 237, 238, 239, 240, 217, 218, 219, 220, 221, 222, 223] (by decide +kernel) (by decide +kernel)
set_option maxRecDepth 20000 in
theorem gX8_second_X6_leastOtherwise : GoodIn wsX8_second (wsV RX8 135 RX6 yX6_leastOtherwise wsX6_leastOtherwise) := goodIn_app (goodIn_of _ (by decide +kernel)) ggX8_second_X6_leastOtherwise
theorem dX8_second_0 : decode cX8_second 0 = .ok (.aload_n 0, 1) := by decide +kernel
theorem dX8_second_1 : decode cX8_second 1 = .ok (.invokevirtual 120, 3) := by decide +kernel
theorem dX8_second_4 : decode cX8_second 4 = .ok (.ifCond .eq 33, 3) := by decide +kernel
theorem dX8_second_7 : decode cX8_second 7 = .ok (.aload_n 0, 1) := by decide +kernel
theorem dX8_second_8 : decode cX8_second 8 = .ok (.getfield 25, 3) := by decide +kernel
theorem dX8_second_11 : decode cX8_second 11 = .ok (.iload_n 1, 1) := by decide +kernel
theorem dX8_second_12 : decode cX8_second 12 = .ok (.invokevirtual 107, 3) := by decide +kernel
theorem dX8_second_15 : decode cX8_second 15 = .ok (.ifCond .eq 22, 3) := by decide +kernel
theorem dX8_second_18 : decode cX8_second 18 = .ok (.aload_n 0, 1) := by decide +kernel
theorem dX8_second_19 : decode cX8_second 19 = .ok (.iload_n 1, 1) := by decide +kernel
theorem dX8_second_20 : decode cX8_second 20 = .ok (.invokevirtual 132, 3) := by decide +kernel
theorem dX8_second_23 : decode cX8_second 23 = .ok (.ifCond .eq 14, 3) := by decide +kernel
theorem dX8_second_26 : decode cX8_second 26 = .ok (.aload_n 0, 1) := by decide +kernel
theorem dX8_second_27 : decode cX8_second 27 = .ok (.getfield 42, 3) := by decide +kernel
theorem dX8_second_30 : decode cX8_second 30 = .ok (.iload_n 1, 1) := by decide +kernel
theorem dX8_second_31 : decode cX8_second 31 = .ok (.invokevirtual 135, 3) := by decide +kernel
theorem dX8_second_34 : decode cX8_second 34 = .ok (.goto 4, 3) := by decide +kernel
theorem dX8_second_37 : decode cX8_second 37 = .ok (.iconst (-1), 1) := by decide +kernel
theorem dX8_second_38 : decode cX8_second 38 = .ok (.ireturn, 1) := by decide +kernel
set_option maxRecDepth 20000 in
theorem ggX8_many_X8_settle : GoodIn wsX8_many wsX8_settle := goodIn_r _ [6, 7, 1, 8, 9, 10, 11, 12, 13, 14, 15, 16, 17, 18, 19, 20, 21, 22, 23, 24, 25, 26, 27, 28, 29, 30, 31, 32, 33, 34, 35, 36, 37, 38, 39, 40, 41, 42, 43, 44, 45, 46, 47, 48, 49, 50, 51, 52, 53, 54, 55, 56, 57, 58, 59, 60, 61, 62, 63, 64, 65, 66, 67, 68, 69, 70, 71, 72, 73, 74, 75, 76, 77, 78, 79, 80, 81, 82, 83, 84, 85, 86, 87, 88, 89, 90, 91, 92, 93, 94, 95, 96, 97, 98, 99, 100, 101, 102, 103, 104, 105, 106, 107, 108, 109, 110, 111, 112, 113, 114, 115, 116, 117, 118, 119, 120, 121, 122, 123, 124, 125, 126, 127, 128, 129, 130, 131, 132, 133, 134, 135, 136, 137, 138, 139, 140, 141, 142, 143, 144, 145, 146, 147, 148, 149, 150, 151, 152, 153, 154, 155, 156, 157, 158, 159, 160, 161, 162, 163, 164, 165, 166, 167, 168, 169, 170, 171, 172, 173, 174, 175, 176, 177, 178, 223, 224, 225, 226, 227, 228, 229, 230, 231, 232, 233, 234, 235, 236, 237, 238, 239, 240, 241, 242, 243, 244, 245, 246, 247, 248, 249, 250, 251, 252, 253, 254, 255, 256, 257] (by decide +kernel) (by decide +kernel)
set_option maxRecDepth 20000 in
theorem gX8_many_X8_settle : GoodIn wsX8_many (wsV RX8 120 RX8 yX8_settle wsX8_settle) := goodIn_app (goodIn_of _ (by decide +kernel)) ggX8_many_X8_settle
set_option maxRecDepth 20000 in
theorem ggX8_many_X5_size : GoodIn wsX8_many wsX5_size := goodIn_r _ [16, 17, 231, 232, 233] (by decide +kernel) (by decide +kernel)
set_option maxRecDepth 20000 in
theorem gX8_many_X5_size : GoodIn wsX8_many (wsV RX8 138 RX5 yX5_size wsX5_size) := goodIn_app (goodIn_of _ (by decide +kernel)) ggX8_many_X5_size
set_option maxRecDepth 20000 in
theorem ggX8_many_X8_kindOf : GoodIn wsX8_many wsX8_kindOf := goodIn_r _ [182, 9, 11, 183, 184, 185, 5, 186, 187, 188, 189, 137, 190, 143, 145, 191, 192, 193, 21, 194, 195, 159, 160, 161, 32, 33, 196, 197, 198, 199, 23, 34, 13, 14, 15, 16, 17, 200, 201, 202, 203, 204, 205, 206, 207, 208, 209, 210, 211, 212, 144, 156, 139, 25, 26, 27, 213, 214, 215, 216, 217, 218, 151, 174, 219, 220, 221, 222, 223, 224, 225, 226, 227, 228, 229, 230, 250, 251, 252, 253, 254, 255, 256, 257, 234, 235, 236, 237, 238, 239, 240, 231, 232, 233] (by decide +kernel) (by decide +kernel)
set_option maxRecDepth 20000 in
theorem gX8_many_X8_kindOf : GoodIn wsX8_many (wsV RX8 129 RX8 yX8_kindOf wsX8_kindOf) := goodIn_app (goodIn_of _ (by decide +kernel)) ggX8_many_X8_kindOf
theorem dX8_many_0 : decode cX8_many 0 = .ok (.iload_n 1, 1) := by decide +kernel
theorem dX8_many_1 : decode cX8_many 1 = .ok (.ifCond .lt 15, 3) := by decide +kernel
theorem dX8_many_4 : decode cX8_many 4 = .ok (.iload_n 1, 1) := by decide +kernel
theorem dX8_many_5 : decode cX8_many 5 = .ok (.iconst 3, 1) := by decide +kernel
theorem dX8_many_6 : decode cX8_many 6 = .ok (.if_icmp .gt 10, 3) := by decide +kernel
theorem dX8_many_9 : decode cX8_many 9 = .ok (.aload_n 0, 1) := by decide +kernel
theorem dX8_many_10 : decode cX8_many 10 = .ok (.invokevirtual 120, 3) := by decide +kernel
theorem dX8_many_13 : decode cX8_many 13 = .ok (.ifCond .ne 5, 3) := by decide +kernel
theorem dX8_many_16 : decode cX8_many 16 = .ok (.iconst (-1), 1) := by decide +kernel
theorem dX8_many_17 : decode cX8_many 17 = .ok (.ireturn, 1) := by decide +kernel
theorem dX8_many_18 : decode cX8_many 18 = .ok (.iconst 0, 1) := by decide +kernel
theorem dX8_many_19 : decode cX8_many 19 = .ok (.istore_n 2, 1) := by decide +kernel
theorem dX8_many_20 : decode cX8_many 20 = .ok (.iconst 0, 1) := by decide +kernel
theorem dX8_many_21 : decode cX8_many 21 = .ok (.istore_n 3, 1) := by decide +kernel
theorem dX8_many_22 : decode cX8_many 22 = .ok (.iload_n 3, 1) := by decide +kernel
theorem dX8_many_23 : decode cX8_many 23 = .ok (.aload_n 0, 1) := by decide +kernel
theorem dX8_many_24 : decode cX8_many 24 = .ok (.getfield 25, 3) := by decide +kernel
theorem dX8_many_27 : decode cX8_many 27 = .ok (.invokevirtual 138, 3) := by decide +kernel
theorem dX8_many_30 : decode cX8_many 30 = .ok (.if_icmp .ge 21, 3) := by decide +kernel
theorem dX8_many_33 : decode cX8_many 33 = .ok (.aload_n 0, 1) := by decide +kernel
theorem dX8_many_34 : decode cX8_many 34 = .ok (.iload_n 3, 1) := by decide +kernel
theorem dX8_many_35 : decode cX8_many 35 = .ok (.invokevirtual 129, 3) := by decide +kernel
theorem dX8_many_38 : decode cX8_many 38 = .ok (.iload_n 1, 1) := by decide +kernel
theorem dX8_many_39 : decode cX8_many 39 = .ok (.if_icmp .ne 6, 3) := by decide +kernel
theorem dX8_many_42 : decode cX8_many 42 = .ok (.iinc 2 1, 3) := by decide +kernel
theorem dX8_many_45 : decode cX8_many 45 = .ok (.iinc 3 1, 3) := by decide +kernel
theorem dX8_many_48 : decode cX8_many 48 = .ok (.goto (-26), 3) := by decide +kernel
theorem dX8_many_51 : decode cX8_many 51 = .ok (.iload_n 2, 1) := by decide +kernel
theorem dX8_many_52 : decode cX8_many 52 = .ok (.ireturn, 1) := by decide +kernel
set_option maxRecDepth 20000 in
theorem ggX8_spans_X8_settle : GoodIn wsX8_spans wsX8_settle := goodIn_r _ [7, 8, 1, 9, 10, 11, 2, 12, 13, 14, 15, 16, 17, 18, 19, 20, 21, 22, 23, 24, 25, 26, 27, 28, 29, 30, 31, 32, 33, 34, 35, 36, 37, 38, 39, 40, 41, 42, 43, 44, 45, 46, 47, 48, 49, 50, 51, 52, 53, 54, 55, 56, 57, 58, 59, 60, 61, 62, 63, 64, 65, 66, 67, 68, 69, 70, 71, 72, 73, 74, 75, 76, 77, 78, 79, 80, 81, 82, 83, 84, 85, 86, 87, 88, 89, 90, 91, 92, 93, 94, 95, 96, 97, 98, 99, 100, 101, 102, 103, 104, 105, 106, 107, 108, 109, 110, 111, 112, 113, 114, 115, 116, 117, 118, 119, 120, 121, 122, 123, 124, 125, 126, 127, 128, 129, 130, 131, 132, 133, 134, 135, 136, 137, 138, 139, 140, 141, 142, 143, 144, 145, 146, 147, 148, 149, 150, 151, 152, 153, 154, 155, 156, 157, 158, 159, 160, 161, 162, 163, 164, 165, 166, 167, 168, 169, 170, 171, 172, 173, 174, 175, 176, 177, 178, 183, 184, 185, 186, 187, 188, 189, 190, 191, 192, 193, 194, 195, 196, 197, 198, 199, 200, 201, 202, 203, 204, 205, 206, 207, 208, 209, 210, 211, 212, 213, 214, 215, 216, 217] (by decide +kernel) (by decide +kernel)
set_option maxRecDepth 20000 in
theorem gX8_spans_X8_settle : GoodIn wsX8_spans (wsV RX8 120 RX8 yX8_settle wsX8_settle) := goodIn_app (goodIn_of _ (by decide +kernel)) ggX8_spans_X8_settle
set_option maxRecDepth 20000 in
theorem ggX8_spans_X5_size : GoodIn wsX8_spans wsX5_size := goodIn_r _ [16, 17, 191, 192, 193] (by decide +kernel) (by decide +kernel)
set_option maxRecDepth 20000 in
theorem gX8_spans_X5_size : GoodIn wsX8_spans (wsV RX8 138 RX5 yX5_size wsX5_size) := goodIn_app (goodIn_of _ (by decide +kernel)) ggX8_spans_X5_size
set_option maxRecDepth 20000 in
theorem ggX8_spans_X6_styleOf : GoodIn wsX8_spans wsX6_styleOf := goodIn_r _ [182, 143, 145, 210, 211, 212, 213, 214, 215, 216, 217] (by decide +kernel) (by decide +kernel)
set_option maxRecDepth 20000 in
theorem gX8_spans_X6_styleOf : GoodIn wsX8_spans (wsV RX8 126 RX6 yX6_styleOf wsX6_styleOf) := goodIn_app (goodIn_of _ (by decide +kernel)) ggX8_spans_X6_styleOf
theorem dX8_spans_0 : decode cX8_spans 0 = .ok (.aload_n 0, 1) := by decide +kernel
theorem dX8_spans_1 : decode cX8_spans 1 = .ok (.invokevirtual 120, 3) := by decide +kernel
theorem dX8_spans_4 : decode cX8_spans 4 = .ok (.ifCond .ne 5, 3) := by decide +kernel
theorem dX8_spans_7 : decode cX8_spans 7 = .ok (.iconst (-1), 1) := by decide +kernel
theorem dX8_spans_8 : decode cX8_spans 8 = .ok (.ireturn, 1) := by decide +kernel
theorem dX8_spans_9 : decode cX8_spans 9 = .ok (.iconst 1, 1) := by decide +kernel
theorem dX8_spans_10 : decode cX8_spans 10 = .ok (.istore_n 1, 1) := by decide +kernel
theorem dX8_spans_11 : decode cX8_spans 11 = .ok (.iconst 1, 1) := by decide +kernel
theorem dX8_spans_12 : decode cX8_spans 12 = .ok (.istore_n 2, 1) := by decide +kernel
theorem dX8_spans_13 : decode cX8_spans 13 = .ok (.iload_n 2, 1) := by decide +kernel
theorem dX8_spans_14 : decode cX8_spans 14 = .ok (.aload_n 0, 1) := by decide +kernel
theorem dX8_spans_15 : decode cX8_spans 15 = .ok (.getfield 25, 3) := by decide +kernel
theorem dX8_spans_18 : decode cX8_spans 18 = .ok (.invokevirtual 138, 3) := by decide +kernel
theorem dX8_spans_21 : decode cX8_spans 21 = .ok (.if_icmp .ge 33, 3) := by decide +kernel
theorem dX8_spans_24 : decode cX8_spans 24 = .ok (.aload_n 0, 1) := by decide +kernel
theorem dX8_spans_25 : decode cX8_spans 25 = .ok (.getfield 42, 3) := by decide +kernel
theorem dX8_spans_28 : decode cX8_spans 28 = .ok (.iload_n 2, 1) := by decide +kernel
theorem dX8_spans_29 : decode cX8_spans 29 = .ok (.invokevirtual 126, 3) := by decide +kernel
theorem dX8_spans_32 : decode cX8_spans 32 = .ok (.aload_n 0, 1) := by decide +kernel
theorem dX8_spans_33 : decode cX8_spans 33 = .ok (.getfield 42, 3) := by decide +kernel
theorem dX8_spans_36 : decode cX8_spans 36 = .ok (.iload_n 2, 1) := by decide +kernel
theorem dX8_spans_37 : decode cX8_spans 37 = .ok (.iconst 1, 1) := by decide +kernel
theorem dX8_spans_38 : decode cX8_spans 38 = .ok (.isub, 1) := by decide +kernel
theorem dX8_spans_39 : decode cX8_spans 39 = .ok (.invokevirtual 126, 3) := by decide +kernel
theorem dX8_spans_42 : decode cX8_spans 42 = .ok (.if_icmp .eq 6, 3) := by decide +kernel
theorem dX8_spans_45 : decode cX8_spans 45 = .ok (.iinc 1 1, 3) := by decide +kernel
theorem dX8_spans_48 : decode cX8_spans 48 = .ok (.iinc 2 1, 3) := by decide +kernel
theorem dX8_spans_51 : decode cX8_spans 51 = .ok (.goto (-38), 3) := by decide +kernel
theorem dX8_spans_54 : decode cX8_spans 54 = .ok (.iload_n 1, 1) := by decide +kernel
theorem dX8_spans_55 : decode cX8_spans 55 = .ok (.ireturn, 1) := by decide +kernel
set_option maxRecDepth 20000 in
theorem ggX8_part_X0_isDay : GoodIn wsX8_part wsX0_isDay := goodIn_r _ [6, 7] (by decide +kernel) (by decide +kernel)
set_option maxRecDepth 20000 in
theorem gX8_part_X0_isDay : GoodIn wsX8_part (va_wsS RX8 141 yX0_isDay wsX0_isDay) := goodIn_app (goodIn_of _ (by decide +kernel)) ggX8_part_X0_isDay
set_option maxRecDepth 20000 in
theorem ggX8_part_X0_dayOfMonth : GoodIn wsX8_part wsX0_dayOfMonth := goodIn_r _ [10, 11, 12, 5, 13, 14, 15, 16, 17, 18, 19, 20, 21, 22, 23, 24, 25, 26] (by decide +kernel) (by decide +kernel)
set_option maxRecDepth 20000 in
theorem gX8_part_X0_dayOfMonth : GoodIn wsX8_part (va_wsS RX8 153 yX0_dayOfMonth wsX0_dayOfMonth) := goodIn_app (goodIn_of _ (by decide +kernel)) ggX8_part_X0_dayOfMonth
set_option maxRecDepth 20000 in
theorem ggX8_part_X0_monthOf : GoodIn wsX8_part wsX0_monthOf := goodIn_r _ [13, 14, 15, 5, 16, 17, 18, 19, 20, 21, 22, 23] (by decide +kernel) (by decide +kernel)
set_option maxRecDepth 20000 in
theorem gX8_part_X0_monthOf : GoodIn wsX8_part (va_wsS RX8 156 yX0_monthOf wsX0_monthOf) := goodIn_app (goodIn_of _ (by decide +kernel)) ggX8_part_X0_monthOf
set_option maxRecDepth 20000 in
theorem ggX8_part_X0_yearOf : GoodIn wsX8_part wsX0_yearOf := goodIn_r _ [16, 17, 18, 5, 19] (by decide +kernel) (by decide +kernel)
set_option maxRecDepth 20000 in
theorem gX8_part_X0_yearOf : GoodIn wsX8_part (va_wsS RX8 159 yX0_yearOf wsX0_yearOf) := goodIn_app (goodIn_of _ (by decide +kernel)) ggX8_part_X0_yearOf
set_option maxRecDepth 20000 in
theorem ggX8_part_X0_weekdayOf : GoodIn wsX8_part wsX0_weekdayOf := goodIn_r _ [31] (by decide +kernel) (by decide +kernel)
set_option maxRecDepth 20000 in
theorem gX8_part_X0_weekdayOf : GoodIn wsX8_part (va_wsS RX8 162 yX0_weekdayOf wsX0_weekdayOf) := goodIn_app (goodIn_of _ (by decide +kernel)) ggX8_part_X0_weekdayOf
theorem dX8_part_0 : decode cX8_part 0 = .ok (.iload_n 1, 1) := by decide +kernel
theorem dX8_part_1 : decode cX8_part 1 = .ok (.invokestatic 141, 3) := by decide +kernel
theorem dX8_part_4 : decode cX8_part 4 = .ok (.ifCond .ne 13, 3) := by decide +kernel
theorem dX8_part_7 : decode cX8_part 7 = .ok (.new 146, 3) := by decide +kernel
theorem dX8_part_10 : decode cX8_part 10 = .ok (.dup, 1) := by decide +kernel
theorem dX8_part_11 : decode cX8_part 11 = .ok (.ldc 148, 2) := by decide +kernel
theorem dX8_part_13 : decode cX8_part 13 = .ok (.invokespecial 150, 3) := by decide +kernel
theorem dX8_part_16 : decode cX8_part 16 = .ok (.athrow, 1) := by decide +kernel
theorem dX8_part_17 : decode cX8_part 17 = .ok (.iload_n 2, 1) := by decide +kernel
theorem dX8_part_18 : decode cX8_part 18 = .ok (.tableswitch 50 0 3 #[30, 35, 40, 45], 30) := by decide +kernel
theorem dX8_part_48 : decode cX8_part 48 = .ok (.iload_n 1, 1) := by decide +kernel
theorem dX8_part_49 : decode cX8_part 49 = .ok (.invokestatic 153, 3) := by decide +kernel
theorem dX8_part_52 : decode cX8_part 52 = .ok (.ireturn, 1) := by decide +kernel
theorem dX8_part_53 : decode cX8_part 53 = .ok (.iload_n 1, 1) := by decide +kernel
theorem dX8_part_54 : decode cX8_part 54 = .ok (.invokestatic 156, 3) := by decide +kernel
theorem dX8_part_57 : decode cX8_part 57 = .ok (.ireturn, 1) := by decide +kernel
theorem dX8_part_58 : decode cX8_part 58 = .ok (.iload_n 1, 1) := by decide +kernel
theorem dX8_part_59 : decode cX8_part 59 = .ok (.invokestatic 159, 3) := by decide +kernel
theorem dX8_part_62 : decode cX8_part 62 = .ok (.ireturn, 1) := by decide +kernel
theorem dX8_part_63 : decode cX8_part 63 = .ok (.iload_n 1, 1) := by decide +kernel
theorem dX8_part_64 : decode cX8_part 64 = .ok (.invokestatic 162, 3) := by decide +kernel
theorem dX8_part_67 : decode cX8_part 67 = .ok (.ireturn, 1) := by decide +kernel
theorem dX8_part_68 : decode cX8_part 68 = .ok (.new 146, 3) := by decide +kernel
theorem dX8_part_71 : decode cX8_part 71 = .ok (.dup, 1) := by decide +kernel
theorem dX8_part_72 : decode cX8_part 72 = .ok (.ldc 165, 2) := by decide +kernel
theorem dX8_part_74 : decode cX8_part 74 = .ok (.invokespecial 150, 3) := by decide +kernel
theorem dX8_part_77 : decode cX8_part 77 = .ok (.athrow, 1) := by decide +kernel
set_option maxRecDepth 20000 in
theorem ggX8_number_X0_dayNumber : GoodIn wsX8_number wsX0_dayNumber := goodIn_r _ [4, 5, 6, 3, 7, 8, 9, 10, 11] (by decide +kernel) (by decide +kernel)
set_option maxRecDepth 20000 in
theorem gX8_number_X0_dayNumber : GoodIn wsX8_number (va_wsS RX8 167 yX0_dayNumber wsX0_dayNumber) := goodIn_app (goodIn_of _ (by decide +kernel)) ggX8_number_X0_dayNumber
theorem dX8_number_0 : decode cX8_number 0 = .ok (.iload_n 1, 1) := by decide +kernel
theorem dX8_number_1 : decode cX8_number 1 = .ok (.iload_n 2, 1) := by decide +kernel
theorem dX8_number_2 : decode cX8_number 2 = .ok (.iload_n 3, 1) := by decide +kernel
theorem dX8_number_3 : decode cX8_number 3 = .ok (.invokestatic 167, 3) := by decide +kernel
theorem dX8_number_6 : decode cX8_number 6 = .ok (.ireturn, 1) := by decide +kernel
set_option maxRecDepth 20000 in
theorem ggX8_write_X0_isDay : GoodIn wsX8_write wsX0_isDay := goodIn_r _ [6, 7] (by decide +kernel) (by decide +kernel)
set_option maxRecDepth 20000 in
theorem gX8_write_X0_isDay : GoodIn wsX8_write (va_wsS RX8 141 yX0_isDay wsX0_isDay) := goodIn_app (goodIn_of _ (by decide +kernel)) ggX8_write_X0_isDay
set_option maxRecDepth 20000 in
theorem ggX8_write_X5_has : GoodIn wsX8_write wsX5_has := goodIn_r _ [12, 13, 91, 92, 93] (by decide +kernel) (by decide +kernel)
set_option maxRecDepth 20000 in
theorem gX8_write_X5_has : GoodIn wsX8_write (wsV RX8 107 RX5 yX5_has wsX5_has) := goodIn_app (goodIn_of _ (by decide +kernel)) ggX8_write_X5_has
set_option maxRecDepth 20000 in
theorem ggX8_write_X1_setDown : GoodIn wsX8_write wsX1_setDown := goodIn_r _ [18, 19, 20, 21, 22, 11, 23, 24, 25, 9, 10, 12, 13, 26, 27, 28, 29, 30, 31, 32, 33, 34, 17, 35, 36, 37, 38, 39, 5, 40, 41, 42, 43, 44, 45, 46, 47, 48, 49, 50, 51, 52, 53, 54, 55, 56, 57, 58, 59, 60, 61, 62, 63, 64, 65, 66, 67, 68, 69, 70, 71, 72, 73, 74, 75, 76, 77, 78, 94, 95, 91, 92, 93] (by decide +kernel) (by decide +kernel)
set_option maxRecDepth 20000 in
theorem gX8_write_X1_setDown : GoodIn wsX8_write (wsV RX8 170 RX1 yX1_setDown wsX1_setDown) := goodIn_app (goodIn_of _ (by decide +kernel)) ggX8_write_X1_setDown
set_option maxRecDepth 20000 in
theorem ggX8_write_X1_byteAt : GoodIn wsX8_write wsX1_byteAt := goodIn_r _ [82, 19, 69, 94, 95] (by decide +kernel) (by decide +kernel)
set_option maxRecDepth 20000 in
theorem gX8_write_X1_byteAt : GoodIn wsX8_write (wsV RX8 174 RX1 yX1_byteAt wsX1_byteAt) := goodIn_app (goodIn_of _ (by decide +kernel)) ggX8_write_X1_byteAt
theorem dX8_write_0 : decode cX8_write 0 = .ok (.iload_n 1, 1) := by decide +kernel
theorem dX8_write_1 : decode cX8_write 1 = .ok (.invokestatic 141, 3) := by decide +kernel
theorem dX8_write_4 : decode cX8_write 4 = .ok (.ifCond .eq 14, 3) := by decide +kernel
theorem dX8_write_7 : decode cX8_write 7 = .ok (.aload_n 0, 1) := by decide +kernel
theorem dX8_write_8 : decode cX8_write 8 = .ok (.getfield 21, 3) := by decide +kernel
theorem dX8_write_11 : decode cX8_write 11 = .ok (.iload_n 2, 1) := by decide +kernel
theorem dX8_write_12 : decode cX8_write 12 = .ok (.invokevirtual 107, 3) := by decide +kernel
theorem dX8_write_15 : decode cX8_write 15 = .ok (.ifCond .ne 5, 3) := by decide +kernel
theorem dX8_write_18 : decode cX8_write 18 = .ok (.iconst (-1), 1) := by decide +kernel
theorem dX8_write_19 : decode cX8_write 19 = .ok (.ireturn, 1) := by decide +kernel
theorem dX8_write_20 : decode cX8_write 20 = .ok (.aload_n 0, 1) := by decide +kernel
theorem dX8_write_21 : decode cX8_write 21 = .ok (.getfield 49, 3) := by decide +kernel
theorem dX8_write_24 : decode cX8_write 24 = .ok (.iload_n 1, 1) := by decide +kernel
theorem dX8_write_25 : decode cX8_write 25 = .ok (.aload_n 0, 1) := by decide +kernel
theorem dX8_write_26 : decode cX8_write 26 = .ok (.getfield 21, 3) := by decide +kernel
theorem dX8_write_29 : decode cX8_write 29 = .ok (.iload_n 2, 1) := by decide +kernel
theorem dX8_write_30 : decode cX8_write 30 = .ok (.invokevirtual 170, 3) := by decide +kernel
theorem dX8_write_33 : decode cX8_write 33 = .ok (.aload_n 0, 1) := by decide +kernel
theorem dX8_write_34 : decode cX8_write 34 = .ok (.getfield 49, 3) := by decide +kernel
theorem dX8_write_37 : decode cX8_write 37 = .ok (.iload_n 3, 1) := by decide +kernel
theorem dX8_write_38 : decode cX8_write 38 = .ok (.invokevirtual 174, 3) := by decide +kernel
theorem dX8_write_41 : decode cX8_write 41 = .ok (.ireturn, 1) := by decide +kernel
set_option maxRecDepth 20000 in
theorem ggX8_same_X8_settle : GoodIn wsX8_same wsX8_settle := goodIn_r _ [10, 5, 1, 11, 4, 12, 2, 13, 14, 15, 16, 17, 18, 19, 20, 21, 22, 23, 24, 25, 26, 27, 28, 29, 30, 31, 32, 33, 34, 35, 36, 37, 38, 39, 40, 41, 42, 43, 44, 45, 46, 47, 48, 49, 50, 51, 52, 53, 54, 55, 56, 57, 58, 59, 60, 61, 62, 63, 64, 65, 66, 67, 68, 69, 70, 71, 72, 73, 74, 75, 76, 77, 78, 79, 80, 81, 82, 83, 84, 85, 86, 87, 88, 89, 90, 91, 92, 93, 94, 95, 96, 97, 98, 99, 100, 101, 102, 103, 104, 105, 106, 107, 108, 109, 110, 111, 112, 113, 114, 115, 116, 117, 118, 119, 120, 121, 122, 123, 124, 125, 126, 127, 128, 129, 130, 131, 132, 133, 134, 135, 136, 137, 138, 139, 140, 141, 142, 143, 144, 145, 146, 147, 148, 149, 150, 151, 152, 153, 154, 155, 156, 157, 158, 159, 160, 161, 162, 163, 164, 165, 166, 167, 168, 169, 170, 171, 172, 173, 174, 175, 176, 177, 178, 179, 247, 248, 249, 250, 251, 252, 253, 254, 255, 256, 257, 258, 259, 260, 261, 262, 263, 264, 265, 266, 267, 268, 269, 270, 271, 272, 273, 274, 275, 276, 277, 278, 279, 280, 281] (by decide +kernel) (by decide +kernel)
set_option maxRecDepth 20000 in
theorem gX8_same_X8_settle : GoodIn wsX8_same (wsV RX8 120 RX8 yX8_settle wsX8_settle) := goodIn_app (goodIn_of _ (by decide +kernel)) ggX8_same_X8_settle
set_option maxRecDepth 20000 in
theorem ggX8_same_X5_has : GoodIn wsX8_same wsX5_has := goodIn_r _ [52, 18, 255, 256, 257] (by decide +kernel) (by decide +kernel)
set_option maxRecDepth 20000 in
theorem gX8_same_X5_has : GoodIn wsX8_same (wsV RX8 107 RX5 yX5_has wsX5_has) := goodIn_app (goodIn_of _ (by decide +kernel)) ggX8_same_X5_has
set_option maxRecDepth 20000 in
theorem ggX8_same_X8_isReadByBest : GoodIn wsX8_same wsX8_isReadByBest := goodIn_r _ [184, 4, 2, 185, 186, 187, 138, 188, 144, 146, 189, 190, 191, 22, 192, 193, 160, 161, 162, 33, 34, 247, 248, 249, 250, 251, 252, 253, 254, 274, 275, 276, 277, 278, 279, 280, 281, 258, 259, 260, 261, 262, 263, 264] (by decide +kernel) (by decide +kernel)
set_option maxRecDepth 20000 in
theorem gX8_same_X8_isReadByBest : GoodIn wsX8_same (wsV RX8 132 RX8 yX8_isReadByBest wsX8_isReadByBest) := goodIn_app (goodIn_of _ (by decide +kernel)) ggX8_same_X8_isReadByBest
set_option maxRecDepth 20000 in
theorem ggX8_same_X6_styleOf : GoodIn wsX8_same wsX6_styleOf := goodIn_r _ [188, 144, 146, 274, 275, 276, 277, 278, 279, 280, 281] (by decide +kernel) (by decide +kernel)
set_option maxRecDepth 20000 in
theorem gX8_same_X6_styleOf : GoodIn wsX8_same (wsV RX8 126 RX6 yX6_styleOf wsX6_styleOf) := goodIn_app (goodIn_of _ (by decide +kernel)) ggX8_same_X6_styleOf
set_option maxRecDepth 20000 in
theorem ggX8_same_X3_edge : GoodIn wsX8_same wsX3_edge := goodIn_r _ [162, 33, 34, 258, 259, 260, 261, 262, 263, 264] (by decide +kernel) (by decide +kernel)
set_option maxRecDepth 20000 in
theorem gX8_same_X3_edge : GoodIn wsX8_same (wsV RX8 113 RX3 yX3_edge wsX3_edge) := goodIn_app (goodIn_of _ (by decide +kernel)) ggX8_same_X3_edge
set_option maxRecDepth 20000 in
theorem ggX8_same_X1_setDown : GoodIn wsX8_same wsX1_setDown := goodIn_r _ [199, 200, 201, 45, 46, 16, 47, 48, 49, 50, 51, 52, 18, 202, 54, 55, 56, 57, 58, 203, 204, 205, 198, 206, 207, 208, 209, 210, 114, 211, 212, 213, 214, 215, 216, 217, 120, 121, 122, 116, 117, 118, 119, 218, 113, 115, 219, 220, 221, 222, 223, 224, 225, 226, 227, 228, 229, 230, 231, 232, 233, 234, 235, 236, 237, 238, 124, 125, 282, 283, 255, 256, 257] (by decide +kernel) (by decide +kernel)
set_option maxRecDepth 20000 in
theorem gX8_same_X1_setDown : GoodIn wsX8_same (wsV RX8 170 RX1 yX1_setDown wsX1_setDown) := goodIn_app (goodIn_of _ (by decide +kernel)) ggX8_same_X1_setDown
set_option maxRecDepth 20000 in
theorem ggX8_same_X1_equalsText : GoodIn wsX8_same wsX1_equalsText := goodIn_r _ [242, 200, 201, 45, 46, 16, 47, 48, 49, 50, 51, 52, 18, 243, 244, 245, 198, 246, 231, 202, 54, 55, 56, 57, 58, 282, 283, 255, 256, 257] (by decide +kernel) (by decide +kernel)
set_option maxRecDepth 20000 in
theorem gX8_same_X1_equalsText : GoodIn wsX8_same (wsV RX8 177 RX1 yX1_equalsText wsX1_equalsText) := goodIn_app (goodIn_of _ (by decide +kernel)) ggX8_same_X1_equalsText
theorem dX8_same_0 : decode cX8_same 0 = .ok (.aload_n 0, 1) := by decide +kernel
theorem dX8_same_1 : decode cX8_same 1 = .ok (.invokevirtual 120, 3) := by decide +kernel
theorem dX8_same_4 : decode cX8_same 4 = .ok (.ifCond .eq 22, 3) := by decide +kernel
theorem dX8_same_7 : decode cX8_same 7 = .ok (.aload_n 0, 1) := by decide +kernel
theorem dX8_same_8 : decode cX8_same 8 = .ok (.getfield 25, 3) := by decide +kernel
theorem dX8_same_11 : decode cX8_same 11 = .ok (.iload_n 1, 1) := by decide +kernel
theorem dX8_same_12 : decode cX8_same 12 = .ok (.invokevirtual 107, 3) := by decide +kernel
theorem dX8_same_15 : decode cX8_same 15 = .ok (.ifCond .eq 11, 3) := by decide +kernel
theorem dX8_same_18 : decode cX8_same 18 = .ok (.aload_n 0, 1) := by decide +kernel
theorem dX8_same_19 : decode cX8_same 19 = .ok (.iload_n 1, 1) := by decide +kernel
theorem dX8_same_20 : decode cX8_same 20 = .ok (.invokevirtual 132, 3) := by decide +kernel
theorem dX8_same_23 : decode cX8_same 23 = .ok (.ifCond .ne 5, 3) := by decide +kernel
theorem dX8_same_26 : decode cX8_same 26 = .ok (.iconst (-1), 1) := by decide +kernel
theorem dX8_same_27 : decode cX8_same 27 = .ok (.ireturn, 1) := by decide +kernel
theorem dX8_same_28 : decode cX8_same 28 = .ok (.aload_n 0, 1) := by decide +kernel
theorem dX8_same_29 : decode cX8_same 29 = .ok (.getfield 42, 3) := by decide +kernel
theorem dX8_same_32 : decode cX8_same 32 = .ok (.iload_n 1, 1) := by decide +kernel
theorem dX8_same_33 : decode cX8_same 33 = .ok (.invokevirtual 126, 3) := by decide +kernel
theorem dX8_same_36 : decode cX8_same 36 = .ok (.istore_n 2, 1) := by decide +kernel
theorem dX8_same_37 : decode cX8_same 37 = .ok (.aload_n 0, 1) := by decide +kernel
theorem dX8_same_38 : decode cX8_same 38 = .ok (.getfield 49, 3) := by decide +kernel
theorem dX8_same_41 : decode cX8_same 41 = .ok (.aload_n 0, 1) := by decide +kernel
theorem dX8_same_42 : decode cX8_same 42 = .ok (.getfield 33, 3) := by decide +kernel
theorem dX8_same_45 : decode cX8_same 45 = .ok (.iload_n 1, 1) := by decide +kernel
theorem dX8_same_46 : decode cX8_same 46 = .ok (.iload_n 2, 1) := by decide +kernel
theorem dX8_same_47 : decode cX8_same 47 = .ok (.iconst 0, 1) := by decide +kernel
theorem dX8_same_48 : decode cX8_same 48 = .ok (.invokevirtual 113, 3) := by decide +kernel
theorem dX8_same_51 : decode cX8_same 51 = .ok (.aload_n 0, 1) := by decide +kernel
theorem dX8_same_52 : decode cX8_same 52 = .ok (.getfield 21, 3) := by decide +kernel
theorem dX8_same_55 : decode cX8_same 55 = .ok (.iload_n 2, 1) := by decide +kernel
theorem dX8_same_56 : decode cX8_same 56 = .ok (.invokevirtual 170, 3) := by decide +kernel
theorem dX8_same_59 : decode cX8_same 59 = .ok (.aload_n 0, 1) := by decide +kernel
theorem dX8_same_60 : decode cX8_same 60 = .ok (.getfield 49, 3) := by decide +kernel
theorem dX8_same_63 : decode cX8_same 63 = .ok (.aload_n 0, 1) := by decide +kernel
theorem dX8_same_64 : decode cX8_same 64 = .ok (.getfield 25, 3) := by decide +kernel
theorem dX8_same_67 : decode cX8_same 67 = .ok (.iload_n 1, 1) := by decide +kernel
theorem dX8_same_68 : decode cX8_same 68 = .ok (.invokevirtual 177, 3) := by decide +kernel
theorem dX8_same_71 : decode cX8_same 71 = .ok (.ifCond .eq 7, 3) := by decide +kernel
theorem dX8_same_74 : decode cX8_same 74 = .ok (.iconst 1, 1) := by decide +kernel
theorem dX8_same_75 : decode cX8_same 75 = .ok (.goto 4, 3) := by decide +kernel
theorem dX8_same_78 : decode cX8_same 78 = .ok (.iconst 0, 1) := by decide +kernel
theorem dX8_same_79 : decode cX8_same 79 = .ok (.ireturn, 1) := by decide +kernel
set_option maxRecDepth 20000 in
theorem ggX8_count_X5_size : GoodIn wsX8_count wsX5_size := goodIn_r _ [9, 10, 25, 26, 27] (by decide +kernel) (by decide +kernel)
set_option maxRecDepth 20000 in
theorem gX8_count_X5_size : GoodIn wsX8_count (wsV RX8 138 RX5 yX5_size wsX5_size) := goodIn_app (goodIn_of _ (by decide +kernel)) ggX8_count_X5_size
set_option maxRecDepth 20000 in
theorem ggX8_count_X4_length : GoodIn wsX8_count wsX4_length := goodIn_r _ [15, 16, 28, 29] (by decide +kernel) (by decide +kernel)
set_option maxRecDepth 20000 in
theorem gX8_count_X4_length : GoodIn wsX8_count (wsV RX8 65 RX4 yX4_length wsX4_length) := goodIn_app (goodIn_of _ (by decide +kernel)) ggX8_count_X4_length
theorem dX8_count_0 : decode cX8_count 0 = .ok (.iload_n 1, 1) := by decide +kernel
theorem dX8_count_1 : decode cX8_count 1 = .ok (.tableswitch 60 0 3 #[31, 39, 47, 55], 31) := by decide +kernel
theorem dX8_count_32 : decode cX8_count 32 = .ok (.aload_n 0, 1) := by decide +kernel
theorem dX8_count_33 : decode cX8_count 33 = .ok (.getfield 21, 3) := by decide +kernel
theorem dX8_count_36 : decode cX8_count 36 = .ok (.invokevirtual 138, 3) := by decide +kernel
theorem dX8_count_39 : decode cX8_count 39 = .ok (.ireturn, 1) := by decide +kernel
theorem dX8_count_40 : decode cX8_count 40 = .ok (.aload_n 0, 1) := by decide +kernel
theorem dX8_count_41 : decode cX8_count 41 = .ok (.getfield 25, 3) := by decide +kernel
theorem dX8_count_44 : decode cX8_count 44 = .ok (.invokevirtual 138, 3) := by decide +kernel
theorem dX8_count_47 : decode cX8_count 47 = .ok (.ireturn, 1) := by decide +kernel
theorem dX8_count_48 : decode cX8_count 48 = .ok (.aload_n 0, 1) := by decide +kernel
theorem dX8_count_49 : decode cX8_count 49 = .ok (.getfield 10, 3) := by decide +kernel
theorem dX8_count_52 : decode cX8_count 52 = .ok (.invokevirtual 65, 3) := by decide +kernel
theorem dX8_count_55 : decode cX8_count 55 = .ok (.ireturn, 1) := by decide +kernel
theorem dX8_count_56 : decode cX8_count 56 = .ok (.aload_n 0, 1) := by decide +kernel
theorem dX8_count_57 : decode cX8_count 57 = .ok (.getfield 53, 3) := by decide +kernel
theorem dX8_count_60 : decode cX8_count 60 = .ok (.ireturn, 1) := by decide +kernel
theorem dX8_count_61 : decode cX8_count 61 = .ok (.iconst (-1), 1) := by decide +kernel
theorem dX8_count_62 : decode cX8_count 62 = .ok (.ireturn, 1) := by decide +kernel
theorem dX8_isPrice_0 : decode cX8_isPrice 0 = .ok (.iload_n 0, 1) := by decide +kernel
theorem dX8_isPrice_1 : decode cX8_isPrice 1 = .ok (.ifCond .lt 14, 3) := by decide +kernel
theorem dX8_isPrice_4 : decode cX8_isPrice 4 = .ok (.iload_n 0, 1) := by decide +kernel
theorem dX8_isPrice_5 : decode cX8_isPrice 5 = .ok (.sipush 1000, 3) := by decide +kernel
theorem dX8_isPrice_8 : decode cX8_isPrice 8 = .ok (.if_icmp .gt 7, 3) := by decide +kernel
theorem dX8_isPrice_11 : decode cX8_isPrice 11 = .ok (.iconst 1, 1) := by decide +kernel
theorem dX8_isPrice_12 : decode cX8_isPrice 12 = .ok (.goto 4, 3) := by decide +kernel
theorem dX8_isPrice_15 : decode cX8_isPrice 15 = .ok (.iconst 0, 1) := by decide +kernel
theorem dX8_isPrice_16 : decode cX8_isPrice 16 = .ok (.ireturn, 1) := by decide +kernel
set_option maxRecDepth 20000 in
theorem ggX8_settle_X5_size : GoodIn wsX8_settle wsX5_size := goodIn_r _ [11, 12, 182, 183, 184] (by decide +kernel) (by decide +kernel)
set_option maxRecDepth 20000 in
theorem gX8_settle_X5_size : GoodIn wsX8_settle (wsV RX8 138 RX5 yX5_size wsX5_size) := goodIn_app (goodIn_of _ (by decide +kernel)) ggX8_settle_X5_size
set_option maxRecDepth 20000 in
theorem ggX8_settle_X3_bring : GoodIn wsX8_settle wsX3_bring := goodIn_r _ [17, 18, 19, 20, 21, 22, 23, 24, 25, 26, 27, 28, 29, 8, 9, 10, 11, 12, 30, 31, 32, 33, 34, 35, 36, 37, 38, 39, 40, 41, 42, 43, 44, 45, 46, 47, 48, 49, 50, 51, 52, 53, 54, 55, 56, 57, 58, 59, 60, 61, 62, 63, 64, 65, 66, 67, 68, 69, 70, 71, 72, 73, 74, 75, 76, 77, 78, 79, 80, 81, 82, 83, 84, 85, 86, 87, 88, 89, 90, 91, 92, 93, 94, 95, 96, 97, 98, 99, 100, 101, 102, 103, 104, 105, 106, 107, 108, 109, 110, 111, 112, 113, 114, 115, 116, 117, 118, 119, 120, 121, 122, 123, 124, 125, 126, 127, 128, 185, 186, 187, 188, 189, 190, 191, 182, 183, 184, 192, 193, 194, 195, 196, 197, 198, 199, 200] (by decide +kernel) (by decide +kernel)
set_option maxRecDepth 20000 in
theorem gX8_settle_X3_bring : GoodIn wsX8_settle (wsV RX8 110 RX3 yX3_bring wsX3_bring) := goodIn_app (goodIn_of _ (by decide +kernel)) ggX8_settle_X3_bring
set_option maxRecDepth 20000 in
theorem ggX8_settle_X6_settle : GoodIn wsX8_settle wsX6_settle := goodIn_r _ [133, 134, 20, 21, 22, 135, 136, 137, 138, 139, 140, 141, 142, 143, 132, 144, 145, 146, 147, 148, 149, 150, 151, 152, 153, 154, 155, 16, 156, 27, 28, 157, 158, 159, 160, 161, 162, 163, 164, 165, 166, 167, 168, 169, 170, 171, 172, 173, 201, 202, 203, 204, 205, 206, 207, 208, 185, 186, 187, 188, 189, 190, 191] (by decide +kernel) (by decide +kernel)
set_option maxRecDepth 20000 in
theorem gX8_settle_X6_settle : GoodIn wsX8_settle (wsV RX8 181 RX6 yX6_settle wsX6_settle) := goodIn_app (goodIn_of _ (by decide +kernel)) ggX8_settle_X6_settle
theorem dX8_settle_0 : decode cX8_settle 0 = .ok (.aload_n 0, 1) := by decide +kernel
theorem dX8_settle_1 : decode cX8_settle 1 = .ok (.getfield 21, 3) := by decide +kernel
theorem dX8_settle_4 : decode cX8_settle 4 = .ok (.invokevirtual 138, 3) := by decide +kernel
theorem dX8_settle_7 : decode cX8_settle 7 = .ok (.ifCond .eq 13, 3) := by decide +kernel
theorem dX8_settle_10 : decode cX8_settle 10 = .ok (.aload_n 0, 1) := by decide +kernel
theorem dX8_settle_11 : decode cX8_settle 11 = .ok (.getfield 25, 3) := by decide +kernel
theorem dX8_settle_14 : decode cX8_settle 14 = .ok (.invokevirtual 138, 3) := by decide +kernel
theorem dX8_settle_17 : decode cX8_settle 17 = .ok (.ifCond .ne 5, 3) := by decide +kernel
theorem dX8_settle_20 : decode cX8_settle 20 = .ok (.iconst 0, 1) := by decide +kernel
theorem dX8_settle_21 : decode cX8_settle 21 = .ok (.ireturn, 1) := by decide +kernel
theorem dX8_settle_22 : decode cX8_settle 22 = .ok (.aload_n 0, 1) := by decide +kernel
theorem dX8_settle_23 : decode cX8_settle 23 = .ok (.getfield 57, 3) := by decide +kernel
theorem dX8_settle_26 : decode cX8_settle 26 = .ok (.ifCond .ne 60, 3) := by decide +kernel
theorem dX8_settle_29 : decode cX8_settle 29 = .ok (.iconst 0, 1) := by decide +kernel
theorem dX8_settle_30 : decode cX8_settle 30 = .ok (.istore_n 1, 1) := by decide +kernel
theorem dX8_settle_31 : decode cX8_settle 31 = .ok (.iload_n 1, 1) := by decide +kernel
theorem dX8_settle_32 : decode cX8_settle 32 = .ok (.aload_n 0, 1) := by decide +kernel
theorem dX8_settle_33 : decode cX8_settle 33 = .ok (.getfield 25, 3) := by decide +kernel
theorem dX8_settle_36 : decode cX8_settle 36 = .ok (.invokevirtual 138, 3) := by decide +kernel
theorem dX8_settle_39 : decode cX8_settle 39 = .ok (.if_icmp .ge 21, 3) := by decide +kernel
theorem dX8_settle_42 : decode cX8_settle 42 = .ok (.aload_n 0, 1) := by decide +kernel
theorem dX8_settle_43 : decode cX8_settle 43 = .ok (.getfield 33, 3) := by decide +kernel
theorem dX8_settle_46 : decode cX8_settle 46 = .ok (.iload_n 1, 1) := by decide +kernel
theorem dX8_settle_47 : decode cX8_settle 47 = .ok (.aload_n 0, 1) := by decide +kernel
theorem dX8_settle_48 : decode cX8_settle 48 = .ok (.getfield 53, 3) := by decide +kernel
theorem dX8_settle_51 : decode cX8_settle 51 = .ok (.invokevirtual 110, 3) := by decide +kernel
theorem dX8_settle_54 : decode cX8_settle 54 = .ok (.iinc 1 1, 3) := by decide +kernel
theorem dX8_settle_57 : decode cX8_settle 57 = .ok (.goto (-26), 3) := by decide +kernel
theorem dX8_settle_60 : decode cX8_settle 60 = .ok (.aload_n 0, 1) := by decide +kernel
theorem dX8_settle_61 : decode cX8_settle 61 = .ok (.getfield 42, 3) := by decide +kernel
theorem dX8_settle_64 : decode cX8_settle 64 = .ok (.aload_n 0, 1) := by decide +kernel
theorem dX8_settle_65 : decode cX8_settle 65 = .ok (.getfield 25, 3) := by decide +kernel
theorem dX8_settle_68 : decode cX8_settle 68 = .ok (.invokevirtual 138, 3) := by decide +kernel
theorem dX8_settle_71 : decode cX8_settle 71 = .ok (.aload_n 0, 1) := by decide +kernel
theorem dX8_settle_72 : decode cX8_settle 72 = .ok (.getfield 21, 3) := by decide +kernel
theorem dX8_settle_75 : decode cX8_settle 75 = .ok (.invokevirtual 138, 3) := by decide +kernel
theorem dX8_settle_78 : decode cX8_settle 78 = .ok (.invokevirtual 181, 3) := by decide +kernel
theorem dX8_settle_81 : decode cX8_settle 81 = .ok (.aload_n 0, 1) := by decide +kernel
theorem dX8_settle_82 : decode cX8_settle 82 = .ok (.iconst 1, 1) := by decide +kernel
theorem dX8_settle_83 : decode cX8_settle 83 = .ok (.putfield 57, 3) := by decide +kernel
theorem dX8_settle_86 : decode cX8_settle 86 = .ok (.iconst 1, 1) := by decide +kernel
theorem dX8_settle_87 : decode cX8_settle 87 = .ok (.ireturn, 1) := by decide +kernel
set_option maxRecDepth 20000 in
theorem ggX8_isReadByBest_X6_styleOf : GoodIn wsX8_isReadByBest wsX6_styleOf := goodIn_r _ [7, 8, 9, 29, 30, 31, 32, 33, 34, 35, 36] (by decide +kernel) (by decide +kernel)
set_option maxRecDepth 20000 in
theorem gX8_isReadByBest_X6_styleOf : GoodIn wsX8_isReadByBest (wsV RX8 126 RX6 yX6_styleOf wsX6_styleOf) := goodIn_app (goodIn_of _ (by decide +kernel)) ggX8_isReadByBest_X6_styleOf
set_option maxRecDepth 20000 in
theorem ggX8_isReadByBest_X3_isRead : GoodIn wsX8_isReadByBest wsX3_isRead := goodIn_r _ [14, 15, 16, 17, 13, 18, 19, 20, 37, 38, 39, 40, 41, 42, 43] (by decide +kernel) (by decide +kernel)
set_option maxRecDepth 20000 in
theorem gX8_isReadByBest_X3_isRead : GoodIn wsX8_isReadByBest (wsV RX8 183 RX3 yX3_isRead wsX3_isRead) := goodIn_app (goodIn_of _ (by decide +kernel)) ggX8_isReadByBest_X3_isRead
theorem dX8_isReadByBest_0 : decode cX8_isReadByBest 0 = .ok (.aload_n 0, 1) := by decide +kernel
theorem dX8_isReadByBest_1 : decode cX8_isReadByBest 1 = .ok (.getfield 33, 3) := by decide +kernel
theorem dX8_isReadByBest_4 : decode cX8_isReadByBest 4 = .ok (.iload_n 1, 1) := by decide +kernel
theorem dX8_isReadByBest_5 : decode cX8_isReadByBest 5 = .ok (.aload_n 0, 1) := by decide +kernel
theorem dX8_isReadByBest_6 : decode cX8_isReadByBest 6 = .ok (.getfield 42, 3) := by decide +kernel
theorem dX8_isReadByBest_9 : decode cX8_isReadByBest 9 = .ok (.iload_n 1, 1) := by decide +kernel
theorem dX8_isReadByBest_10 : decode cX8_isReadByBest 10 = .ok (.invokevirtual 126, 3) := by decide +kernel
theorem dX8_isReadByBest_13 : decode cX8_isReadByBest 13 = .ok (.invokevirtual 183, 3) := by decide +kernel
theorem dX8_isReadByBest_16 : decode cX8_isReadByBest 16 = .ok (.ireturn, 1) := by decide +kernel
set_option maxRecDepth 20000 in
theorem ggX8_kindOf_X8_isReadByBest : GoodIn wsX8_kindOf wsX8_isReadByBest := goodIn_r _ [7, 1, 2, 8, 9, 10, 11, 12, 13, 14, 15, 16, 17, 18, 19, 20, 21, 22, 23, 24, 25, 68, 69, 70, 71, 72, 73, 74, 75, 76, 77, 78, 79, 80, 81, 82, 83, 84, 85, 86, 87, 88, 89, 90] (by decide +kernel) (by decide +kernel)
set_option maxRecDepth 20000 in
theorem gX8_kindOf_X8_isReadByBest : GoodIn wsX8_kindOf (wsV RX8 132 RX8 yX8_isReadByBest wsX8_isReadByBest) := goodIn_app (goodIn_of _ (by decide +kernel)) ggX8_kindOf_X8_isReadByBest
set_option maxRecDepth 20000 in
theorem ggX8_kindOf_X3_unlike : GoodIn wsX8_kindOf wsX3_unlike := goodIn_r _ [29, 30, 31, 32, 33, 34, 35, 36, 37, 16, 17, 18, 19, 20, 21, 22, 23, 24, 25, 38, 39, 40, 41, 42, 43, 44, 45, 84, 85, 86, 87, 88, 89, 90, 91, 92, 93] (by decide +kernel) (by decide +kernel)
set_option maxRecDepth 20000 in
theorem gX8_kindOf_X3_unlike : GoodIn wsX8_kindOf (wsV RX8 117 RX3 yX3_unlike wsX3_unlike) := goodIn_app (goodIn_of _ (by decide +kernel)) ggX8_kindOf_X3_unlike
set_option maxRecDepth 20000 in
theorem ggX8_kindOf_X6_leastOtherwise : GoodIn wsX8_kindOf wsX6_leastOtherwise := goodIn_r _ [49, 50, 51, 52, 53, 54, 55, 56, 9, 10, 11, 12, 13, 14, 57, 43, 44, 18, 45, 20, 21, 22, 23, 24, 25, 58, 59, 60, 61, 62, 63, 76, 77, 78, 79, 80, 81, 82, 83, 84, 85, 86, 87, 88, 89, 90] (by decide +kernel) (by decide +kernel)
