set_option maxRecDepth 20000 in
theorem gX8_kindOf_X6_leastOtherwise : GoodIn wsX8_kindOf (wsV RX8 135 RX6 yX6_leastOtherwise wsX6_leastOtherwise) := goodIn_app (goodIn_of _ (by decide +kernel)) ggX8_kindOf_X6_leastOtherwise
set_option maxRecDepth 20000 in
theorem ggX8_kindOf_X6_leastCost : GoodIn wsX8_kindOf wsX6_leastCost := goodIn_r _ [67, 56, 9, 10, 11, 12, 13, 14, 58, 59, 60, 61, 50, 62, 63, 76, 77, 78, 79, 80, 81, 82, 83] (by decide +kernel) (by decide +kernel)
set_option maxRecDepth 20000 in
theorem gX8_kindOf_X6_leastCost : GoodIn wsX8_kindOf (wsV RX8 123 RX6 yX6_leastCost wsX6_leastCost) := goodIn_app (goodIn_of _ (by decide +kernel)) ggX8_kindOf_X6_leastCost
theorem dX8_kindOf_0 : decode cX8_kindOf 0 = .ok (.aload_n 0, 1) := by decide +kernel
theorem dX8_kindOf_1 : decode cX8_kindOf 1 = .ok (.iload_n 1, 1) := by decide +kernel
theorem dX8_kindOf_2 : decode cX8_kindOf 2 = .ok (.invokevirtual 132, 3) := by decide +kernel
theorem dX8_kindOf_5 : decode cX8_kindOf 5 = .ok (.ifCond .ne 5, 3) := by decide +kernel
theorem dX8_kindOf_8 : decode cX8_kindOf 8 = .ok (.iconst 3, 1) := by decide +kernel
theorem dX8_kindOf_9 : decode cX8_kindOf 9 = .ok (.ireturn, 1) := by decide +kernel
theorem dX8_kindOf_10 : decode cX8_kindOf 10 = .ok (.aload_n 0, 1) := by decide +kernel
theorem dX8_kindOf_11 : decode cX8_kindOf 11 = .ok (.getfield 33, 3) := by decide +kernel
theorem dX8_kindOf_14 : decode cX8_kindOf 14 = .ok (.iload_n 1, 1) := by decide +kernel
theorem dX8_kindOf_15 : decode cX8_kindOf 15 = .ok (.invokevirtual 117, 3) := by decide +kernel
theorem dX8_kindOf_18 : decode cX8_kindOf 18 = .ok (.iconst 1, 1) := by decide +kernel
theorem dX8_kindOf_19 : decode cX8_kindOf 19 = .ok (.if_icmp .ne 5, 3) := by decide +kernel
theorem dX8_kindOf_22 : decode cX8_kindOf 22 = .ok (.iconst 0, 1) := by decide +kernel
theorem dX8_kindOf_23 : decode cX8_kindOf 23 = .ok (.ireturn, 1) := by decide +kernel
theorem dX8_kindOf_24 : decode cX8_kindOf 24 = .ok (.aload_n 0, 1) := by decide +kernel
theorem dX8_kindOf_25 : decode cX8_kindOf 25 = .ok (.getfield 42, 3) := by decide +kernel
theorem dX8_kindOf_28 : decode cX8_kindOf 28 = .ok (.iload_n 1, 1) := by decide +kernel
theorem dX8_kindOf_29 : decode cX8_kindOf 29 = .ok (.invokevirtual 135, 3) := by decide +kernel
theorem dX8_kindOf_32 : decode cX8_kindOf 32 = .ok (.aload_n 0, 1) := by decide +kernel
theorem dX8_kindOf_33 : decode cX8_kindOf 33 = .ok (.getfield 42, 3) := by decide +kernel
theorem dX8_kindOf_36 : decode cX8_kindOf 36 = .ok (.invokevirtual 123, 3) := by decide +kernel
theorem dX8_kindOf_39 : decode cX8_kindOf 39 = .ok (.if_icmp .ne 7, 3) := by decide +kernel
theorem dX8_kindOf_42 : decode cX8_kindOf 42 = .ok (.iconst 2, 1) := by decide +kernel
theorem dX8_kindOf_43 : decode cX8_kindOf 43 = .ok (.goto 4, 3) := by decide +kernel
theorem dX8_kindOf_46 : decode cX8_kindOf 46 = .ok (.iconst 1, 1) := by decide +kernel
theorem dX8_kindOf_47 : decode cX8_kindOf 47 = .ok (.ireturn, 1) := by decide +kernel
theorem dX9_init_0 : decode cX9_init 0 = .ok (.aload_n 0, 1) := by decide +kernel
theorem dX9_init_1 : decode cX9_init 1 = .ok (.invokespecial 1, 3) := by decide +kernel
theorem dX9_init_4 : decode cX9_init 4 = .ok (.aload_n 0, 1) := by decide +kernel
theorem dX9_init_5 : decode cX9_init 5 = .ok (.bipush 24, 2) := by decide +kernel
theorem dX9_init_7 : decode cX9_init 7 = .ok (.newarray .byte, 2) := by decide +kernel
theorem dX9_init_9 : decode cX9_init 9 = .ok (.putfield 9, 3) := by decide +kernel
theorem dX9_init_12 : decode cX9_init 12 = .ok (.aload_n 0, 1) := by decide +kernel
theorem dX9_init_13 : decode cX9_init 13 = .ok (.sipush 192, 3) := by decide +kernel
theorem dX9_init_16 : decode cX9_init 16 = .ok (.newarray .byte, 2) := by decide +kernel
theorem dX9_init_18 : decode cX9_init 18 = .ok (.putfield 13, 3) := by decide +kernel
theorem dX9_init_21 : decode cX9_init 21 = .ok (.aload_n 0, 1) := by decide +kernel
theorem dX9_init_22 : decode cX9_init 22 = .ok (.sipush 720, 3) := by decide +kernel
theorem dX9_init_25 : decode cX9_init 25 = .ok (.newarray .byte, 2) := by decide +kernel
theorem dX9_init_27 : decode cX9_init 27 = .ok (.putfield 16, 3) := by decide +kernel
theorem dX9_init_30 : decode cX9_init 30 = .ok (.aload_n 0, 1) := by decide +kernel
theorem dX9_init_31 : decode cX9_init 31 = .ok (.bipush 8, 2) := by decide +kernel
theorem dX9_init_33 : decode cX9_init 33 = .ok (.newarray .int, 2) := by decide +kernel
theorem dX9_init_35 : decode cX9_init 35 = .ok (.putfield 19, 3) := by decide +kernel
theorem dX9_init_38 : decode cX9_init 38 = .ok (.aload_n 0, 1) := by decide +kernel
theorem dX9_init_39 : decode cX9_init 39 = .ok (.bipush 8, 2) := by decide +kernel
theorem dX9_init_41 : decode cX9_init 41 = .ok (.newarray .int, 2) := by decide +kernel
theorem dX9_init_43 : decode cX9_init 43 = .ok (.putfield 23, 3) := by decide +kernel
theorem dX9_init_46 : decode cX9_init 46 = .ok (.aload_n 0, 1) := by decide +kernel
theorem dX9_init_47 : decode cX9_init 47 = .ok (.bipush 30, 2) := by decide +kernel
theorem dX9_init_49 : decode cX9_init 49 = .ok (.newarray .int, 2) := by decide +kernel
theorem dX9_init_51 : decode cX9_init 51 = .ok (.putfield 26, 3) := by decide +kernel
theorem dX9_init_54 : decode cX9_init 54 = .ok (.aload_n 0, 1) := by decide +kernel
theorem dX9_init_55 : decode cX9_init 55 = .ok (.iconst 3, 1) := by decide +kernel
theorem dX9_init_56 : decode cX9_init 56 = .ok (.newarray .int, 2) := by decide +kernel
theorem dX9_init_58 : decode cX9_init 58 = .ok (.dup, 1) := by decide +kernel
theorem dX9_init_59 : decode cX9_init 59 = .ok (.iconst 0, 1) := by decide +kernel
theorem dX9_init_60 : decode cX9_init 60 = .ok (.bipush 20, 2) := by decide +kernel
theorem dX9_init_62 : decode cX9_init 62 = .ok (.iastore, 1) := by decide +kernel
theorem dX9_init_63 : decode cX9_init 63 = .ok (.dup, 1) := by decide +kernel
theorem dX9_init_64 : decode cX9_init 64 = .ok (.iconst 1, 1) := by decide +kernel
theorem dX9_init_65 : decode cX9_init 65 = .ok (.bipush 10, 2) := by decide +kernel
theorem dX9_init_67 : decode cX9_init 67 = .ok (.iastore, 1) := by decide +kernel
theorem dX9_init_68 : decode cX9_init 68 = .ok (.dup, 1) := by decide +kernel
theorem dX9_init_69 : decode cX9_init 69 = .ok (.iconst 2, 1) := by decide +kernel
theorem dX9_init_70 : decode cX9_init 70 = .ok (.iconst 5, 1) := by decide +kernel
theorem dX9_init_71 : decode cX9_init 71 = .ok (.iastore, 1) := by decide +kernel
theorem dX9_init_72 : decode cX9_init 72 = .ok (.putfield 29, 3) := by decide +kernel
theorem dX9_init_75 : decode cX9_init 75 = .ok (.aload_n 0, 1) := by decide +kernel
theorem dX9_init_76 : decode cX9_init 76 = .ok (.sipush 1950, 3) := by decide +kernel
theorem dX9_init_79 : decode cX9_init 79 = .ok (.putfield 32, 3) := by decide +kernel
theorem dX9_init_82 : decode cX9_init 82 = .ok (.aload_n 0, 1) := by decide +kernel
theorem dX9_init_83 : decode cX9_init 83 = .ok (.sipush 240, 3) := by decide +kernel
theorem dX9_init_86 : decode cX9_init 86 = .ok (.newarray .int, 2) := by decide +kernel
theorem dX9_init_88 : decode cX9_init 88 = .ok (.putfield 36, 3) := by decide +kernel
theorem dX9_init_91 : decode cX9_init 91 = .ok (.aload_n 0, 1) := by decide +kernel
theorem dX9_init_92 : decode cX9_init 92 = .ok (.sipush 240, 3) := by decide +kernel
theorem dX9_init_95 : decode cX9_init 95 = .ok (.newarray .int, 2) := by decide +kernel
theorem dX9_init_97 : decode cX9_init 97 = .ok (.putfield 39, 3) := by decide +kernel
theorem dX9_init_100 : decode cX9_init 100 = .ok (.aload_n 0, 1) := by decide +kernel
theorem dX9_init_101 : decode cX9_init 101 = .ok (.sipush 240, 3) := by decide +kernel
theorem dX9_init_104 : decode cX9_init 104 = .ok (.newarray .int, 2) := by decide +kernel
theorem dX9_init_106 : decode cX9_init 106 = .ok (.putfield 42, 3) := by decide +kernel
theorem dX9_init_109 : decode cX9_init 109 = .ok (.aload_n 0, 1) := by decide +kernel
theorem dX9_init_110 : decode cX9_init 110 = .ok (.sipush 240, 3) := by decide +kernel
theorem dX9_init_113 : decode cX9_init 113 = .ok (.newarray .int, 2) := by decide +kernel
theorem dX9_init_115 : decode cX9_init 115 = .ok (.putfield 45, 3) := by decide +kernel
theorem dX9_init_118 : decode cX9_init 118 = .ok (.aload_n 0, 1) := by decide +kernel
theorem dX9_init_119 : decode cX9_init 119 = .ok (.bipush 30, 2) := by decide +kernel
theorem dX9_init_121 : decode cX9_init 121 = .ok (.newarray .int, 2) := by decide +kernel
theorem dX9_init_123 : decode cX9_init 123 = .ok (.putfield 48, 3) := by decide +kernel
theorem dX9_init_126 : decode cX9_init 126 = .ok (.aload_n 0, 1) := by decide +kernel
theorem dX9_init_127 : decode cX9_init 127 = .ok (.sipush 200, 3) := by decide +kernel
theorem dX9_init_130 : decode cX9_init 130 = .ok (.newarray .byte, 2) := by decide +kernel
theorem dX9_init_132 : decode cX9_init 132 = .ok (.putfield 51, 3) := by decide +kernel
theorem dX9_init_135 : decode cX9_init 135 = .ok (.return_, 1) := by decide +kernel
theorem dX9_thrown_0 : decode cX9_thrown 0 = .ok (.aload_n 0, 1) := by decide +kernel
theorem dX9_thrown_1 : decode cX9_thrown 1 = .ok (.getfield 54, 3) := by decide +kernel
theorem dX9_thrown_4 : decode cX9_thrown 4 = .ok (.ireturn, 1) := by decide +kernel
theorem dX9_isIn_0 : decode cX9_isIn 0 = .ok (.iload_n 0, 1) := by decide +kernel
theorem dX9_isIn_1 : decode cX9_isIn 1 = .ok (.iload_n 1, 1) := by decide +kernel
theorem dX9_isIn_2 : decode cX9_isIn 2 = .ok (.if_icmp .lt 12, 3) := by decide +kernel
theorem dX9_isIn_5 : decode cX9_isIn 5 = .ok (.iload_n 0, 1) := by decide +kernel
theorem dX9_isIn_6 : decode cX9_isIn 6 = .ok (.iload_n 2, 1) := by decide +kernel
theorem dX9_isIn_7 : decode cX9_isIn 7 = .ok (.if_icmp .gt 7, 3) := by decide +kernel
theorem dX9_isIn_10 : decode cX9_isIn 10 = .ok (.iconst 1, 1) := by decide +kernel
theorem dX9_isIn_11 : decode cX9_isIn 11 = .ok (.goto 4, 3) := by decide +kernel
theorem dX9_isIn_14 : decode cX9_isIn 14 = .ok (.iconst 0, 1) := by decide +kernel
theorem dX9_isIn_15 : decode cX9_isIn 15 = .ok (.ireturn, 1) := by decide +kernel
theorem dX9_isLeap_0 : decode cX9_isLeap 0 = .ok (.iload_n 0, 1) := by decide +kernel
theorem dX9_isLeap_1 : decode cX9_isLeap 1 = .ok (.iconst 4, 1) := by decide +kernel
theorem dX9_isLeap_2 : decode cX9_isLeap 2 = .ok (.irem, 1) := by decide +kernel
theorem dX9_isLeap_3 : decode cX9_isLeap 3 = .ok (.ifCond .ne 10, 3) := by decide +kernel
theorem dX9_isLeap_6 : decode cX9_isLeap 6 = .ok (.iload_n 0, 1) := by decide +kernel
theorem dX9_isLeap_7 : decode cX9_isLeap 7 = .ok (.bipush 100, 2) := by decide +kernel
theorem dX9_isLeap_9 : decode cX9_isLeap 9 = .ok (.irem, 1) := by decide +kernel
theorem dX9_isLeap_10 : decode cX9_isLeap 10 = .ok (.ifCond .ne 11, 3) := by decide +kernel
theorem dX9_isLeap_13 : decode cX9_isLeap 13 = .ok (.iload_n 0, 1) := by decide +kernel
theorem dX9_isLeap_14 : decode cX9_isLeap 14 = .ok (.sipush 400, 3) := by decide +kernel
theorem dX9_isLeap_17 : decode cX9_isLeap 17 = .ok (.irem, 1) := by decide +kernel
theorem dX9_isLeap_18 : decode cX9_isLeap 18 = .ok (.ifCond .ne 7, 3) := by decide +kernel
theorem dX9_isLeap_21 : decode cX9_isLeap 21 = .ok (.iconst 1, 1) := by decide +kernel
theorem dX9_isLeap_22 : decode cX9_isLeap 22 = .ok (.goto 4, 3) := by decide +kernel
theorem dX9_isLeap_25 : decode cX9_isLeap 25 = .ok (.iconst 0, 1) := by decide +kernel
theorem dX9_isLeap_26 : decode cX9_isLeap 26 = .ok (.ireturn, 1) := by decide +kernel
set_option maxRecDepth 20000 in
theorem ggX9_daysOf_X9_isLeap : GoodIn wsX9_daysOf wsX9_isLeap := goodIn_r _ [4] (by decide +kernel) (by decide +kernel)
set_option maxRecDepth 20000 in
theorem gX9_daysOf_X9_isLeap : GoodIn wsX9_daysOf (va_wsS RX9 57 yX9_isLeap wsX9_isLeap) := goodIn_app (goodIn_of _ (by decide +kernel)) ggX9_daysOf_X9_isLeap
theorem dX9_daysOf_0 : decode cX9_daysOf 0 = .ok (.iload_n 0, 1) := by decide +kernel
theorem dX9_daysOf_1 : decode cX9_daysOf 1 = .ok (.iconst 2, 1) := by decide +kernel
theorem dX9_daysOf_2 : decode cX9_daysOf 2 = .ok (.if_icmp .ne 18, 3) := by decide +kernel
theorem dX9_daysOf_5 : decode cX9_daysOf 5 = .ok (.iload_n 1, 1) := by decide +kernel
theorem dX9_daysOf_6 : decode cX9_daysOf 6 = .ok (.invokestatic 57, 3) := by decide +kernel
theorem dX9_daysOf_9 : decode cX9_daysOf 9 = .ok (.ifCond .eq 8, 3) := by decide +kernel
theorem dX9_daysOf_12 : decode cX9_daysOf 12 = .ok (.bipush 29, 2) := by decide +kernel
theorem dX9_daysOf_14 : decode cX9_daysOf 14 = .ok (.goto 5, 3) := by decide +kernel
theorem dX9_daysOf_17 : decode cX9_daysOf 17 = .ok (.bipush 28, 2) := by decide +kernel
theorem dX9_daysOf_19 : decode cX9_daysOf 19 = .ok (.ireturn, 1) := by decide +kernel
theorem dX9_daysOf_20 : decode cX9_daysOf 20 = .ok (.iload_n 0, 1) := by decide +kernel
theorem dX9_daysOf_21 : decode cX9_daysOf 21 = .ok (.iconst 4, 1) := by decide +kernel
theorem dX9_daysOf_22 : decode cX9_daysOf 22 = .ok (.if_icmp .eq 21, 3) := by decide +kernel
theorem dX9_daysOf_25 : decode cX9_daysOf 25 = .ok (.iload_n 0, 1) := by decide +kernel
theorem dX9_daysOf_26 : decode cX9_daysOf 26 = .ok (.bipush 6, 2) := by decide +kernel
theorem dX9_daysOf_28 : decode cX9_daysOf 28 = .ok (.if_icmp .eq 15, 3) := by decide +kernel
theorem dX9_daysOf_31 : decode cX9_daysOf 31 = .ok (.iload_n 0, 1) := by decide +kernel
theorem dX9_daysOf_32 : decode cX9_daysOf 32 = .ok (.bipush 9, 2) := by decide +kernel
theorem dX9_daysOf_34 : decode cX9_daysOf 34 = .ok (.if_icmp .eq 9, 3) := by decide +kernel
theorem dX9_daysOf_37 : decode cX9_daysOf 37 = .ok (.iload_n 0, 1) := by decide +kernel
theorem dX9_daysOf_38 : decode cX9_daysOf 38 = .ok (.bipush 11, 2) := by decide +kernel
theorem dX9_daysOf_40 : decode cX9_daysOf 40 = .ok (.if_icmp .ne 8, 3) := by decide +kernel
theorem dX9_daysOf_43 : decode cX9_daysOf 43 = .ok (.bipush 30, 2) := by decide +kernel
theorem dX9_daysOf_45 : decode cX9_daysOf 45 = .ok (.goto 5, 3) := by decide +kernel
theorem dX9_daysOf_48 : decode cX9_daysOf 48 = .ok (.bipush 31, 2) := by decide +kernel
theorem dX9_daysOf_50 : decode cX9_daysOf 50 = .ok (.ireturn, 1) := by decide +kernel
set_option maxRecDepth 20000 in
theorem ggX9_isDate_X9_isIn : GoodIn wsX9_isDate wsX9_isIn := goodIn_r _ [4] (by decide +kernel) (by decide +kernel)
set_option maxRecDepth 20000 in
theorem gX9_isDate_X9_isIn : GoodIn wsX9_isDate (va_wsS RX9 61 yX9_isIn wsX9_isIn) := goodIn_app (goodIn_of _ (by decide +kernel)) ggX9_isDate_X9_isIn
set_option maxRecDepth 20000 in
theorem ggX9_isDate_X9_daysOf : GoodIn wsX9_isDate wsX9_daysOf := goodIn_r _ [7, 8, 9, 3, 10] (by decide +kernel) (by decide +kernel)
set_option maxRecDepth 20000 in
theorem gX9_isDate_X9_daysOf : GoodIn wsX9_isDate (va_wsS RX9 65 yX9_daysOf wsX9_daysOf) := goodIn_app (goodIn_of _ (by decide +kernel)) ggX9_isDate_X9_daysOf
theorem dX9_isDate_0 : decode cX9_isDate 0 = .ok (.iload_n 2, 1) := by decide +kernel
theorem dX9_isDate_1 : decode cX9_isDate 1 = .ok (.sipush 1900, 3) := by decide +kernel
theorem dX9_isDate_4 : decode cX9_isDate 4 = .ok (.sipush 2199, 3) := by decide +kernel
theorem dX9_isDate_7 : decode cX9_isDate 7 = .ok (.invokestatic 61, 3) := by decide +kernel
theorem dX9_isDate_10 : decode cX9_isDate 10 = .ok (.ifCond .eq 30, 3) := by decide +kernel
theorem dX9_isDate_13 : decode cX9_isDate 13 = .ok (.iload_n 1, 1) := by decide +kernel
theorem dX9_isDate_14 : decode cX9_isDate 14 = .ok (.iconst 1, 1) := by decide +kernel
theorem dX9_isDate_15 : decode cX9_isDate 15 = .ok (.bipush 12, 2) := by decide +kernel
theorem dX9_isDate_17 : decode cX9_isDate 17 = .ok (.invokestatic 61, 3) := by decide +kernel
theorem dX9_isDate_20 : decode cX9_isDate 20 = .ok (.ifCond .eq 20, 3) := by decide +kernel
theorem dX9_isDate_23 : decode cX9_isDate 23 = .ok (.iload_n 0, 1) := by decide +kernel
theorem dX9_isDate_24 : decode cX9_isDate 24 = .ok (.iconst 1, 1) := by decide +kernel
theorem dX9_isDate_25 : decode cX9_isDate 25 = .ok (.iload_n 1, 1) := by decide +kernel
theorem dX9_isDate_26 : decode cX9_isDate 26 = .ok (.iload_n 2, 1) := by decide +kernel
theorem dX9_isDate_27 : decode cX9_isDate 27 = .ok (.invokestatic 65, 3) := by decide +kernel
theorem dX9_isDate_30 : decode cX9_isDate 30 = .ok (.invokestatic 61, 3) := by decide +kernel
theorem dX9_isDate_33 : decode cX9_isDate 33 = .ok (.ifCond .eq 7, 3) := by decide +kernel
theorem dX9_isDate_36 : decode cX9_isDate 36 = .ok (.iconst 1, 1) := by decide +kernel
theorem dX9_isDate_37 : decode cX9_isDate 37 = .ok (.goto 4, 3) := by decide +kernel
theorem dX9_isDate_40 : decode cX9_isDate 40 = .ok (.iconst 0, 1) := by decide +kernel
theorem dX9_isDate_41 : decode cX9_isDate 41 = .ok (.ireturn, 1) := by decide +kernel
set_option maxRecDepth 20000 in
theorem ggX9_numberOf_X9_isLeap : GoodIn wsX9_numberOf wsX9_isLeap := goodIn_r _ [4] (by decide +kernel) (by decide +kernel)
set_option maxRecDepth 20000 in
theorem gX9_numberOf_X9_isLeap : GoodIn wsX9_numberOf (va_wsS RX9 57 yX9_isLeap wsX9_isLeap) := goodIn_app (goodIn_of _ (by decide +kernel)) ggX9_numberOf_X9_isLeap
set_option maxRecDepth 20000 in
theorem ggX9_numberOf_X9_daysOf : GoodIn wsX9_numberOf wsX9_daysOf := goodIn_r _ [7, 1, 2, 3, 4] (by decide +kernel) (by decide +kernel)
set_option maxRecDepth 20000 in
theorem gX9_numberOf_X9_daysOf : GoodIn wsX9_numberOf (va_wsS RX9 65 yX9_daysOf wsX9_daysOf) := goodIn_app (goodIn_of _ (by decide +kernel)) ggX9_numberOf_X9_daysOf
theorem dX9_numberOf_0 : decode cX9_numberOf 0 = .ok (.iload_n 0, 1) := by decide +kernel
theorem dX9_numberOf_1 : decode cX9_numberOf 1 = .ok (.iconst 1, 1) := by decide +kernel
theorem dX9_numberOf_2 : decode cX9_numberOf 2 = .ok (.isub, 1) := by decide +kernel
theorem dX9_numberOf_3 : decode cX9_numberOf 3 = .ok (.istore_n 3, 1) := by decide +kernel
theorem dX9_numberOf_4 : decode cX9_numberOf 4 = .ok (.sipush 1900, 3) := by decide +kernel
theorem dX9_numberOf_7 : decode cX9_numberOf 7 = .ok (.istore 4, 2) := by decide +kernel
theorem dX9_numberOf_9 : decode cX9_numberOf 9 = .ok (.iload 4, 2) := by decide +kernel
theorem dX9_numberOf_11 : decode cX9_numberOf 11 = .ok (.iload_n 2, 1) := by decide +kernel
theorem dX9_numberOf_12 : decode cX9_numberOf 12 = .ok (.if_icmp .ge 29, 3) := by decide +kernel
theorem dX9_numberOf_15 : decode cX9_numberOf 15 = .ok (.iload_n 3, 1) := by decide +kernel
theorem dX9_numberOf_16 : decode cX9_numberOf 16 = .ok (.iload 4, 2) := by decide +kernel
theorem dX9_numberOf_18 : decode cX9_numberOf 18 = .ok (.invokestatic 57, 3) := by decide +kernel
theorem dX9_numberOf_21 : decode cX9_numberOf 21 = .ok (.ifCond .eq 9, 3) := by decide +kernel
theorem dX9_numberOf_24 : decode cX9_numberOf 24 = .ok (.sipush 366, 3) := by decide +kernel
theorem dX9_numberOf_27 : decode cX9_numberOf 27 = .ok (.goto 6, 3) := by decide +kernel
theorem dX9_numberOf_30 : decode cX9_numberOf 30 = .ok (.sipush 365, 3) := by decide +kernel
theorem dX9_numberOf_33 : decode cX9_numberOf 33 = .ok (.iadd, 1) := by decide +kernel
theorem dX9_numberOf_34 : decode cX9_numberOf 34 = .ok (.istore_n 3, 1) := by decide +kernel
theorem dX9_numberOf_35 : decode cX9_numberOf 35 = .ok (.iinc 4 1, 3) := by decide +kernel
theorem dX9_numberOf_38 : decode cX9_numberOf 38 = .ok (.goto (-29), 3) := by decide +kernel
theorem dX9_numberOf_41 : decode cX9_numberOf 41 = .ok (.iconst 1, 1) := by decide +kernel
theorem dX9_numberOf_42 : decode cX9_numberOf 42 = .ok (.istore 4, 2) := by decide +kernel
theorem dX9_numberOf_44 : decode cX9_numberOf 44 = .ok (.iload 4, 2) := by decide +kernel
theorem dX9_numberOf_46 : decode cX9_numberOf 46 = .ok (.iload_n 1, 1) := by decide +kernel
theorem dX9_numberOf_47 : decode cX9_numberOf 47 = .ok (.if_icmp .ge 18, 3) := by decide +kernel
theorem dX9_numberOf_50 : decode cX9_numberOf 50 = .ok (.iload_n 3, 1) := by decide +kernel
theorem dX9_numberOf_51 : decode cX9_numberOf 51 = .ok (.iload 4, 2) := by decide +kernel
theorem dX9_numberOf_53 : decode cX9_numberOf 53 = .ok (.iload_n 2, 1) := by decide +kernel
theorem dX9_numberOf_54 : decode cX9_numberOf 54 = .ok (.invokestatic 65, 3) := by decide +kernel
theorem dX9_numberOf_57 : decode cX9_numberOf 57 = .ok (.iadd, 1) := by decide +kernel
theorem dX9_numberOf_58 : decode cX9_numberOf 58 = .ok (.istore_n 3, 1) := by decide +kernel
theorem dX9_numberOf_59 : decode cX9_numberOf 59 = .ok (.iinc 4 1, 3) := by decide +kernel
theorem dX9_numberOf_62 : decode cX9_numberOf 62 = .ok (.goto (-18), 3) := by decide +kernel
theorem dX9_numberOf_65 : decode cX9_numberOf 65 = .ok (.iload_n 3, 1) := by decide +kernel
theorem dX9_numberOf_66 : decode cX9_numberOf 66 = .ok (.ireturn, 1) := by decide +kernel
set_option maxRecDepth 20000 in
theorem ggX9_number_X9_isDate : GoodIn wsX9_number wsX9_isDate := goodIn_r _ [5, 6, 7, 4, 8, 9, 10, 11, 12, 13, 14] (by decide +kernel) (by decide +kernel)
set_option maxRecDepth 20000 in
theorem gX9_number_X9_isDate : GoodIn wsX9_number (va_wsS RX9 69 yX9_isDate wsX9_isDate) := goodIn_app (goodIn_of _ (by decide +kernel)) ggX9_number_X9_isDate
set_option maxRecDepth 20000 in
theorem ggX9_number_X9_numberOf : GoodIn wsX9_number wsX9_numberOf := goodIn_r _ [17, 12, 13, 4, 14, 9, 10, 11] (by decide +kernel) (by decide +kernel)
set_option maxRecDepth 20000 in
theorem gX9_number_X9_numberOf : GoodIn wsX9_number (va_wsS RX9 72 yX9_numberOf wsX9_numberOf) := goodIn_app (goodIn_of _ (by decide +kernel)) ggX9_number_X9_numberOf
theorem dX9_number_0 : decode cX9_number 0 = .ok (.aload_n 0, 1) := by decide +kernel
theorem dX9_number_1 : decode cX9_number 1 = .ok (.iconst 0, 1) := by decide +kernel
theorem dX9_number_2 : decode cX9_number 2 = .ok (.putfield 54, 3) := by decide +kernel
theorem dX9_number_5 : decode cX9_number 5 = .ok (.iload_n 1, 1) := by decide +kernel
theorem dX9_number_6 : decode cX9_number 6 = .ok (.iload_n 2, 1) := by decide +kernel
theorem dX9_number_7 : decode cX9_number 7 = .ok (.iload_n 3, 1) := by decide +kernel
theorem dX9_number_8 : decode cX9_number 8 = .ok (.invokestatic 69, 3) := by decide +kernel
theorem dX9_number_11 : decode cX9_number 11 = .ok (.ifCond .eq 12, 3) := by decide +kernel
theorem dX9_number_14 : decode cX9_number 14 = .ok (.iload_n 1, 1) := by decide +kernel
theorem dX9_number_15 : decode cX9_number 15 = .ok (.iload_n 2, 1) := by decide +kernel
theorem dX9_number_16 : decode cX9_number 16 = .ok (.iload_n 3, 1) := by decide +kernel
theorem dX9_number_17 : decode cX9_number 17 = .ok (.invokestatic 72, 3) := by decide +kernel
theorem dX9_number_20 : decode cX9_number 20 = .ok (.goto 4, 3) := by decide +kernel
theorem dX9_number_23 : decode cX9_number 23 = .ok (.iconst (-1), 1) := by decide +kernel
theorem dX9_number_24 : decode cX9_number 24 = .ok (.ireturn, 1) := by decide +kernel
set_option maxRecDepth 20000 in
theorem ggX9_split_X9_isLeap : GoodIn wsX9_split wsX9_isLeap := goodIn_r _ [7] (by decide +kernel) (by decide +kernel)
set_option maxRecDepth 20000 in
theorem gX9_split_X9_isLeap : GoodIn wsX9_split (va_wsS RX9 57 yX9_isLeap wsX9_isLeap) := goodIn_app (goodIn_of _ (by decide +kernel)) ggX9_split_X9_isLeap
set_option maxRecDepth 20000 in
theorem ggX9_split_X9_daysOf : GoodIn wsX9_split wsX9_daysOf := goodIn_r _ [10, 4, 5, 6, 7] (by decide +kernel) (by decide +kernel)
set_option maxRecDepth 20000 in
theorem gX9_split_X9_daysOf : GoodIn wsX9_split (va_wsS RX9 65 yX9_daysOf wsX9_daysOf) := goodIn_app (goodIn_of _ (by decide +kernel)) ggX9_split_X9_daysOf
theorem dX9_split_0 : decode cX9_split 0 = .ok (.aload_n 0, 1) := by decide +kernel
theorem dX9_split_1 : decode cX9_split 1 = .ok (.sipush 1900, 3) := by decide +kernel
theorem dX9_split_4 : decode cX9_split 4 = .ok (.putfield 76, 3) := by decide +kernel
theorem dX9_split_7 : decode cX9_split 7 = .ok (.iload_n 1, 1) := by decide +kernel
theorem dX9_split_8 : decode cX9_split 8 = .ok (.istore_n 2, 1) := by decide +kernel
theorem dX9_split_9 : decode cX9_split 9 = .ok (.iload_n 2, 1) := by decide +kernel
theorem dX9_split_10 : decode cX9_split 10 = .ok (.aload_n 0, 1) := by decide +kernel
theorem dX9_split_11 : decode cX9_split 11 = .ok (.getfield 76, 3) := by decide +kernel
theorem dX9_split_14 : decode cX9_split 14 = .ok (.invokestatic 57, 3) := by decide +kernel
theorem dX9_split_17 : decode cX9_split 17 = .ok (.ifCond .eq 9, 3) := by decide +kernel
theorem dX9_split_20 : decode cX9_split 20 = .ok (.sipush 366, 3) := by decide +kernel
theorem dX9_split_23 : decode cX9_split 23 = .ok (.goto 6, 3) := by decide +kernel
theorem dX9_split_26 : decode cX9_split 26 = .ok (.sipush 365, 3) := by decide +kernel
theorem dX9_split_29 : decode cX9_split 29 = .ok (.if_icmp .lt 38, 3) := by decide +kernel
theorem dX9_split_32 : decode cX9_split 32 = .ok (.iload_n 2, 1) := by decide +kernel
theorem dX9_split_33 : decode cX9_split 33 = .ok (.aload_n 0, 1) := by decide +kernel
theorem dX9_split_34 : decode cX9_split 34 = .ok (.getfield 76, 3) := by decide +kernel
theorem dX9_split_37 : decode cX9_split 37 = .ok (.invokestatic 57, 3) := by decide +kernel
theorem dX9_split_40 : decode cX9_split 40 = .ok (.ifCond .eq 9, 3) := by decide +kernel
theorem dX9_split_43 : decode cX9_split 43 = .ok (.sipush 366, 3) := by decide +kernel
theorem dX9_split_46 : decode cX9_split 46 = .ok (.goto 6, 3) := by decide +kernel
theorem dX9_split_49 : decode cX9_split 49 = .ok (.sipush 365, 3) := by decide +kernel
theorem dX9_split_52 : decode cX9_split 52 = .ok (.isub, 1) := by decide +kernel
theorem dX9_split_53 : decode cX9_split 53 = .ok (.istore_n 2, 1) := by decide +kernel
theorem dX9_split_54 : decode cX9_split 54 = .ok (.aload_n 0, 1) := by decide +kernel
theorem dX9_split_55 : decode cX9_split 55 = .ok (.dup, 1) := by decide +kernel
theorem dX9_split_56 : decode cX9_split 56 = .ok (.getfield 76, 3) := by decide +kernel
theorem dX9_split_59 : decode cX9_split 59 = .ok (.iconst 1, 1) := by decide +kernel
theorem dX9_split_60 : decode cX9_split 60 = .ok (.iadd, 1) := by decide +kernel
theorem dX9_split_61 : decode cX9_split 61 = .ok (.putfield 76, 3) := by decide +kernel
theorem dX9_split_64 : decode cX9_split 64 = .ok (.goto (-55), 3) := by decide +kernel
theorem dX9_split_67 : decode cX9_split 67 = .ok (.aload_n 0, 1) := by decide +kernel
theorem dX9_split_68 : decode cX9_split 68 = .ok (.iconst 1, 1) := by decide +kernel
theorem dX9_split_69 : decode cX9_split 69 = .ok (.putfield 79, 3) := by decide +kernel
theorem dX9_split_72 : decode cX9_split 72 = .ok (.iload_n 2, 1) := by decide +kernel
theorem dX9_split_73 : decode cX9_split 73 = .ok (.aload_n 0, 1) := by decide +kernel
theorem dX9_split_74 : decode cX9_split 74 = .ok (.getfield 79, 3) := by decide +kernel
theorem dX9_split_77 : decode cX9_split 77 = .ok (.aload_n 0, 1) := by decide +kernel
theorem dX9_split_78 : decode cX9_split 78 = .ok (.getfield 76, 3) := by decide +kernel
theorem dX9_split_81 : decode cX9_split 81 = .ok (.invokestatic 65, 3) := by decide +kernel
theorem dX9_split_84 : decode cX9_split 84 = .ok (.if_icmp .lt 30, 3) := by decide +kernel
theorem dX9_split_87 : decode cX9_split 87 = .ok (.iload_n 2, 1) := by decide +kernel
theorem dX9_split_88 : decode cX9_split 88 = .ok (.aload_n 0, 1) := by decide +kernel
theorem dX9_split_89 : decode cX9_split 89 = .ok (.getfield 79, 3) := by decide +kernel
theorem dX9_split_92 : decode cX9_split 92 = .ok (.aload_n 0, 1) := by decide +kernel
theorem dX9_split_93 : decode cX9_split 93 = .ok (.getfield 76, 3) := by decide +kernel
theorem dX9_split_96 : decode cX9_split 96 = .ok (.invokestatic 65, 3) := by decide +kernel
theorem dX9_split_99 : decode cX9_split 99 = .ok (.isub, 1) := by decide +kernel
theorem dX9_split_100 : decode cX9_split 100 = .ok (.istore_n 2, 1) := by decide +kernel
theorem dX9_split_101 : decode cX9_split 101 = .ok (.aload_n 0, 1) := by decide +kernel
theorem dX9_split_102 : decode cX9_split 102 = .ok (.dup, 1) := by decide +kernel
theorem dX9_split_103 : decode cX9_split 103 = .ok (.getfield 79, 3) := by decide +kernel
theorem dX9_split_106 : decode cX9_split 106 = .ok (.iconst 1, 1) := by decide +kernel
theorem dX9_split_107 : decode cX9_split 107 = .ok (.iadd, 1) := by decide +kernel
theorem dX9_split_108 : decode cX9_split 108 = .ok (.putfield 79, 3) := by decide +kernel
theorem dX9_split_111 : decode cX9_split 111 = .ok (.goto (-39), 3) := by decide +kernel
theorem dX9_split_114 : decode cX9_split 114 = .ok (.aload_n 0, 1) := by decide +kernel
theorem dX9_split_115 : decode cX9_split 115 = .ok (.iload_n 2, 1) := by decide +kernel
theorem dX9_split_116 : decode cX9_split 116 = .ok (.iconst 1, 1) := by decide +kernel
theorem dX9_split_117 : decode cX9_split 117 = .ok (.iadd, 1) := by decide +kernel
theorem dX9_split_118 : decode cX9_split 118 = .ok (.putfield 82, 3) := by decide +kernel
theorem dX9_split_121 : decode cX9_split 121 = .ok (.return_, 1) := by decide +kernel
set_option maxRecDepth 20000 in
theorem ggX9_isDay_X9_isIn : GoodIn wsX9_isDay wsX9_isIn := goodIn_r _ [5] (by decide +kernel) (by decide +kernel)
set_option maxRecDepth 20000 in
theorem gX9_isDay_X9_isIn : GoodIn wsX9_isDay (va_wsS RX9 61 yX9_isIn wsX9_isIn) := goodIn_app (goodIn_of _ (by decide +kernel)) ggX9_isDay_X9_isIn
theorem dX9_isDay_0 : decode cX9_isDay 0 = .ok (.iload_n 0, 1) := by decide +kernel
theorem dX9_isDay_1 : decode cX9_isDay 1 = .ok (.iconst 0, 1) := by decide +kernel
theorem dX9_isDay_2 : decode cX9_isDay 2 = .ok (.ldc 85, 2) := by decide +kernel
theorem dX9_isDay_4 : decode cX9_isDay 4 = .ok (.invokestatic 61, 3) := by decide +kernel
theorem dX9_isDay_7 : decode cX9_isDay 7 = .ok (.ireturn, 1) := by decide +kernel
set_option maxRecDepth 20000 in
theorem ggX9_part_X9_isDay : GoodIn wsX9_part wsX9_isDay := goodIn_r _ [8, 9, 10, 11, 7, 12] (by decide +kernel) (by decide +kernel)
set_option maxRecDepth 20000 in
theorem gX9_part_X9_isDay : GoodIn wsX9_part (va_wsS RX9 86 yX9_isDay wsX9_isDay) := goodIn_app (goodIn_of _ (by decide +kernel)) ggX9_part_X9_isDay
set_option maxRecDepth 20000 in
theorem ggX9_part_X9_isIn : GoodIn wsX9_part wsX9_isIn := goodIn_r _ [12] (by decide +kernel) (by decide +kernel)
set_option maxRecDepth 20000 in
theorem gX9_part_X9_isIn : GoodIn wsX9_part (va_wsS RX9 61 yX9_isIn wsX9_isIn) := goodIn_app (goodIn_of _ (by decide +kernel)) ggX9_part_X9_isIn
set_option maxRecDepth 20000 in
theorem ggX9_part_X9_split : GoodIn wsX9_part wsX9_split := goodIn_r _ [16, 4, 3, 2, 17, 18, 7, 19, 20, 21, 22, 23, 24, 25, 26, 27, 28, 29, 30, 31, 32, 33, 34, 35, 36, 37, 38, 39, 40, 41, 42, 43, 44, 45, 46, 47, 48, 49] (by decide +kernel) (by decide +kernel)
set_option maxRecDepth 20000 in
theorem gX9_part_X9_split : GoodIn wsX9_part (wsV RX9 89 RX9 yX9_split wsX9_split) := goodIn_app (goodIn_of _ (by decide +kernel)) ggX9_part_X9_split
theorem dX9_part_0 : decode cX9_part 0 = .ok (.aload_n 0, 1) := by decide +kernel
theorem dX9_part_1 : decode cX9_part 1 = .ok (.iload_n 1, 1) := by decide +kernel
theorem dX9_part_2 : decode cX9_part 2 = .ok (.invokestatic 86, 3) := by decide +kernel
theorem dX9_part_5 : decode cX9_part 5 = .ok (.ifCond .eq 16, 3) := by decide +kernel
theorem dX9_part_8 : decode cX9_part 8 = .ok (.iload_n 2, 1) := by decide +kernel
theorem dX9_part_9 : decode cX9_part 9 = .ok (.iconst 0, 1) := by decide +kernel
theorem dX9_part_10 : decode cX9_part 10 = .ok (.iconst 3, 1) := by decide +kernel
theorem dX9_part_11 : decode cX9_part 11 = .ok (.invokestatic 61, 3) := by decide +kernel
theorem dX9_part_14 : decode cX9_part 14 = .ok (.ifCond .eq 7, 3) := by decide +kernel
theorem dX9_part_17 : decode cX9_part 17 = .ok (.iconst 0, 1) := by decide +kernel
theorem dX9_part_18 : decode cX9_part 18 = .ok (.goto 4, 3) := by decide +kernel
theorem dX9_part_21 : decode cX9_part 21 = .ok (.iconst 1, 1) := by decide +kernel
theorem dX9_part_22 : decode cX9_part 22 = .ok (.putfield 54, 3) := by decide +kernel
theorem dX9_part_25 : decode cX9_part 25 = .ok (.aload_n 0, 1) := by decide +kernel
theorem dX9_part_26 : decode cX9_part 26 = .ok (.getfield 54, 3) := by decide +kernel
theorem dX9_part_29 : decode cX9_part 29 = .ok (.ifCond .le 5, 3) := by decide +kernel
theorem dX9_part_32 : decode cX9_part 32 = .ok (.iconst 0, 1) := by decide +kernel
theorem dX9_part_33 : decode cX9_part 33 = .ok (.ireturn, 1) := by decide +kernel
theorem dX9_part_34 : decode cX9_part 34 = .ok (.aload_n 0, 1) := by decide +kernel
theorem dX9_part_35 : decode cX9_part 35 = .ok (.iload_n 1, 1) := by decide +kernel
theorem dX9_part_36 : decode cX9_part 36 = .ok (.invokevirtual 89, 3) := by decide +kernel
theorem dX9_part_39 : decode cX9_part 39 = .ok (.iload_n 2, 1) := by decide +kernel
theorem dX9_part_40 : decode cX9_part 40 = .ok (.ifCond .ne 10, 3) := by decide +kernel
theorem dX9_part_43 : decode cX9_part 43 = .ok (.aload_n 0, 1) := by decide +kernel
theorem dX9_part_44 : decode cX9_part 44 = .ok (.getfield 82, 3) := by decide +kernel
theorem dX9_part_47 : decode cX9_part 47 = .ok (.goto 31, 3) := by decide +kernel
theorem dX9_part_50 : decode cX9_part 50 = .ok (.iload_n 2, 1) := by decide +kernel
theorem dX9_part_51 : decode cX9_part 51 = .ok (.iconst 1, 1) := by decide +kernel
theorem dX9_part_52 : decode cX9_part 52 = .ok (.if_icmp .ne 10, 3) := by decide +kernel
theorem dX9_part_55 : decode cX9_part 55 = .ok (.aload_n 0, 1) := by decide +kernel
theorem dX9_part_56 : decode cX9_part 56 = .ok (.getfield 79, 3) := by decide +kernel
theorem dX9_part_59 : decode cX9_part 59 = .ok (.goto 19, 3) := by decide +kernel
theorem dX9_part_62 : decode cX9_part 62 = .ok (.iload_n 2, 1) := by decide +kernel
theorem dX9_part_63 : decode cX9_part 63 = .ok (.iconst 2, 1) := by decide +kernel
theorem dX9_part_64 : decode cX9_part 64 = .ok (.if_icmp .ne 10, 3) := by decide +kernel
theorem dX9_part_67 : decode cX9_part 67 = .ok (.aload_n 0, 1) := by decide +kernel
theorem dX9_part_68 : decode cX9_part 68 = .ok (.getfield 76, 3) := by decide +kernel
theorem dX9_part_71 : decode cX9_part 71 = .ok (.goto 7, 3) := by decide +kernel
theorem dX9_part_74 : decode cX9_part 74 = .ok (.iload_n 1, 1) := by decide +kernel
theorem dX9_part_75 : decode cX9_part 75 = .ok (.bipush 7, 2) := by decide +kernel
theorem dX9_part_77 : decode cX9_part 77 = .ok (.irem, 1) := by decide +kernel
theorem dX9_part_78 : decode cX9_part 78 = .ok (.ireturn, 1) := by decide +kernel
theorem dX9_bytesIn_0 : decode cX9_bytesIn 0 = .ok (.iconst 0, 1) := by decide +kernel
theorem dX9_bytesIn_1 : decode cX9_bytesIn 1 = .ok (.istore_n 1, 1) := by decide +kernel
theorem dX9_bytesIn_2 : decode cX9_bytesIn 2 = .ok (.bipush 24, 2) := by decide +kernel
theorem dX9_bytesIn_4 : decode cX9_bytesIn 4 = .ok (.istore_n 2, 1) := by decide +kernel
theorem dX9_bytesIn_5 : decode cX9_bytesIn 5 = .ok (.iload_n 2, 1) := by decide +kernel
theorem dX9_bytesIn_6 : decode cX9_bytesIn 6 = .ok (.ifCond .lt 27, 3) := by decide +kernel
theorem dX9_bytesIn_9 : decode cX9_bytesIn 9 = .ok (.iload_n 1, 1) := by decide +kernel
theorem dX9_bytesIn_10 : decode cX9_bytesIn 10 = .ok (.iload_n 0, 1) := by decide +kernel
theorem dX9_bytesIn_11 : decode cX9_bytesIn 11 = .ok (.iload_n 2, 1) := by decide +kernel
theorem dX9_bytesIn_12 : decode cX9_bytesIn 12 = .ok (.ishr, 1) := by decide +kernel
theorem dX9_bytesIn_13 : decode cX9_bytesIn 13 = .ok (.sipush 255, 3) := by decide +kernel
theorem dX9_bytesIn_16 : decode cX9_bytesIn 16 = .ok (.iand, 1) := by decide +kernel
theorem dX9_bytesIn_17 : decode cX9_bytesIn 17 = .ok (.ifCond .eq 7, 3) := by decide +kernel
theorem dX9_bytesIn_20 : decode cX9_bytesIn 20 = .ok (.iconst 1, 1) := by decide +kernel
theorem dX9_bytesIn_21 : decode cX9_bytesIn 21 = .ok (.goto 4, 3) := by decide +kernel
theorem dX9_bytesIn_24 : decode cX9_bytesIn 24 = .ok (.iconst 0, 1) := by decide +kernel
theorem dX9_bytesIn_25 : decode cX9_bytesIn 25 = .ok (.iadd, 1) := by decide +kernel
theorem dX9_bytesIn_26 : decode cX9_bytesIn 26 = .ok (.istore_n 1, 1) := by decide +kernel
theorem dX9_bytesIn_27 : decode cX9_bytesIn 27 = .ok (.iinc 2 (-8), 3) := by decide +kernel
theorem dX9_bytesIn_30 : decode cX9_bytesIn 30 = .ok (.goto (-25), 3) := by decide +kernel
theorem dX9_bytesIn_33 : decode cX9_bytesIn 33 = .ok (.iload_n 1, 1) := by decide +kernel
theorem dX9_bytesIn_34 : decode cX9_bytesIn 34 = .ok (.ireturn, 1) := by decide +kernel
theorem dX9_put_0 : decode cX9_put 0 = .ok (.bipush 24, 2) := by decide +kernel
theorem dX9_put_2 : decode cX9_put 2 = .ok (.istore_n 2, 1) := by decide +kernel
theorem dX9_put_3 : decode cX9_put 3 = .ok (.iload_n 2, 1) := by decide +kernel
theorem dX9_put_4 : decode cX9_put 4 = .ok (.ifCond .lt 45, 3) := by decide +kernel
theorem dX9_put_7 : decode cX9_put 7 = .ok (.iload_n 1, 1) := by decide +kernel
theorem dX9_put_8 : decode cX9_put 8 = .ok (.iload_n 2, 1) := by decide +kernel
theorem dX9_put_9 : decode cX9_put 9 = .ok (.ishr, 1) := by decide +kernel
theorem dX9_put_10 : decode cX9_put 10 = .ok (.sipush 255, 3) := by decide +kernel
theorem dX9_put_13 : decode cX9_put 13 = .ok (.iand, 1) := by decide +kernel
theorem dX9_put_14 : decode cX9_put 14 = .ok (.ifCond .ne 6, 3) := by decide +kernel
theorem dX9_put_17 : decode cX9_put 17 = .ok (.goto 26, 3) := by decide +kernel
theorem dX9_put_20 : decode cX9_put 20 = .ok (.aload_n 0, 1) := by decide +kernel
theorem dX9_put_21 : decode cX9_put 21 = .ok (.getfield 9, 3) := by decide +kernel
theorem dX9_put_24 : decode cX9_put 24 = .ok (.aload_n 0, 1) := by decide +kernel
theorem dX9_put_25 : decode cX9_put 25 = .ok (.getfield 93, 3) := by decide +kernel
theorem dX9_put_28 : decode cX9_put 28 = .ok (.iload_n 1, 1) := by decide +kernel
theorem dX9_put_29 : decode cX9_put 29 = .ok (.iload_n 2, 1) := by decide +kernel
theorem dX9_put_30 : decode cX9_put 30 = .ok (.ishr, 1) := by decide +kernel
theorem dX9_put_31 : decode cX9_put 31 = .ok (.i2b, 1) := by decide +kernel
theorem dX9_put_32 : decode cX9_put 32 = .ok (.bastore, 1) := by decide +kernel
theorem dX9_put_33 : decode cX9_put 33 = .ok (.aload_n 0, 1) := by decide +kernel
theorem dX9_put_34 : decode cX9_put 34 = .ok (.dup, 1) := by decide +kernel
theorem dX9_put_35 : decode cX9_put 35 = .ok (.getfield 93, 3) := by decide +kernel
theorem dX9_put_38 : decode cX9_put 38 = .ok (.iconst 1, 1) := by decide +kernel
theorem dX9_put_39 : decode cX9_put 39 = .ok (.iadd, 1) := by decide +kernel
theorem dX9_put_40 : decode cX9_put 40 = .ok (.putfield 93, 3) := by decide +kernel
theorem dX9_put_43 : decode cX9_put 43 = .ok (.iinc 2 (-8), 3) := by decide +kernel
theorem dX9_put_46 : decode cX9_put 46 = .ok (.goto (-43), 3) := by decide +kernel
theorem dX9_put_49 : decode cX9_put 49 = .ok (.return_, 1) := by decide +kernel
set_option maxRecDepth 20000 in
theorem ggX9_feed_X9_bytesIn : GoodIn wsX9_feed wsX9_bytesIn := goodIn_r _ [6] (by decide +kernel) (by decide +kernel)
set_option maxRecDepth 20000 in
theorem gX9_feed_X9_bytesIn : GoodIn wsX9_feed (va_wsS RX9 96 yX9_bytesIn wsX9_bytesIn) := goodIn_app (goodIn_of _ (by decide +kernel)) ggX9_feed_X9_bytesIn
set_option maxRecDepth 20000 in
theorem ggX9_feed_X9_put : GoodIn wsX9_feed wsX9_put := goodIn_r _ [10, 11, 2, 12, 13, 14, 15, 16, 17, 18, 19, 20, 21, 22, 23, 24, 25, 26, 27, 28, 29, 30, 31, 32, 33, 34, 35, 36, 37, 38] (by decide +kernel) (by decide +kernel)
set_option maxRecDepth 20000 in
theorem gX9_feed_X9_put : GoodIn wsX9_feed (wsV RX9 100 RX9 yX9_put wsX9_put) := goodIn_app (goodIn_of _ (by decide +kernel)) ggX9_feed_X9_put
theorem dX9_feed_0 : decode cX9_feed 0 = .ok (.aload_n 0, 1) := by decide +kernel
theorem dX9_feed_1 : decode cX9_feed 1 = .ok (.iconst 0, 1) := by decide +kernel
theorem dX9_feed_2 : decode cX9_feed 2 = .ok (.putfield 54, 3) := by decide +kernel
theorem dX9_feed_5 : decode cX9_feed 5 = .ok (.aload_n 0, 1) := by decide +kernel
theorem dX9_feed_6 : decode cX9_feed 6 = .ok (.getfield 93, 3) := by decide +kernel
theorem dX9_feed_9 : decode cX9_feed 9 = .ok (.iload_n 1, 1) := by decide +kernel
theorem dX9_feed_10 : decode cX9_feed 10 = .ok (.invokestatic 96, 3) := by decide +kernel
theorem dX9_feed_13 : decode cX9_feed 13 = .ok (.iadd, 1) := by decide +kernel
theorem dX9_feed_14 : decode cX9_feed 14 = .ok (.iload_n 2, 1) := by decide +kernel
theorem dX9_feed_15 : decode cX9_feed 15 = .ok (.invokestatic 96, 3) := by decide +kernel
theorem dX9_feed_18 : decode cX9_feed 18 = .ok (.iadd, 1) := by decide +kernel
theorem dX9_feed_19 : decode cX9_feed 19 = .ok (.bipush 24, 2) := by decide +kernel
theorem dX9_feed_21 : decode cX9_feed 21 = .ok (.if_icmp .le 5, 3) := by decide +kernel
theorem dX9_feed_24 : decode cX9_feed 24 = .ok (.iconst (-1), 1) := by decide +kernel
theorem dX9_feed_25 : decode cX9_feed 25 = .ok (.ireturn, 1) := by decide +kernel
theorem dX9_feed_26 : decode cX9_feed 26 = .ok (.aload_n 0, 1) := by decide +kernel
theorem dX9_feed_27 : decode cX9_feed 27 = .ok (.iload_n 1, 1) := by decide +kernel
theorem dX9_feed_28 : decode cX9_feed 28 = .ok (.invokevirtual 100, 3) := by decide +kernel
theorem dX9_feed_31 : decode cX9_feed 31 = .ok (.aload_n 0, 1) := by decide +kernel
theorem dX9_feed_32 : decode cX9_feed 32 = .ok (.iload_n 2, 1) := by decide +kernel
theorem dX9_feed_33 : decode cX9_feed 33 = .ok (.invokevirtual 100, 3) := by decide +kernel
theorem dX9_feed_36 : decode cX9_feed 36 = .ok (.aload_n 0, 1) := by decide +kernel
theorem dX9_feed_37 : decode cX9_feed 37 = .ok (.getfield 93, 3) := by decide +kernel
theorem dX9_feed_40 : decode cX9_feed 40 = .ok (.ireturn, 1) := by decide +kernel
theorem dX9_end_0 : decode cX9_end 0 = .ok (.aload_n 0, 1) := by decide +kernel
theorem dX9_end_1 : decode cX9_end 1 = .ok (.iconst 0, 1) := by decide +kernel
theorem dX9_end_2 : decode cX9_end 2 = .ok (.putfield 54, 3) := by decide +kernel
theorem dX9_end_5 : decode cX9_end 5 = .ok (.iload_n 1, 1) := by decide +kernel
theorem dX9_end_6 : decode cX9_end 6 = .ok (.ifCond .lt 11, 3) := by decide +kernel
theorem dX9_end_9 : decode cX9_end 9 = .ok (.iload_n 1, 1) := by decide +kernel
theorem dX9_end_10 : decode cX9_end 10 = .ok (.aload_n 0, 1) := by decide +kernel
theorem dX9_end_11 : decode cX9_end 11 = .ok (.getfield 93, 3) := by decide +kernel
theorem dX9_end_14 : decode cX9_end 14 = .ok (.if_icmp .le 5, 3) := by decide +kernel
theorem dX9_end_17 : decode cX9_end 17 = .ok (.iconst 0, 1) := by decide +kernel
theorem dX9_end_18 : decode cX9_end 18 = .ok (.ireturn, 1) := by decide +kernel
theorem dX9_end_19 : decode cX9_end 19 = .ok (.aload_n 0, 1) := by decide +kernel
theorem dX9_end_20 : decode cX9_end 20 = .ok (.iload_n 1, 1) := by decide +kernel
theorem dX9_end_21 : decode cX9_end 21 = .ok (.putfield 93, 3) := by decide +kernel
theorem dX9_end_24 : decode cX9_end 24 = .ok (.iconst 1, 1) := by decide +kernel
theorem dX9_end_25 : decode cX9_end 25 = .ok (.ireturn, 1) := by decide +kernel
set_option maxRecDepth 20000 in
theorem ggX9_isPlain_X9_isIn : GoodIn wsX9_isPlain wsX9_isIn := goodIn_r _ [6] (by decide +kernel) (by decide +kernel)
set_option maxRecDepth 20000 in
theorem gX9_isPlain_X9_isIn : GoodIn wsX9_isPlain (va_wsS RX9 61 yX9_isIn wsX9_isIn) := goodIn_app (goodIn_of _ (by decide +kernel)) ggX9_isPlain_X9_isIn
theorem dX9_isPlain_0 : decode cX9_isPlain 0 = .ok (.iconst 1, 1) := by decide +kernel
theorem dX9_isPlain_1 : decode cX9_isPlain 1 = .ok (.istore_n 1, 1) := by decide +kernel
theorem dX9_isPlain_2 : decode cX9_isPlain 2 = .ok (.iconst 0, 1) := by decide +kernel
theorem dX9_isPlain_3 : decode cX9_isPlain 3 = .ok (.istore_n 2, 1) := by decide +kernel
theorem dX9_isPlain_4 : decode cX9_isPlain 4 = .ok (.iload_n 2, 1) := by decide +kernel
theorem dX9_isPlain_5 : decode cX9_isPlain 5 = .ok (.aload_n 0, 1) := by decide +kernel
theorem dX9_isPlain_6 : decode cX9_isPlain 6 = .ok (.getfield 93, 3) := by decide +kernel
theorem dX9_isPlain_9 : decode cX9_isPlain 9 = .ok (.if_icmp .ge 35, 3) := by decide +kernel
theorem dX9_isPlain_12 : decode cX9_isPlain 12 = .ok (.iload_n 1, 1) := by decide +kernel
theorem dX9_isPlain_13 : decode cX9_isPlain 13 = .ok (.ifCond .eq 23, 3) := by decide +kernel
theorem dX9_isPlain_16 : decode cX9_isPlain 16 = .ok (.aload_n 0, 1) := by decide +kernel
theorem dX9_isPlain_17 : decode cX9_isPlain 17 = .ok (.getfield 9, 3) := by decide +kernel
theorem dX9_isPlain_20 : decode cX9_isPlain 20 = .ok (.iload_n 2, 1) := by decide +kernel
theorem dX9_isPlain_21 : decode cX9_isPlain 21 = .ok (.baload, 1) := by decide +kernel
theorem dX9_isPlain_22 : decode cX9_isPlain 22 = .ok (.bipush 32, 2) := by decide +kernel
theorem dX9_isPlain_24 : decode cX9_isPlain 24 = .ok (.bipush 126, 2) := by decide +kernel
theorem dX9_isPlain_26 : decode cX9_isPlain 26 = .ok (.invokestatic 61, 3) := by decide +kernel
theorem dX9_isPlain_29 : decode cX9_isPlain 29 = .ok (.ifCond .eq 7, 3) := by decide +kernel
theorem dX9_isPlain_32 : decode cX9_isPlain 32 = .ok (.iconst 1, 1) := by decide +kernel
theorem dX9_isPlain_33 : decode cX9_isPlain 33 = .ok (.goto 4, 3) := by decide +kernel
theorem dX9_isPlain_36 : decode cX9_isPlain 36 = .ok (.iconst 0, 1) := by decide +kernel
theorem dX9_isPlain_37 : decode cX9_isPlain 37 = .ok (.istore_n 1, 1) := by decide +kernel
theorem dX9_isPlain_38 : decode cX9_isPlain 38 = .ok (.iinc 2 1, 3) := by decide +kernel
theorem dX9_isPlain_41 : decode cX9_isPlain 41 = .ok (.goto (-37), 3) := by decide +kernel
theorem dX9_isPlain_44 : decode cX9_isPlain 44 = .ok (.iload_n 1, 1) := by decide +kernel
theorem dX9_isPlain_45 : decode cX9_isPlain 45 = .ok (.ireturn, 1) := by decide +kernel
theorem dX9_manyOf_0 : decode cX9_manyOf 0 = .ok (.iconst 0, 1) := by decide +kernel
theorem dX9_manyOf_1 : decode cX9_manyOf 1 = .ok (.istore_n 2, 1) := by decide +kernel
theorem dX9_manyOf_2 : decode cX9_manyOf 2 = .ok (.iconst 0, 1) := by decide +kernel
theorem dX9_manyOf_3 : decode cX9_manyOf 3 = .ok (.istore_n 3, 1) := by decide +kernel
theorem dX9_manyOf_4 : decode cX9_manyOf 4 = .ok (.iload_n 3, 1) := by decide +kernel
theorem dX9_manyOf_5 : decode cX9_manyOf 5 = .ok (.aload_n 0, 1) := by decide +kernel
theorem dX9_manyOf_6 : decode cX9_manyOf 6 = .ok (.getfield 93, 3) := by decide +kernel
theorem dX9_manyOf_9 : decode cX9_manyOf 9 = .ok (.if_icmp .ge 27, 3) := by decide +kernel
theorem dX9_manyOf_12 : decode cX9_manyOf 12 = .ok (.iload_n 2, 1) := by decide +kernel
theorem dX9_manyOf_13 : decode cX9_manyOf 13 = .ok (.aload_n 0, 1) := by decide +kernel
theorem dX9_manyOf_14 : decode cX9_manyOf 14 = .ok (.getfield 9, 3) := by decide +kernel
theorem dX9_manyOf_17 : decode cX9_manyOf 17 = .ok (.iload_n 3, 1) := by decide +kernel
theorem dX9_manyOf_18 : decode cX9_manyOf 18 = .ok (.baload, 1) := by decide +kernel
theorem dX9_manyOf_19 : decode cX9_manyOf 19 = .ok (.iload_n 1, 1) := by decide +kernel
theorem dX9_manyOf_20 : decode cX9_manyOf 20 = .ok (.if_icmp .ne 7, 3) := by decide +kernel
theorem dX9_manyOf_23 : decode cX9_manyOf 23 = .ok (.iconst 1, 1) := by decide +kernel
theorem dX9_manyOf_24 : decode cX9_manyOf 24 = .ok (.goto 4, 3) := by decide +kernel
theorem dX9_manyOf_27 : decode cX9_manyOf 27 = .ok (.iconst 0, 1) := by decide +kernel
theorem dX9_manyOf_28 : decode cX9_manyOf 28 = .ok (.iadd, 1) := by decide +kernel
theorem dX9_manyOf_29 : decode cX9_manyOf 29 = .ok (.istore_n 2, 1) := by decide +kernel
theorem dX9_manyOf_30 : decode cX9_manyOf 30 = .ok (.iinc 3 1, 3) := by decide +kernel
theorem dX9_manyOf_33 : decode cX9_manyOf 33 = .ok (.goto (-29), 3) := by decide +kernel
theorem dX9_manyOf_36 : decode cX9_manyOf 36 = .ok (.iload_n 2, 1) := by decide +kernel
theorem dX9_manyOf_37 : decode cX9_manyOf 37 = .ok (.ireturn, 1) := by decide +kernel
set_option maxRecDepth 20000 in
theorem ggX9_style_X9_isIn : GoodIn wsX9_style wsX9_isIn := goodIn_r _ [11] (by decide +kernel) (by decide +kernel)
set_option maxRecDepth 20000 in
theorem gX9_style_X9_isIn : GoodIn wsX9_style (va_wsS RX9 61 yX9_isIn wsX9_isIn) := goodIn_app (goodIn_of _ (by decide +kernel)) ggX9_style_X9_isIn
set_option maxRecDepth 20000 in
theorem ggX9_style_X9_isPlain : GoodIn wsX9_style wsX9_isPlain := goodIn_r _ [15, 3, 5, 8, 9, 10, 11, 20, 21, 22, 23, 24, 25, 26, 27, 28, 29, 30, 31, 32, 33, 34, 35, 36, 37, 38, 39, 40, 41, 42, 43, 44, 45, 46] (by decide +kernel) (by decide +kernel)
set_option maxRecDepth 20000 in
theorem gX9_style_X9_isPlain : GoodIn wsX9_style (wsV RX9 106 RX9 yX9_isPlain wsX9_isPlain) := goodIn_app (goodIn_of _ (by decide +kernel)) ggX9_style_X9_isPlain
set_option maxRecDepth 20000 in
theorem ggX9_style_X9_manyOf : GoodIn wsX9_style wsX9_manyOf := goodIn_r _ [19, 3, 5, 20, 21, 22, 23, 24, 25, 26, 27, 28, 29, 30, 31, 32, 33, 34, 35, 36, 37, 38, 39, 40, 41, 42, 43, 44, 45, 46] (by decide +kernel) (by decide +kernel)
set_option maxRecDepth 20000 in
theorem gX9_style_X9_manyOf : GoodIn wsX9_style (wsV RX9 110 RX9 yX9_manyOf wsX9_manyOf) := goodIn_app (goodIn_of _ (by decide +kernel)) ggX9_style_X9_manyOf
theorem dX9_style_0 : decode cX9_style 0 = .ok (.aload_n 0, 1) := by decide +kernel
theorem dX9_style_1 : decode cX9_style 1 = .ok (.iconst 0, 1) := by decide +kernel
theorem dX9_style_2 : decode cX9_style 2 = .ok (.putfield 54, 3) := by decide +kernel
theorem dX9_style_5 : decode cX9_style 5 = .ok (.aload_n 0, 1) := by decide +kernel
theorem dX9_style_6 : decode cX9_style 6 = .ok (.getfield 103, 3) := by decide +kernel
theorem dX9_style_9 : decode cX9_style 9 = .ok (.bipush 8, 2) := by decide +kernel
theorem dX9_style_11 : decode cX9_style 11 = .ok (.if_icmp .eq 28, 3) := by decide +kernel
theorem dX9_style_14 : decode cX9_style 14 = .ok (.iload_n 1, 1) := by decide +kernel
theorem dX9_style_15 : decode cX9_style 15 = .ok (.iconst 0, 1) := by decide +kernel
theorem dX9_style_16 : decode cX9_style 16 = .ok (.sipush 1000, 3) := by decide +kernel
theorem dX9_style_19 : decode cX9_style 19 = .ok (.invokestatic 61, 3) := by decide +kernel
theorem dX9_style_22 : decode cX9_style 22 = .ok (.ifCond .eq 17, 3) := by decide +kernel
theorem dX9_style_25 : decode cX9_style 25 = .ok (.aload_n 0, 1) := by decide +kernel
theorem dX9_style_26 : decode cX9_style 26 = .ok (.getfield 93, 3) := by decide +kernel
theorem dX9_style_29 : decode cX9_style 29 = .ok (.ifCond .eq 10, 3) := by decide +kernel
theorem dX9_style_32 : decode cX9_style 32 = .ok (.aload_n 0, 1) := by decide +kernel
theorem dX9_style_33 : decode cX9_style 33 = .ok (.invokevirtual 106, 3) := by decide +kernel
theorem dX9_style_36 : decode cX9_style 36 = .ok (.ifCond .ne 5, 3) := by decide +kernel
theorem dX9_style_39 : decode cX9_style 39 = .ok (.iconst (-1), 1) := by decide +kernel
theorem dX9_style_40 : decode cX9_style 40 = .ok (.ireturn, 1) := by decide +kernel
theorem dX9_style_41 : decode cX9_style 41 = .ok (.aload_n 0, 1) := by decide +kernel
theorem dX9_style_42 : decode cX9_style 42 = .ok (.bipush 68, 2) := by decide +kernel
theorem dX9_style_44 : decode cX9_style 44 = .ok (.invokevirtual 110, 3) := by decide +kernel
theorem dX9_style_47 : decode cX9_style 47 = .ok (.iconst 1, 1) := by decide +kernel
theorem dX9_style_48 : decode cX9_style 48 = .ok (.if_icmp .gt 47, 3) := by decide +kernel
theorem dX9_style_51 : decode cX9_style 51 = .ok (.aload_n 0, 1) := by decide +kernel
theorem dX9_style_52 : decode cX9_style 52 = .ok (.bipush 87, 2) := by decide +kernel
theorem dX9_style_54 : decode cX9_style 54 = .ok (.invokevirtual 110, 3) := by decide +kernel
theorem dX9_style_57 : decode cX9_style 57 = .ok (.iconst 1, 1) := by decide +kernel
theorem dX9_style_58 : decode cX9_style 58 = .ok (.if_icmp .gt 37, 3) := by decide +kernel
theorem dX9_style_61 : decode cX9_style 61 = .ok (.aload_n 0, 1) := by decide +kernel
theorem dX9_style_62 : decode cX9_style 62 = .ok (.bipush 77, 2) := by decide +kernel
theorem dX9_style_64 : decode cX9_style 64 = .ok (.invokevirtual 110, 3) := by decide +kernel
theorem dX9_style_67 : decode cX9_style 67 = .ok (.aload_n 0, 1) := by decide +kernel
theorem dX9_style_68 : decode cX9_style 68 = .ok (.bipush 78, 2) := by decide +kernel
theorem dX9_style_70 : decode cX9_style 70 = .ok (.invokevirtual 110, 3) := by decide +kernel
theorem dX9_style_73 : decode cX9_style 73 = .ok (.iadd, 1) := by decide +kernel
theorem dX9_style_74 : decode cX9_style 74 = .ok (.iconst 1, 1) := by decide +kernel
theorem dX9_style_75 : decode cX9_style 75 = .ok (.if_icmp .ne 20, 3) := by decide +kernel
theorem dX9_style_78 : decode cX9_style 78 = .ok (.aload_n 0, 1) := by decide +kernel
theorem dX9_style_79 : decode cX9_style 79 = .ok (.bipush 89, 2) := by decide +kernel
theorem dX9_style_81 : decode cX9_style 81 = .ok (.invokevirtual 110, 3) := by decide +kernel
theorem dX9_style_84 : decode cX9_style 84 = .ok (.aload_n 0, 1) := by decide +kernel
theorem dX9_style_85 : decode cX9_style 85 = .ok (.bipush 121, 2) := by decide +kernel
theorem dX9_style_87 : decode cX9_style 87 = .ok (.invokevirtual 110, 3) := by decide +kernel
theorem dX9_style_90 : decode cX9_style 90 = .ok (.iadd, 1) := by decide +kernel
theorem dX9_style_91 : decode cX9_style 91 = .ok (.iconst 1, 1) := by decide +kernel
theorem dX9_style_92 : decode cX9_style 92 = .ok (.if_icmp .eq 5, 3) := by decide +kernel
theorem dX9_style_95 : decode cX9_style 95 = .ok (.iconst (-1), 1) := by decide +kernel
theorem dX9_style_96 : decode cX9_style 96 = .ok (.ireturn, 1) := by decide +kernel
theorem dX9_style_97 : decode cX9_style 97 = .ok (.iconst 0, 1) := by decide +kernel
theorem dX9_style_98 : decode cX9_style 98 = .ok (.istore_n 2, 1) := by decide +kernel
theorem dX9_style_99 : decode cX9_style 99 = .ok (.iload_n 2, 1) := by decide +kernel
theorem dX9_style_100 : decode cX9_style 100 = .ok (.aload_n 0, 1) := by decide +kernel
theorem dX9_style_101 : decode cX9_style 101 = .ok (.getfield 93, 3) := by decide +kernel
theorem dX9_style_104 : decode cX9_style 104 = .ok (.if_icmp .ge 29, 3) := by decide +kernel
theorem dX9_style_107 : decode cX9_style 107 = .ok (.aload_n 0, 1) := by decide +kernel
theorem dX9_style_108 : decode cX9_style 108 = .ok (.getfield 13, 3) := by decide +kernel
theorem dX9_style_111 : decode cX9_style 111 = .ok (.bipush 24, 2) := by decide +kernel
theorem dX9_style_113 : decode cX9_style 113 = .ok (.aload_n 0, 1) := by decide +kernel
theorem dX9_style_114 : decode cX9_style 114 = .ok (.getfield 103, 3) := by decide +kernel
theorem dX9_style_117 : decode cX9_style 117 = .ok (.imul, 1) := by decide +kernel
theorem dX9_style_118 : decode cX9_style 118 = .ok (.iload_n 2, 1) := by decide +kernel
theorem dX9_style_119 : decode cX9_style 119 = .ok (.iadd, 1) := by decide +kernel
theorem dX9_style_120 : decode cX9_style 120 = .ok (.aload_n 0, 1) := by decide +kernel
theorem dX9_style_121 : decode cX9_style 121 = .ok (.getfield 9, 3) := by decide +kernel
theorem dX9_style_124 : decode cX9_style 124 = .ok (.iload_n 2, 1) := by decide +kernel
theorem dX9_style_125 : decode cX9_style 125 = .ok (.baload, 1) := by decide +kernel
theorem dX9_style_126 : decode cX9_style 126 = .ok (.bastore, 1) := by decide +kernel
theorem dX9_style_127 : decode cX9_style 127 = .ok (.iinc 2 1, 3) := by decide +kernel
theorem dX9_style_130 : decode cX9_style 130 = .ok (.goto (-31), 3) := by decide +kernel
theorem dX9_style_133 : decode cX9_style 133 = .ok (.aload_n 0, 1) := by decide +kernel
theorem dX9_style_134 : decode cX9_style 134 = .ok (.getfield 19, 3) := by decide +kernel
theorem dX9_style_137 : decode cX9_style 137 = .ok (.aload_n 0, 1) := by decide +kernel
theorem dX9_style_138 : decode cX9_style 138 = .ok (.getfield 103, 3) := by decide +kernel
theorem dX9_style_141 : decode cX9_style 141 = .ok (.aload_n 0, 1) := by decide +kernel
theorem dX9_style_142 : decode cX9_style 142 = .ok (.getfield 93, 3) := by decide +kernel
theorem dX9_style_145 : decode cX9_style 145 = .ok (.iastore, 1) := by decide +kernel
theorem dX9_style_146 : decode cX9_style 146 = .ok (.aload_n 0, 1) := by decide +kernel
theorem dX9_style_147 : decode cX9_style 147 = .ok (.getfield 23, 3) := by decide +kernel
theorem dX9_style_150 : decode cX9_style 150 = .ok (.aload_n 0, 1) := by decide +kernel
theorem dX9_style_151 : decode cX9_style 151 = .ok (.getfield 103, 3) := by decide +kernel
theorem dX9_style_154 : decode cX9_style 154 = .ok (.iload_n 1, 1) := by decide +kernel
theorem dX9_style_155 : decode cX9_style 155 = .ok (.iastore, 1) := by decide +kernel
theorem dX9_style_156 : decode cX9_style 156 = .ok (.aload_n 0, 1) := by decide +kernel
theorem dX9_style_157 : decode cX9_style 157 = .ok (.dup, 1) := by decide +kernel
theorem dX9_style_158 : decode cX9_style 158 = .ok (.getfield 103, 3) := by decide +kernel
theorem dX9_style_161 : decode cX9_style 161 = .ok (.iconst 1, 1) := by decide +kernel
theorem dX9_style_162 : decode cX9_style 162 = .ok (.iadd, 1) := by decide +kernel
theorem dX9_style_163 : decode cX9_style 163 = .ok (.putfield 103, 3) := by decide +kernel
theorem dX9_style_166 : decode cX9_style 166 = .ok (.aload_n 0, 1) := by decide +kernel
theorem dX9_style_167 : decode cX9_style 167 = .ok (.iconst 0, 1) := by decide +kernel
theorem dX9_style_168 : decode cX9_style 168 = .ok (.putfield 93, 3) := by decide +kernel
theorem dX9_style_171 : decode cX9_style 171 = .ok (.aload_n 0, 1) := by decide +kernel
theorem dX9_style_172 : decode cX9_style 172 = .ok (.getfield 103, 3) := by decide +kernel
theorem dX9_style_175 : decode cX9_style 175 = .ok (.iconst 1, 1) := by decide +kernel
theorem dX9_style_176 : decode cX9_style 176 = .ok (.isub, 1) := by decide +kernel
theorem dX9_style_177 : decode cX9_style 177 = .ok (.ireturn, 1) := by decide +kernel
set_option maxRecDepth 20000 in
theorem ggX9_row_X9_isPlain : GoodIn wsX9_row wsX9_isPlain := goodIn_r _ [11, 3, 5, 12, 13, 10, 14, 15, 16, 17, 18, 19, 20, 21, 22, 23, 24, 25, 26, 27, 28, 29, 30, 31, 32, 33, 34, 35, 36, 37, 38, 39, 40, 41] (by decide +kernel) (by decide +kernel)
set_option maxRecDepth 20000 in
theorem gX9_row_X9_isPlain : GoodIn wsX9_row (wsV RX9 106 RX9 yX9_isPlain wsX9_isPlain) := goodIn_app (goodIn_of _ (by decide +kernel)) ggX9_row_X9_isPlain
theorem dX9_row_0 : decode cX9_row 0 = .ok (.aload_n 0, 1) := by decide +kernel
theorem dX9_row_1 : decode cX9_row 1 = .ok (.iconst 0, 1) := by decide +kernel
theorem dX9_row_2 : decode cX9_row 2 = .ok (.putfield 54, 3) := by decide +kernel
theorem dX9_row_5 : decode cX9_row 5 = .ok (.aload_n 0, 1) := by decide +kernel
theorem dX9_row_6 : decode cX9_row 6 = .ok (.getfield 113, 3) := by decide +kernel
theorem dX9_row_9 : decode cX9_row 9 = .ok (.bipush 30, 2) := by decide +kernel
theorem dX9_row_11 : decode cX9_row 11 = .ok (.if_icmp .eq 10, 3) := by decide +kernel
theorem dX9_row_14 : decode cX9_row 14 = .ok (.aload_n 0, 1) := by decide +kernel
theorem dX9_row_15 : decode cX9_row 15 = .ok (.invokevirtual 106, 3) := by decide +kernel
theorem dX9_row_18 : decode cX9_row 18 = .ok (.ifCond .ne 5, 3) := by decide +kernel
theorem dX9_row_21 : decode cX9_row 21 = .ok (.iconst (-1), 1) := by decide +kernel
theorem dX9_row_22 : decode cX9_row 22 = .ok (.ireturn, 1) := by decide +kernel
theorem dX9_row_23 : decode cX9_row 23 = .ok (.iconst 0, 1) := by decide +kernel
theorem dX9_row_24 : decode cX9_row 24 = .ok (.istore_n 1, 1) := by decide +kernel
theorem dX9_row_25 : decode cX9_row 25 = .ok (.iload_n 1, 1) := by decide +kernel
theorem dX9_row_26 : decode cX9_row 26 = .ok (.aload_n 0, 1) := by decide +kernel
theorem dX9_row_27 : decode cX9_row 27 = .ok (.getfield 93, 3) := by decide +kernel
theorem dX9_row_30 : decode cX9_row 30 = .ok (.if_icmp .ge 29, 3) := by decide +kernel
theorem dX9_row_33 : decode cX9_row 33 = .ok (.aload_n 0, 1) := by decide +kernel
theorem dX9_row_34 : decode cX9_row 34 = .ok (.getfield 16, 3) := by decide +kernel
theorem dX9_row_37 : decode cX9_row 37 = .ok (.bipush 24, 2) := by decide +kernel
theorem dX9_row_39 : decode cX9_row 39 = .ok (.aload_n 0, 1) := by decide +kernel
theorem dX9_row_40 : decode cX9_row 40 = .ok (.getfield 113, 3) := by decide +kernel
theorem dX9_row_43 : decode cX9_row 43 = .ok (.imul, 1) := by decide +kernel
theorem dX9_row_44 : decode cX9_row 44 = .ok (.iload_n 1, 1) := by decide +kernel
theorem dX9_row_45 : decode cX9_row 45 = .ok (.iadd, 1) := by decide +kernel
theorem dX9_row_46 : decode cX9_row 46 = .ok (.aload_n 0, 1) := by decide +kernel
theorem dX9_row_47 : decode cX9_row 47 = .ok (.getfield 9, 3) := by decide +kernel
theorem dX9_row_50 : decode cX9_row 50 = .ok (.iload_n 1, 1) := by decide +kernel
theorem dX9_row_51 : decode cX9_row 51 = .ok (.baload, 1) := by decide +kernel
theorem dX9_row_52 : decode cX9_row 52 = .ok (.bastore, 1) := by decide +kernel
theorem dX9_row_53 : decode cX9_row 53 = .ok (.iinc 1 1, 3) := by decide +kernel
theorem dX9_row_56 : decode cX9_row 56 = .ok (.goto (-31), 3) := by decide +kernel
theorem dX9_row_59 : decode cX9_row 59 = .ok (.aload_n 0, 1) := by decide +kernel
theorem dX9_row_60 : decode cX9_row 60 = .ok (.getfield 26, 3) := by decide +kernel
theorem dX9_row_63 : decode cX9_row 63 = .ok (.aload_n 0, 1) := by decide +kernel
theorem dX9_row_64 : decode cX9_row 64 = .ok (.getfield 113, 3) := by decide +kernel
theorem dX9_row_67 : decode cX9_row 67 = .ok (.aload_n 0, 1) := by decide +kernel
theorem dX9_row_68 : decode cX9_row 68 = .ok (.getfield 93, 3) := by decide +kernel
theorem dX9_row_71 : decode cX9_row 71 = .ok (.iastore, 1) := by decide +kernel
theorem dX9_row_72 : decode cX9_row 72 = .ok (.aload_n 0, 1) := by decide +kernel
theorem dX9_row_73 : decode cX9_row 73 = .ok (.dup, 1) := by decide +kernel
theorem dX9_row_74 : decode cX9_row 74 = .ok (.getfield 113, 3) := by decide +kernel
theorem dX9_row_77 : decode cX9_row 77 = .ok (.iconst 1, 1) := by decide +kernel
theorem dX9_row_78 : decode cX9_row 78 = .ok (.iadd, 1) := by decide +kernel
theorem dX9_row_79 : decode cX9_row 79 = .ok (.putfield 113, 3) := by decide +kernel
theorem dX9_row_82 : decode cX9_row 82 = .ok (.aload_n 0, 1) := by decide +kernel
theorem dX9_row_83 : decode cX9_row 83 = .ok (.iconst 0, 1) := by decide +kernel
theorem dX9_row_84 : decode cX9_row 84 = .ok (.putfield 93, 3) := by decide +kernel
theorem dX9_row_87 : decode cX9_row 87 = .ok (.aload_n 0, 1) := by decide +kernel
theorem dX9_row_88 : decode cX9_row 88 = .ok (.getfield 113, 3) := by decide +kernel
theorem dX9_row_91 : decode cX9_row 91 = .ok (.iconst 1, 1) := by decide +kernel
theorem dX9_row_92 : decode cX9_row 92 = .ok (.isub, 1) := by decide +kernel
theorem dX9_row_93 : decode cX9_row 93 = .ok (.ireturn, 1) := by decide +kernel
theorem dX9_clear_0 : decode cX9_clear 0 = .ok (.aload_n 0, 1) := by decide +kernel
theorem dX9_clear_1 : decode cX9_clear 1 = .ok (.iconst 0, 1) := by decide +kernel
theorem dX9_clear_2 : decode cX9_clear 2 = .ok (.putfield 54, 3) := by decide +kernel
theorem dX9_clear_5 : decode cX9_clear 5 = .ok (.aload_n 0, 1) := by decide +kernel
theorem dX9_clear_6 : decode cX9_clear 6 = .ok (.iconst 0, 1) := by decide +kernel
theorem dX9_clear_7 : decode cX9_clear 7 = .ok (.putfield 113, 3) := by decide +kernel
theorem dX9_clear_10 : decode cX9_clear 10 = .ok (.return_, 1) := by decide +kernel
set_option maxRecDepth 20000 in
theorem ggX9_window_X9_isIn : GoodIn wsX9_window wsX9_isIn := goodIn_r _ [6] (by decide +kernel) (by decide +kernel)
set_option maxRecDepth 20000 in
theorem gX9_window_X9_isIn : GoodIn wsX9_window (va_wsS RX9 61 yX9_isIn wsX9_isIn) := goodIn_app (goodIn_of _ (by decide +kernel)) ggX9_window_X9_isIn
theorem dX9_window_0 : decode cX9_window 0 = .ok (.aload_n 0, 1) := by decide +kernel
theorem dX9_window_1 : decode cX9_window 1 = .ok (.iconst 0, 1) := by decide +kernel
theorem dX9_window_2 : decode cX9_window 2 = .ok (.putfield 54, 3) := by decide +kernel
theorem dX9_window_5 : decode cX9_window 5 = .ok (.iload_n 1, 1) := by decide +kernel
theorem dX9_window_6 : decode cX9_window 6 = .ok (.sipush 1900, 3) := by decide +kernel
theorem dX9_window_9 : decode cX9_window 9 = .ok (.sipush 2100, 3) := by decide +kernel
theorem dX9_window_12 : decode cX9_window 12 = .ok (.invokestatic 61, 3) := by decide +kernel
theorem dX9_window_15 : decode cX9_window 15 = .ok (.ifCond .ne 5, 3) := by decide +kernel
theorem dX9_window_18 : decode cX9_window 18 = .ok (.iconst 0, 1) := by decide +kernel
theorem dX9_window_19 : decode cX9_window 19 = .ok (.ireturn, 1) := by decide +kernel
theorem dX9_window_20 : decode cX9_window 20 = .ok (.aload_n 0, 1) := by decide +kernel
theorem dX9_window_21 : decode cX9_window 21 = .ok (.iload_n 1, 1) := by decide +kernel
theorem dX9_window_22 : decode cX9_window 22 = .ok (.putfield 32, 3) := by decide +kernel
theorem dX9_window_25 : decode cX9_window 25 = .ok (.iconst 1, 1) := by decide +kernel
theorem dX9_window_26 : decode cX9_window 26 = .ok (.ireturn, 1) := by decide +kernel
set_option maxRecDepth 20000 in
theorem ggX9_price_X9_isIn : GoodIn wsX9_price wsX9_isIn := goodIn_r _ [6] (by decide +kernel) (by decide +kernel)
set_option maxRecDepth 20000 in
theorem gX9_price_X9_isIn : GoodIn wsX9_price (va_wsS RX9 61 yX9_isIn wsX9_isIn) := goodIn_app (goodIn_of _ (by decide +kernel)) ggX9_price_X9_isIn
theorem dX9_price_0 : decode cX9_price 0 = .ok (.aload_n 0, 1) := by decide +kernel
theorem dX9_price_1 : decode cX9_price 1 = .ok (.iconst 0, 1) := by decide +kernel
theorem dX9_price_2 : decode cX9_price 2 = .ok (.putfield 54, 3) := by decide +kernel
theorem dX9_price_5 : decode cX9_price 5 = .ok (.iload_n 1, 1) := by decide +kernel
theorem dX9_price_6 : decode cX9_price 6 = .ok (.iconst 0, 1) := by decide +kernel
theorem dX9_price_7 : decode cX9_price 7 = .ok (.iconst 2, 1) := by decide +kernel
theorem dX9_price_8 : decode cX9_price 8 = .ok (.invokestatic 61, 3) := by decide +kernel
theorem dX9_price_11 : decode cX9_price 11 = .ok (.ifCond .eq 14, 3) := by decide +kernel
theorem dX9_price_14 : decode cX9_price 14 = .ok (.iload_n 2, 1) := by decide +kernel
theorem dX9_price_15 : decode cX9_price 15 = .ok (.iconst 0, 1) := by decide +kernel
theorem dX9_price_16 : decode cX9_price 16 = .ok (.sipush 1000, 3) := by decide +kernel
theorem dX9_price_19 : decode cX9_price 19 = .ok (.invokestatic 61, 3) := by decide +kernel
theorem dX9_price_22 : decode cX9_price 22 = .ok (.ifCond .ne 5, 3) := by decide +kernel
theorem dX9_price_25 : decode cX9_price 25 = .ok (.iconst 0, 1) := by decide +kernel
theorem dX9_price_26 : decode cX9_price 26 = .ok (.ireturn, 1) := by decide +kernel
theorem dX9_price_27 : decode cX9_price 27 = .ok (.aload_n 0, 1) := by decide +kernel
theorem dX9_price_28 : decode cX9_price 28 = .ok (.getfield 29, 3) := by decide +kernel
theorem dX9_price_31 : decode cX9_price 31 = .ok (.iload_n 1, 1) := by decide +kernel
theorem dX9_price_32 : decode cX9_price 32 = .ok (.iload_n 2, 1) := by decide +kernel
theorem dX9_price_33 : decode cX9_price 33 = .ok (.iastore, 1) := by decide +kernel
theorem dX9_price_34 : decode cX9_price 34 = .ok (.iconst 1, 1) := by decide +kernel
theorem dX9_price_35 : decode cX9_price 35 = .ok (.ireturn, 1) := by decide +kernel
theorem dX9_byteAt_0 : decode cX9_byteAt 0 = .ok (.iload_n 1, 1) := by decide +kernel
theorem dX9_byteAt_1 : decode cX9_byteAt 1 = .ok (.aload_n 0, 1) := by decide +kernel
theorem dX9_byteAt_2 : decode cX9_byteAt 2 = .ok (.getfield 26, 3) := by decide +kernel
theorem dX9_byteAt_5 : decode cX9_byteAt 5 = .ok (.aload_n 0, 1) := by decide +kernel
theorem dX9_byteAt_6 : decode cX9_byteAt 6 = .ok (.getfield 116, 3) := by decide +kernel
theorem dX9_byteAt_9 : decode cX9_byteAt 9 = .ok (.iaload, 1) := by decide +kernel
theorem dX9_byteAt_10 : decode cX9_byteAt 10 = .ok (.if_icmp .ge 20, 3) := by decide +kernel
theorem dX9_byteAt_13 : decode cX9_byteAt 13 = .ok (.aload_n 0, 1) := by decide +kernel
theorem dX9_byteAt_14 : decode cX9_byteAt 14 = .ok (.getfield 16, 3) := by decide +kernel
theorem dX9_byteAt_17 : decode cX9_byteAt 17 = .ok (.bipush 24, 2) := by decide +kernel
theorem dX9_byteAt_19 : decode cX9_byteAt 19 = .ok (.aload_n 0, 1) := by decide +kernel
theorem dX9_byteAt_20 : decode cX9_byteAt 20 = .ok (.getfield 116, 3) := by decide +kernel
theorem dX9_byteAt_23 : decode cX9_byteAt 23 = .ok (.imul, 1) := by decide +kernel
theorem dX9_byteAt_24 : decode cX9_byteAt 24 = .ok (.iload_n 1, 1) := by decide +kernel
theorem dX9_byteAt_25 : decode cX9_byteAt 25 = .ok (.iadd, 1) := by decide +kernel
theorem dX9_byteAt_26 : decode cX9_byteAt 26 = .ok (.baload, 1) := by decide +kernel
theorem dX9_byteAt_27 : decode cX9_byteAt 27 = .ok (.goto 4, 3) := by decide +kernel
theorem dX9_byteAt_30 : decode cX9_byteAt 30 = .ok (.iconst 0, 1) := by decide +kernel
theorem dX9_byteAt_31 : decode cX9_byteAt 31 = .ok (.ireturn, 1) := by decide +kernel
set_option maxRecDepth 20000 in
theorem ggX9_isDigit_X9_byteAt : GoodIn wsX9_isDigit wsX9_byteAt := goodIn_r _ [5, 6, 7, 8, 12, 13, 14, 15, 16, 17, 18, 19, 20, 21, 22, 23, 24, 25, 26, 27, 28, 29, 30, 31, 32, 33, 34, 35, 36, 37, 38] (by decide +kernel) (by decide +kernel)
set_option maxRecDepth 20000 in
theorem gX9_isDigit_X9_byteAt : GoodIn wsX9_isDigit (wsV RX9 119 RX9 yX9_byteAt wsX9_byteAt) := goodIn_app (goodIn_of _ (by decide +kernel)) ggX9_isDigit_X9_byteAt
set_option maxRecDepth 20000 in
theorem ggX9_isDigit_X9_isIn : GoodIn wsX9_isDigit wsX9_isIn := goodIn_r _ [11] (by decide +kernel) (by decide +kernel)
set_option maxRecDepth 20000 in
theorem gX9_isDigit_X9_isIn : GoodIn wsX9_isDigit (va_wsS RX9 61 yX9_isIn wsX9_isIn) := goodIn_app (goodIn_of _ (by decide +kernel)) ggX9_isDigit_X9_isIn
theorem dX9_isDigit_0 : decode cX9_isDigit 0 = .ok (.aload_n 0, 1) := by decide +kernel
theorem dX9_isDigit_1 : decode cX9_isDigit 1 = .ok (.iload_n 1, 1) := by decide +kernel
theorem dX9_isDigit_2 : decode cX9_isDigit 2 = .ok (.invokevirtual 119, 3) := by decide +kernel
theorem dX9_isDigit_5 : decode cX9_isDigit 5 = .ok (.bipush 48, 2) := by decide +kernel
theorem dX9_isDigit_7 : decode cX9_isDigit 7 = .ok (.bipush 57, 2) := by decide +kernel
theorem dX9_isDigit_9 : decode cX9_isDigit 9 = .ok (.invokestatic 61, 3) := by decide +kernel
theorem dX9_isDigit_12 : decode cX9_isDigit 12 = .ok (.ireturn, 1) := by decide +kernel
set_option maxRecDepth 20000 in
theorem ggX9_digits_X9_isDigit : GoodIn wsX9_digits wsX9_isDigit := goodIn_r _ [6, 7, 8, 9, 5, 10, 11, 12, 13, 14, 15, 16, 17, 18, 19, 20, 21, 22, 23, 24, 25, 26, 27, 28, 29, 30, 31, 32, 33, 34, 35, 36, 37, 38, 39, 40, 41, 42, 43] (by decide +kernel) (by decide +kernel)
set_option maxRecDepth 20000 in
theorem gX9_digits_X9_isDigit : GoodIn wsX9_digits (wsV RX9 125 RX9 yX9_isDigit wsX9_isDigit) := goodIn_app (goodIn_of _ (by decide +kernel)) ggX9_digits_X9_isDigit
set_option maxRecDepth 20000 in
theorem ggX9_digits_X9_byteAt : GoodIn wsX9_digits wsX9_byteAt := goodIn_r _ [10, 11, 12, 13, 17, 18, 19, 20, 21, 22, 23, 24, 25, 26, 27, 28, 29, 30, 31, 32, 33, 34, 35, 36, 37, 38, 39, 40, 41, 42, 43] (by decide +kernel) (by decide +kernel)
set_option maxRecDepth 20000 in
theorem gX9_digits_X9_byteAt : GoodIn wsX9_digits (wsV RX9 119 RX9 yX9_byteAt wsX9_byteAt) := goodIn_app (goodIn_of _ (by decide +kernel)) ggX9_digits_X9_byteAt
theorem dX9_digits_0 : decode cX9_digits 0 = .ok (.iconst 0, 1) := by decide +kernel
theorem dX9_digits_1 : decode cX9_digits 1 = .ok (.istore_n 2, 1) := by decide +kernel
theorem dX9_digits_2 : decode cX9_digits 2 = .ok (.iconst 0, 1) := by decide +kernel
theorem dX9_digits_3 : decode cX9_digits 3 = .ok (.istore_n 3, 1) := by decide +kernel
theorem dX9_digits_4 : decode cX9_digits 4 = .ok (.iload_n 3, 1) := by decide +kernel
theorem dX9_digits_5 : decode cX9_digits 5 = .ok (.iload_n 1, 1) := by decide +kernel
theorem dX9_digits_6 : decode cX9_digits 6 = .ok (.if_icmp .ge 49, 3) := by decide +kernel
theorem dX9_digits_9 : decode cX9_digits 9 = .ok (.aload_n 0, 1) := by decide +kernel
theorem dX9_digits_10 : decode cX9_digits 10 = .ok (.aload_n 0, 1) := by decide +kernel
theorem dX9_digits_11 : decode cX9_digits 11 = .ok (.getfield 122, 3) := by decide +kernel
theorem dX9_digits_14 : decode cX9_digits 14 = .ok (.invokevirtual 125, 3) := by decide +kernel
theorem dX9_digits_17 : decode cX9_digits 17 = .ok (.ifCond .ne 5, 3) := by decide +kernel
theorem dX9_digits_20 : decode cX9_digits 20 = .ok (.iconst (-1), 1) := by decide +kernel
theorem dX9_digits_21 : decode cX9_digits 21 = .ok (.ireturn, 1) := by decide +kernel
theorem dX9_digits_22 : decode cX9_digits 22 = .ok (.bipush 10, 2) := by decide +kernel
theorem dX9_digits_24 : decode cX9_digits 24 = .ok (.iload_n 2, 1) := by decide +kernel
theorem dX9_digits_25 : decode cX9_digits 25 = .ok (.imul, 1) := by decide +kernel
theorem dX9_digits_26 : decode cX9_digits 26 = .ok (.aload_n 0, 1) := by decide +kernel
theorem dX9_digits_27 : decode cX9_digits 27 = .ok (.aload_n 0, 1) := by decide +kernel
theorem dX9_digits_28 : decode cX9_digits 28 = .ok (.getfield 122, 3) := by decide +kernel
theorem dX9_digits_31 : decode cX9_digits 31 = .ok (.invokevirtual 119, 3) := by decide +kernel
theorem dX9_digits_34 : decode cX9_digits 34 = .ok (.iadd, 1) := by decide +kernel
theorem dX9_digits_35 : decode cX9_digits 35 = .ok (.bipush 48, 2) := by decide +kernel
theorem dX9_digits_37 : decode cX9_digits 37 = .ok (.isub, 1) := by decide +kernel
theorem dX9_digits_38 : decode cX9_digits 38 = .ok (.istore_n 2, 1) := by decide +kernel
theorem dX9_digits_39 : decode cX9_digits 39 = .ok (.aload_n 0, 1) := by decide +kernel
theorem dX9_digits_40 : decode cX9_digits 40 = .ok (.dup, 1) := by decide +kernel
theorem dX9_digits_41 : decode cX9_digits 41 = .ok (.getfield 122, 3) := by decide +kernel
theorem dX9_digits_44 : decode cX9_digits 44 = .ok (.iconst 1, 1) := by decide +kernel
theorem dX9_digits_45 : decode cX9_digits 45 = .ok (.iadd, 1) := by decide +kernel
theorem dX9_digits_46 : decode cX9_digits 46 = .ok (.putfield 122, 3) := by decide +kernel
theorem dX9_digits_49 : decode cX9_digits 49 = .ok (.iinc 3 1, 3) := by decide +kernel
theorem dX9_digits_52 : decode cX9_digits 52 = .ok (.goto (-48), 3) := by decide +kernel
theorem dX9_digits_55 : decode cX9_digits 55 = .ok (.iload_n 2, 1) := by decide +kernel
theorem dX9_digits_56 : decode cX9_digits 56 = .ok (.ireturn, 1) := by decide +kernel
set_option maxRecDepth 20000 in
theorem ggX9_word_J0_length_8abf5 : GoodIn wsX9_word wsJ0_length_8abf5 := goodIn_r _ [6, 7, 8, 9, 10, 5, 11, 12, 13] (by decide +kernel) (by decide +kernel)
set_option maxRecDepth 20000 in
theorem gX9_word_J0_length_8abf5 : GoodIn wsX9_word (wsV RX9 128 RJ0 yJ0_length_8abf5 wsJ0_length_8abf5) := goodIn_app (goodIn_of _ (by decide +kernel)) ggX9_word_J0_length_8abf5
set_option maxRecDepth 20000 in
theorem ggX9_word_X9_byteAt : GoodIn wsX9_word wsX9_byteAt := goodIn_r _ [18, 19, 20, 21, 62, 63, 64, 65, 66, 67, 68, 69, 70, 71, 72, 73, 74, 75, 76, 77, 78, 79, 80, 81, 82, 83, 84, 85, 86, 87, 88] (by decide +kernel) (by decide +kernel)
set_option maxRecDepth 20000 in
theorem gX9_word_X9_byteAt : GoodIn wsX9_word (wsV RX9 119 RX9 yX9_byteAt wsX9_byteAt) := goodIn_app (goodIn_of _ (by decide +kernel)) ggX9_word_X9_byteAt
set_option maxRecDepth 20000 in
theorem ggX9_word_X9_isIn : GoodIn wsX9_word wsX9_isIn := goodIn_r _ [24] (by decide +kernel) (by decide +kernel)
set_option maxRecDepth 20000 in
theorem gX9_word_X9_isIn : GoodIn wsX9_word (va_wsS RX9 61 yX9_isIn wsX9_isIn) := goodIn_app (goodIn_of _ (by decide +kernel)) ggX9_word_X9_isIn
set_option maxRecDepth 20000 in
theorem ggX9_word_J0_charAt_5068e : GoodIn wsX9_word wsJ0_charAt_5068e := goodIn_r _ [28, 7, 29, 30, 31, 5, 32, 12, 13, 33, 34, 35, 36, 37, 38, 39, 40, 41, 42, 43, 44, 45, 46, 47, 48, 49, 50, 51, 52, 53, 54, 55, 56, 57, 58, 59, 60, 61] (by decide +kernel) (by decide +kernel)
set_option maxRecDepth 20000 in
theorem gX9_word_J0_charAt_5068e : GoodIn wsX9_word (wsV RX9 133 RJ0 yJ0_charAt_5068e wsJ0_charAt_5068e) := goodIn_app (goodIn_of _ (by decide +kernel)) ggX9_word_J0_charAt_5068e
theorem dX9_word_0 : decode cX9_word 0 = .ok (.iconst 0, 1) := by decide +kernel
theorem dX9_word_1 : decode cX9_word 1 = .ok (.istore_n 2, 1) := by decide +kernel
theorem dX9_word_2 : decode cX9_word 2 = .ok (.iconst 3, 1) := by decide +kernel
theorem dX9_word_3 : decode cX9_word 3 = .ok (.iload_n 2, 1) := by decide +kernel
theorem dX9_word_4 : decode cX9_word 4 = .ok (.imul, 1) := by decide +kernel
theorem dX9_word_5 : decode cX9_word 5 = .ok (.aload_n 1, 1) := by decide +kernel
theorem dX9_word_6 : decode cX9_word 6 = .ok (.invokevirtual 128, 3) := by decide +kernel
theorem dX9_word_9 : decode cX9_word 9 = .ok (.if_icmp .ge 95, 3) := by decide +kernel
theorem dX9_word_12 : decode cX9_word 12 = .ok (.iconst 1, 1) := by decide +kernel
theorem dX9_word_13 : decode cX9_word 13 = .ok (.istore_n 3, 1) := by decide +kernel
theorem dX9_word_14 : decode cX9_word 14 = .ok (.iconst 0, 1) := by decide +kernel
theorem dX9_word_15 : decode cX9_word 15 = .ok (.istore 4, 2) := by decide +kernel
theorem dX9_word_17 : decode cX9_word 17 = .ok (.iload 4, 2) := by decide +kernel
theorem dX9_word_19 : decode cX9_word 19 = .ok (.iconst 3, 1) := by decide +kernel
theorem dX9_word_20 : decode cX9_word 20 = .ok (.if_icmp .ge 62, 3) := by decide +kernel
theorem dX9_word_23 : decode cX9_word 23 = .ok (.aload_n 0, 1) := by decide +kernel
theorem dX9_word_24 : decode cX9_word 24 = .ok (.aload_n 0, 1) := by decide +kernel
theorem dX9_word_25 : decode cX9_word 25 = .ok (.getfield 122, 3) := by decide +kernel
theorem dX9_word_28 : decode cX9_word 28 = .ok (.iload 4, 2) := by decide +kernel
theorem dX9_word_30 : decode cX9_word 30 = .ok (.iadd, 1) := by decide +kernel
theorem dX9_word_31 : decode cX9_word 31 = .ok (.invokevirtual 119, 3) := by decide +kernel
theorem dX9_word_34 : decode cX9_word 34 = .ok (.istore 5, 2) := by decide +kernel
theorem dX9_word_36 : decode cX9_word 36 = .ok (.iload 5, 2) := by decide +kernel
theorem dX9_word_38 : decode cX9_word 38 = .ok (.bipush 65, 2) := by decide +kernel
theorem dX9_word_40 : decode cX9_word 40 = .ok (.bipush 90, 2) := by decide +kernel
theorem dX9_word_42 : decode cX9_word 42 = .ok (.invokestatic 61, 3) := by decide +kernel
theorem dX9_word_45 : decode cX9_word 45 = .ok (.ifCond .eq 6, 3) := by decide +kernel
theorem dX9_word_48 : decode cX9_word 48 = .ok (.iinc 5 32, 3) := by decide +kernel
theorem dX9_word_51 : decode cX9_word 51 = .ok (.iload_n 3, 1) := by decide +kernel
theorem dX9_word_52 : decode cX9_word 52 = .ok (.ifCond .eq 22, 3) := by decide +kernel
theorem dX9_word_55 : decode cX9_word 55 = .ok (.iload 5, 2) := by decide +kernel
theorem dX9_word_57 : decode cX9_word 57 = .ok (.aload_n 1, 1) := by decide +kernel
theorem dX9_word_58 : decode cX9_word 58 = .ok (.iconst 3, 1) := by decide +kernel
theorem dX9_word_59 : decode cX9_word 59 = .ok (.iload_n 2, 1) := by decide +kernel
theorem dX9_word_60 : decode cX9_word 60 = .ok (.imul, 1) := by decide +kernel
theorem dX9_word_61 : decode cX9_word 61 = .ok (.iload 4, 2) := by decide +kernel
theorem dX9_word_63 : decode cX9_word 63 = .ok (.iadd, 1) := by decide +kernel
theorem dX9_word_64 : decode cX9_word 64 = .ok (.invokevirtual 133, 3) := by decide +kernel
theorem dX9_word_67 : decode cX9_word 67 = .ok (.if_icmp .ne 7, 3) := by decide +kernel
theorem dX9_word_70 : decode cX9_word 70 = .ok (.iconst 1, 1) := by decide +kernel
theorem dX9_word_71 : decode cX9_word 71 = .ok (.goto 4, 3) := by decide +kernel
theorem dX9_word_74 : decode cX9_word 74 = .ok (.iconst 0, 1) := by decide +kernel
theorem dX9_word_75 : decode cX9_word 75 = .ok (.istore_n 3, 1) := by decide +kernel
theorem dX9_word_76 : decode cX9_word 76 = .ok (.iinc 4 1, 3) := by decide +kernel
theorem dX9_word_79 : decode cX9_word 79 = .ok (.goto (-62), 3) := by decide +kernel
theorem dX9_word_82 : decode cX9_word 82 = .ok (.iload_n 3, 1) := by decide +kernel
theorem dX9_word_83 : decode cX9_word 83 = .ok (.ifCond .eq 15, 3) := by decide +kernel
theorem dX9_word_86 : decode cX9_word 86 = .ok (.aload_n 0, 1) := by decide +kernel
theorem dX9_word_87 : decode cX9_word 87 = .ok (.dup, 1) := by decide +kernel
theorem dX9_word_88 : decode cX9_word 88 = .ok (.getfield 122, 3) := by decide +kernel
theorem dX9_word_91 : decode cX9_word 91 = .ok (.iconst 3, 1) := by decide +kernel
theorem dX9_word_92 : decode cX9_word 92 = .ok (.iadd, 1) := by decide +kernel
theorem dX9_word_93 : decode cX9_word 93 = .ok (.putfield 122, 3) := by decide +kernel
theorem dX9_word_96 : decode cX9_word 96 = .ok (.iload_n 2, 1) := by decide +kernel
theorem dX9_word_97 : decode cX9_word 97 = .ok (.ireturn, 1) := by decide +kernel
theorem dX9_word_98 : decode cX9_word 98 = .ok (.iinc 2 1, 3) := by decide +kernel
theorem dX9_word_101 : decode cX9_word 101 = .ok (.goto (-99), 3) := by decide +kernel
theorem dX9_word_104 : decode cX9_word 104 = .ok (.iconst (-1), 1) := by decide +kernel
theorem dX9_word_105 : decode cX9_word 105 = .ok (.ireturn, 1) := by decide +kernel
set_option maxRecDepth 20000 in
theorem ggX9_reads_X9_isDigit : GoodIn wsX9_reads wsX9_isDigit := goodIn_r _ [17, 18, 19, 20, 16, 21, 6, 1, 22, 23, 24, 25, 99, 100, 101, 102, 103, 104, 105, 106, 107, 108, 109, 110, 111, 112, 113, 114, 115, 116, 117, 118, 119, 120, 121, 122, 123, 124, 125] (by decide +kernel) (by decide +kernel)
set_option maxRecDepth 20000 in
theorem gX9_reads_X9_isDigit : GoodIn wsX9_reads (wsV RX9 125 RX9 yX9_isDigit wsX9_isDigit) := goodIn_app (goodIn_of _ (by decide +kernel)) ggX9_reads_X9_isDigit
set_option maxRecDepth 20000 in
theorem ggX9_reads_X9_digits : GoodIn wsX9_reads wsX9_digits := goodIn_r _ [29, 2, 13, 14, 15, 16, 17, 18, 19, 20, 21, 6, 1, 22, 23, 24, 25, 99, 100, 101, 102, 103, 104, 105, 106, 107, 108, 109, 110, 111, 112, 113, 114, 115, 116, 117, 118, 119, 120, 121, 122, 123, 124, 125] (by decide +kernel) (by decide +kernel)
set_option maxRecDepth 20000 in
theorem gX9_reads_X9_digits : GoodIn wsX9_reads (wsV RX9 137 RX9 yX9_digits wsX9_digits) := goodIn_app (goodIn_of _ (by decide +kernel)) ggX9_reads_X9_digits
set_option maxRecDepth 20000 in
theorem ggX9_reads_J9_floorMod_7cf53 : GoodIn wsX9_reads wsJ9_floorMod_7cf53 := goodIn_r _ [33] (by decide +kernel) (by decide +kernel)
set_option maxRecDepth 20000 in
theorem gX9_reads_J9_floorMod_7cf53 : GoodIn wsX9_reads (va_wsS RX9 140 yJ9_floorMod_7cf53 wsJ9_floorMod_7cf53) := goodIn_app (goodIn_of _ (by decide +kernel)) ggX9_reads_J9_floorMod_7cf53
set_option maxRecDepth 20000 in
theorem ggX9_reads_X9_word : GoodIn wsX9_reads wsX9_word := goodIn_r _ [37, 2, 38, 39, 40, 41, 42, 43, 44, 45, 46, 47, 48, 49, 18, 19, 20, 16, 21, 6, 1, 22, 23, 24, 25, 50, 51, 52, 53, 54, 55, 56, 57, 58, 59, 60, 61, 62, 63, 64, 65, 66, 67, 68, 69, 70, 71, 72, 73, 74, 75, 76, 77, 78, 79, 80, 81, 82, 83, 84, 85, 86, 99, 100, 101, 102, 103, 104, 105, 106, 107, 108, 109, 110, 111, 112, 113, 114, 115, 116, 117, 118, 119, 120, 121, 122, 123, 124, 125] (by decide +kernel) (by decide +kernel)
set_option maxRecDepth 20000 in
theorem gX9_reads_X9_word : GoodIn wsX9_reads (wsV RX9 147 RX9 yX9_word wsX9_word) := goodIn_app (goodIn_of _ (by decide +kernel)) ggX9_reads_X9_word
set_option maxRecDepth 20000 in
theorem ggX9_reads_X9_byteAt : GoodIn wsX9_reads wsX9_byteAt := goodIn_r _ [21, 6, 1, 22, 99, 100, 101, 102, 103, 104, 105, 106, 107, 108, 109, 110, 111, 112, 113, 114, 115, 116, 117, 118, 119, 120, 121, 122, 123, 124, 125] (by decide +kernel) (by decide +kernel)
set_option maxRecDepth 20000 in
theorem gX9_reads_X9_byteAt : GoodIn wsX9_reads (wsV RX9 119 RX9 yX9_byteAt wsX9_byteAt) := goodIn_app (goodIn_of _ (by decide +kernel)) ggX9_reads_X9_byteAt
set_option maxRecDepth 20000 in
theorem ggX9_reads_X9_isDate : GoodIn wsX9_reads wsX9_isDate := goodIn_r _ [89, 23, 24, 16, 25, 90, 91, 92, 93, 94, 95] (by decide +kernel) (by decide +kernel)
set_option maxRecDepth 20000 in
theorem gX9_reads_X9_isDate : GoodIn wsX9_reads (va_wsS RX9 69 yX9_isDate wsX9_isDate) := goodIn_app (goodIn_of _ (by decide +kernel)) ggX9_reads_X9_isDate
set_option maxRecDepth 20000 in
theorem ggX9_reads_X9_numberOf : GoodIn wsX9_reads wsX9_numberOf := goodIn_r _ [98, 93, 94, 16, 95, 90, 91, 92] (by decide +kernel) (by decide +kernel)
set_option maxRecDepth 20000 in
theorem gX9_reads_X9_numberOf : GoodIn wsX9_reads (va_wsS RX9 72 yX9_numberOf wsX9_numberOf) := goodIn_app (goodIn_of _ (by decide +kernel)) ggX9_reads_X9_numberOf
set_option maxRecDepth 20000 in
theorem ggX9_reads_X9_daysOf : GoodIn wsX9_reads wsX9_daysOf := goodIn_r _ [92, 93, 94, 16, 95] (by decide +kernel) (by decide +kernel)
set_option maxRecDepth 20000 in
theorem gX9_reads_X9_daysOf : GoodIn wsX9_reads (va_wsS RX9 65 yX9_daysOf wsX9_daysOf) := goodIn_app (goodIn_of _ (by decide +kernel)) ggX9_reads_X9_daysOf
theorem dX9_reads_0 : decode cX9_reads 0 = .ok (.aload_n 0, 1) := by decide +kernel
theorem dX9_reads_1 : decode cX9_reads 1 = .ok (.iload_n 1, 1) := by decide +kernel
theorem dX9_reads_2 : decode cX9_reads 2 = .ok (.putfield 116, 3) := by decide +kernel
theorem dX9_reads_5 : decode cX9_reads 5 = .ok (.aload_n 0, 1) := by decide +kernel
theorem dX9_reads_6 : decode cX9_reads 6 = .ok (.iconst 0, 1) := by decide +kernel
theorem dX9_reads_7 : decode cX9_reads 7 = .ok (.putfield 122, 3) := by decide +kernel
theorem dX9_reads_10 : decode cX9_reads 10 = .ok (.iconst 0, 1) := by decide +kernel
theorem dX9_reads_11 : decode cX9_reads 11 = .ok (.istore_n 3, 1) := by decide +kernel
theorem dX9_reads_12 : decode cX9_reads 12 = .ok (.iconst 0, 1) := by decide +kernel
theorem dX9_reads_13 : decode cX9_reads 13 = .ok (.istore 4, 2) := by decide +kernel
theorem dX9_reads_15 : decode cX9_reads 15 = .ok (.iconst 0, 1) := by decide +kernel
theorem dX9_reads_16 : decode cX9_reads 16 = .ok (.istore 5, 2) := by decide +kernel
theorem dX9_reads_18 : decode cX9_reads 18 = .ok (.bipush 7, 2) := by decide +kernel
theorem dX9_reads_20 : decode cX9_reads 20 = .ok (.istore 6, 2) := by decide +kernel
theorem dX9_reads_22 : decode cX9_reads 22 = .ok (.iconst 0, 1) := by decide +kernel
theorem dX9_reads_23 : decode cX9_reads 23 = .ok (.istore 7, 2) := by decide +kernel
theorem dX9_reads_25 : decode cX9_reads 25 = .ok (.iload 7, 2) := by decide +kernel
theorem dX9_reads_27 : decode cX9_reads 27 = .ok (.aload_n 0, 1) := by decide +kernel
theorem dX9_reads_28 : decode cX9_reads 28 = .ok (.getfield 19, 3) := by decide +kernel
theorem dX9_reads_31 : decode cX9_reads 31 = .ok (.iload_n 2, 1) := by decide +kernel
theorem dX9_reads_32 : decode cX9_reads 32 = .ok (.iaload, 1) := by decide +kernel
theorem dX9_reads_33 : decode cX9_reads 33 = .ok (.if_icmp .ge 274, 3) := by decide +kernel
theorem dX9_reads_36 : decode cX9_reads 36 = .ok (.aload_n 0, 1) := by decide +kernel
theorem dX9_reads_37 : decode cX9_reads 37 = .ok (.getfield 13, 3) := by decide +kernel
theorem dX9_reads_40 : decode cX9_reads 40 = .ok (.bipush 24, 2) := by decide +kernel
theorem dX9_reads_42 : decode cX9_reads 42 = .ok (.iload_n 2, 1) := by decide +kernel
theorem dX9_reads_43 : decode cX9_reads 43 = .ok (.imul, 1) := by decide +kernel
theorem dX9_reads_44 : decode cX9_reads 44 = .ok (.iload 7, 2) := by decide +kernel
theorem dX9_reads_46 : decode cX9_reads 46 = .ok (.iadd, 1) := by decide +kernel
theorem dX9_reads_47 : decode cX9_reads 47 = .ok (.baload, 1) := by decide +kernel
theorem dX9_reads_48 : decode cX9_reads 48 = .ok (.istore 8, 2) := by decide +kernel
theorem dX9_reads_50 : decode cX9_reads 50 = .ok (.iload 8, 2) := by decide +kernel
theorem dX9_reads_52 : decode cX9_reads 52 = .ok (.bipush 68, 2) := by decide +kernel
