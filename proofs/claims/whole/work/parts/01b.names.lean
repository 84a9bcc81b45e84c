theorem dX0_isDay_0 : decode cX0_isDay 0 = .ok (.iload_n 0, 1) := by decide +kernel
theorem dX0_isDay_1 : decode cX0_isDay 1 = .ok (.ifCond .lt 13, 3) := by decide +kernel
theorem dX0_isDay_4 : decode cX0_isDay 4 = .ok (.iload_n 0, 1) := by decide +kernel
theorem dX0_isDay_5 : decode cX0_isDay 5 = .ok (.ldc 11, 2) := by decide +kernel
theorem dX0_isDay_7 : decode cX0_isDay 7 = .ok (.if_icmp .gt 7, 3) := by decide +kernel
theorem dX0_isDay_10 : decode cX0_isDay 10 = .ok (.iconst 1, 1) := by decide +kernel
theorem dX0_isDay_11 : decode cX0_isDay 11 = .ok (.goto 4, 3) := by decide +kernel
theorem dX0_isDay_14 : decode cX0_isDay 14 = .ok (.iconst 0, 1) := by decide +kernel
theorem dX0_isDay_15 : decode cX0_isDay 15 = .ok (.ireturn, 1) := by decide +kernel
set_option maxRecDepth 20000 in
theorem ggX0_dayNumber_X0_monthLength : GoodIn wsX0_dayNumber wsX0_monthLength := goodIn_r _ [4, 5] rfl (by decide +kernel)
set_option maxRecDepth 20000 in
theorem gX0_dayNumber_X0_monthLength : GoodIn wsX0_dayNumber (va_wsS RX0 12 yX0_monthLength wsX0_monthLength) := goodIn_app (goodIn_of _ (by decide +kernel)) ggX0_dayNumber_X0_monthLength
set_option maxRecDepth 20000 in
theorem ggX0_dayNumber_X0_yearStart : GoodIn wsX0_dayNumber wsX0_yearStart := goodIn_r _ [8] rfl (by decide +kernel)
set_option maxRecDepth 20000 in
theorem gX0_dayNumber_X0_yearStart : GoodIn wsX0_dayNumber (va_wsS RX0 16 yX0_yearStart wsX0_yearStart) := goodIn_app (goodIn_of _ (by decide +kernel)) ggX0_dayNumber_X0_yearStart
theorem dX0_dayNumber_0 : decode cX0_dayNumber 0 = .ok (.iload_n 2, 1) := by decide +kernel
theorem dX0_dayNumber_1 : decode cX0_dayNumber 1 = .ok (.sipush 1900, 3) := by decide +kernel
theorem dX0_dayNumber_4 : decode cX0_dayNumber 4 = .ok (.if_icmp .lt 24, 3) := by decide +kernel
theorem dX0_dayNumber_7 : decode cX0_dayNumber 7 = .ok (.iload_n 2, 1) := by decide +kernel
theorem dX0_dayNumber_8 : decode cX0_dayNumber 8 = .ok (.sipush 2199, 3) := by decide +kernel
theorem dX0_dayNumber_11 : decode cX0_dayNumber 11 = .ok (.if_icmp .gt 17, 3) := by decide +kernel
theorem dX0_dayNumber_14 : decode cX0_dayNumber 14 = .ok (.iload_n 0, 1) := by decide +kernel
theorem dX0_dayNumber_15 : decode cX0_dayNumber 15 = .ok (.iconst 1, 1) := by decide +kernel
theorem dX0_dayNumber_16 : decode cX0_dayNumber 16 = .ok (.if_icmp .lt 12, 3) := by decide +kernel
theorem dX0_dayNumber_19 : decode cX0_dayNumber 19 = .ok (.iload_n 0, 1) := by decide +kernel
theorem dX0_dayNumber_20 : decode cX0_dayNumber 20 = .ok (.iload_n 1, 1) := by decide +kernel
theorem dX0_dayNumber_21 : decode cX0_dayNumber 21 = .ok (.iload_n 2, 1) := by decide +kernel
theorem dX0_dayNumber_22 : decode cX0_dayNumber 22 = .ok (.invokestatic 12, 3) := by decide +kernel
theorem dX0_dayNumber_25 : decode cX0_dayNumber 25 = .ok (.if_icmp .le 5, 3) := by decide +kernel
theorem dX0_dayNumber_28 : decode cX0_dayNumber 28 = .ok (.iconst (-1), 1) := by decide +kernel
theorem dX0_dayNumber_29 : decode cX0_dayNumber 29 = .ok (.ireturn, 1) := by decide +kernel
theorem dX0_dayNumber_30 : decode cX0_dayNumber 30 = .ok (.iload_n 2, 1) := by decide +kernel
theorem dX0_dayNumber_31 : decode cX0_dayNumber 31 = .ok (.invokestatic 16, 3) := by decide +kernel
theorem dX0_dayNumber_34 : decode cX0_dayNumber 34 = .ok (.iload_n 0, 1) := by decide +kernel
theorem dX0_dayNumber_35 : decode cX0_dayNumber 35 = .ok (.iadd, 1) := by decide +kernel
theorem dX0_dayNumber_36 : decode cX0_dayNumber 36 = .ok (.iconst 1, 1) := by decide +kernel
theorem dX0_dayNumber_37 : decode cX0_dayNumber 37 = .ok (.isub, 1) := by decide +kernel
theorem dX0_dayNumber_38 : decode cX0_dayNumber 38 = .ok (.istore_n 3, 1) := by decide +kernel
theorem dX0_dayNumber_39 : decode cX0_dayNumber 39 = .ok (.iconst 1, 1) := by decide +kernel
theorem dX0_dayNumber_40 : decode cX0_dayNumber 40 = .ok (.istore 4, 2) := by decide +kernel
theorem dX0_dayNumber_42 : decode cX0_dayNumber 42 = .ok (.iload 4, 2) := by decide +kernel
theorem dX0_dayNumber_44 : decode cX0_dayNumber 44 = .ok (.iload_n 1, 1) := by decide +kernel
theorem dX0_dayNumber_45 : decode cX0_dayNumber 45 = .ok (.if_icmp .ge 18, 3) := by decide +kernel
theorem dX0_dayNumber_48 : decode cX0_dayNumber 48 = .ok (.iload_n 3, 1) := by decide +kernel
theorem dX0_dayNumber_49 : decode cX0_dayNumber 49 = .ok (.iload 4, 2) := by decide +kernel
theorem dX0_dayNumber_51 : decode cX0_dayNumber 51 = .ok (.iload_n 2, 1) := by decide +kernel
theorem dX0_dayNumber_52 : decode cX0_dayNumber 52 = .ok (.invokestatic 12, 3) := by decide +kernel
theorem dX0_dayNumber_55 : decode cX0_dayNumber 55 = .ok (.iadd, 1) := by decide +kernel
theorem dX0_dayNumber_56 : decode cX0_dayNumber 56 = .ok (.istore_n 3, 1) := by decide +kernel
theorem dX0_dayNumber_57 : decode cX0_dayNumber 57 = .ok (.iinc 4 1, 3) := by decide +kernel
theorem dX0_dayNumber_60 : decode cX0_dayNumber 60 = .ok (.goto (-18), 3) := by decide +kernel
theorem dX0_dayNumber_63 : decode cX0_dayNumber 63 = .ok (.iload_n 3, 1) := by decide +kernel
theorem dX0_dayNumber_64 : decode cX0_dayNumber 64 = .ok (.ireturn, 1) := by decide +kernel
theorem dX0_monthLength_0 : decode cX0_monthLength 0 = .ok (.iload_n 0, 1) := by decide +kernel
theorem dX0_monthLength_1 : decode cX0_monthLength 1 = .ok (.iconst 1, 1) := by decide +kernel
theorem dX0_monthLength_2 : decode cX0_monthLength 2 = .ok (.if_icmp .lt 9, 3) := by decide +kernel
theorem dX0_monthLength_5 : decode cX0_monthLength 5 = .ok (.iload_n 0, 1) := by decide +kernel
theorem dX0_monthLength_6 : decode cX0_monthLength 6 = .ok (.bipush 12, 2) := by decide +kernel
theorem dX0_monthLength_8 : decode cX0_monthLength 8 = .ok (.if_icmp .le 5, 3) := by decide +kernel
theorem dX0_monthLength_11 : decode cX0_monthLength 11 = .ok (.iconst 0, 1) := by decide +kernel
theorem dX0_monthLength_12 : decode cX0_monthLength 12 = .ok (.ireturn, 1) := by decide +kernel
theorem dX0_monthLength_13 : decode cX0_monthLength 13 = .ok (.iload_n 1, 1) := by decide +kernel
theorem dX0_monthLength_14 : decode cX0_monthLength 14 = .ok (.iconst 4, 1) := by decide +kernel
theorem dX0_monthLength_15 : decode cX0_monthLength 15 = .ok (.irem, 1) := by decide +kernel
theorem dX0_monthLength_16 : decode cX0_monthLength 16 = .ok (.ifCond .ne 10, 3) := by decide +kernel
theorem dX0_monthLength_19 : decode cX0_monthLength 19 = .ok (.iload_n 1, 1) := by decide +kernel
theorem dX0_monthLength_20 : decode cX0_monthLength 20 = .ok (.bipush 100, 2) := by decide +kernel
theorem dX0_monthLength_22 : decode cX0_monthLength 22 = .ok (.irem, 1) := by decide +kernel
theorem dX0_monthLength_23 : decode cX0_monthLength 23 = .ok (.ifCond .ne 11, 3) := by decide +kernel
theorem dX0_monthLength_26 : decode cX0_monthLength 26 = .ok (.iload_n 1, 1) := by decide +kernel
theorem dX0_monthLength_27 : decode cX0_monthLength 27 = .ok (.sipush 400, 3) := by decide +kernel
theorem dX0_monthLength_30 : decode cX0_monthLength 30 = .ok (.irem, 1) := by decide +kernel
theorem dX0_monthLength_31 : decode cX0_monthLength 31 = .ok (.ifCond .ne 7, 3) := by decide +kernel
theorem dX0_monthLength_34 : decode cX0_monthLength 34 = .ok (.iconst 1, 1) := by decide +kernel
theorem dX0_monthLength_35 : decode cX0_monthLength 35 = .ok (.goto 4, 3) := by decide +kernel
theorem dX0_monthLength_38 : decode cX0_monthLength 38 = .ok (.iconst 0, 1) := by decide +kernel
theorem dX0_monthLength_39 : decode cX0_monthLength 39 = .ok (.istore_n 2, 1) := by decide +kernel
theorem dX0_monthLength_40 : decode cX0_monthLength 40 = .ok (.iload_n 0, 1) := by decide +kernel
theorem dX0_monthLength_41 : decode cX0_monthLength 41 = .ok (.iconst 2, 1) := by decide +kernel
theorem dX0_monthLength_42 : decode cX0_monthLength 42 = .ok (.if_icmp .ne 12, 3) := by decide +kernel
theorem dX0_monthLength_45 : decode cX0_monthLength 45 = .ok (.iload_n 2, 1) := by decide +kernel
theorem dX0_monthLength_46 : decode cX0_monthLength 46 = .ok (.ifCond .eq 8, 3) := by decide +kernel
theorem dX0_monthLength_49 : decode cX0_monthLength 49 = .ok (.bipush 29, 2) := by decide +kernel
theorem dX0_monthLength_51 : decode cX0_monthLength 51 = .ok (.goto 10, 3) := by decide +kernel
theorem dX0_monthLength_54 : decode cX0_monthLength 54 = .ok (.getstatic 20, 3) := by decide +kernel
theorem dX0_monthLength_57 : decode cX0_monthLength 57 = .ok (.iload_n 0, 1) := by decide +kernel
theorem dX0_monthLength_58 : decode cX0_monthLength 58 = .ok (.iconst 1, 1) := by decide +kernel
theorem dX0_monthLength_59 : decode cX0_monthLength 59 = .ok (.isub, 1) := by decide +kernel
theorem dX0_monthLength_60 : decode cX0_monthLength 60 = .ok (.iaload, 1) := by decide +kernel
theorem dX0_monthLength_61 : decode cX0_monthLength 61 = .ok (.ireturn, 1) := by decide +kernel
set_option maxRecDepth 20000 in
theorem ggX0_yearOf_X0_yearStart : GoodIn wsX0_yearOf wsX0_yearStart := goodIn_r _ [4] rfl (by decide +kernel)
set_option maxRecDepth 20000 in
theorem gX0_yearOf_X0_yearStart : GoodIn wsX0_yearOf (va_wsS RX0 16 yX0_yearStart wsX0_yearStart) := goodIn_app (goodIn_of _ (by decide +kernel)) ggX0_yearOf_X0_yearStart
theorem dX0_yearOf_0 : decode cX0_yearOf 0 = .ok (.sipush 1900, 3) := by decide +kernel
theorem dX0_yearOf_3 : decode cX0_yearOf 3 = .ok (.iload_n 0, 1) := by decide +kernel
theorem dX0_yearOf_4 : decode cX0_yearOf 4 = .ok (.sipush 366, 3) := by decide +kernel
theorem dX0_yearOf_7 : decode cX0_yearOf 7 = .ok (.idiv, 1) := by decide +kernel
theorem dX0_yearOf_8 : decode cX0_yearOf 8 = .ok (.iadd, 1) := by decide +kernel
theorem dX0_yearOf_9 : decode cX0_yearOf 9 = .ok (.istore_n 1, 1) := by decide +kernel
theorem dX0_yearOf_10 : decode cX0_yearOf 10 = .ok (.iload_n 1, 1) := by decide +kernel
theorem dX0_yearOf_11 : decode cX0_yearOf 11 = .ok (.sipush 2199, 3) := by decide +kernel
theorem dX0_yearOf_14 : decode cX0_yearOf 14 = .ok (.if_icmp .ge 19, 3) := by decide +kernel
theorem dX0_yearOf_17 : decode cX0_yearOf 17 = .ok (.iload_n 1, 1) := by decide +kernel
theorem dX0_yearOf_18 : decode cX0_yearOf 18 = .ok (.iconst 1, 1) := by decide +kernel
theorem dX0_yearOf_19 : decode cX0_yearOf 19 = .ok (.iadd, 1) := by decide +kernel
theorem dX0_yearOf_20 : decode cX0_yearOf 20 = .ok (.invokestatic 16, 3) := by decide +kernel
theorem dX0_yearOf_23 : decode cX0_yearOf 23 = .ok (.iload_n 0, 1) := by decide +kernel
theorem dX0_yearOf_24 : decode cX0_yearOf 24 = .ok (.if_icmp .gt 9, 3) := by decide +kernel
theorem dX0_yearOf_27 : decode cX0_yearOf 27 = .ok (.iinc 1 1, 3) := by decide +kernel
theorem dX0_yearOf_30 : decode cX0_yearOf 30 = .ok (.goto (-20), 3) := by decide +kernel
theorem dX0_yearOf_33 : decode cX0_yearOf 33 = .ok (.iload_n 1, 1) := by decide +kernel
theorem dX0_yearOf_34 : decode cX0_yearOf 34 = .ok (.ireturn, 1) := by decide +kernel
set_option maxRecDepth 20000 in
theorem ggX0_monthOf_X0_yearOf : GoodIn wsX0_monthOf wsX0_yearOf := goodIn_r _ [4, 5, 6, 3, 7] rfl (by decide +kernel)
set_option maxRecDepth 20000 in
theorem gX0_monthOf_X0_yearOf : GoodIn wsX0_monthOf (va_wsS RX0 24 yX0_yearOf wsX0_yearOf) := goodIn_app (goodIn_of _ (by decide +kernel)) ggX0_monthOf_X0_yearOf
set_option maxRecDepth 20000 in
theorem ggX0_monthOf_X0_yearStart : GoodIn wsX0_monthOf wsX0_yearStart := goodIn_r _ [7] rfl (by decide +kernel)
set_option maxRecDepth 20000 in
theorem gX0_monthOf_X0_yearStart : GoodIn wsX0_monthOf (va_wsS RX0 16 yX0_yearStart wsX0_yearStart) := goodIn_app (goodIn_of _ (by decide +kernel)) ggX0_monthOf_X0_yearStart
set_option maxRecDepth 20000 in
theorem ggX0_monthOf_X0_monthLength : GoodIn wsX0_monthOf wsX0_monthLength := goodIn_r _ [10, 11] rfl (by decide +kernel)
set_option maxRecDepth 20000 in
theorem gX0_monthOf_X0_monthLength : GoodIn wsX0_monthOf (va_wsS RX0 12 yX0_monthLength wsX0_monthLength) := goodIn_app (goodIn_of _ (by decide +kernel)) ggX0_monthOf_X0_monthLength
theorem dX0_monthOf_0 : decode cX0_monthOf 0 = .ok (.iload_n 0, 1) := by decide +kernel
theorem dX0_monthOf_1 : decode cX0_monthOf 1 = .ok (.invokestatic 24, 3) := by decide +kernel
theorem dX0_monthOf_4 : decode cX0_monthOf 4 = .ok (.istore_n 1, 1) := by decide +kernel
theorem dX0_monthOf_5 : decode cX0_monthOf 5 = .ok (.iload_n 0, 1) := by decide +kernel
theorem dX0_monthOf_6 : decode cX0_monthOf 6 = .ok (.iload_n 1, 1) := by decide +kernel
theorem dX0_monthOf_7 : decode cX0_monthOf 7 = .ok (.invokestatic 16, 3) := by decide +kernel
theorem dX0_monthOf_10 : decode cX0_monthOf 10 = .ok (.isub, 1) := by decide +kernel
theorem dX0_monthOf_11 : decode cX0_monthOf 11 = .ok (.istore_n 2, 1) := by decide +kernel
theorem dX0_monthOf_12 : decode cX0_monthOf 12 = .ok (.iconst 1, 1) := by decide +kernel
theorem dX0_monthOf_13 : decode cX0_monthOf 13 = .ok (.istore_n 3, 1) := by decide +kernel
theorem dX0_monthOf_14 : decode cX0_monthOf 14 = .ok (.iload_n 3, 1) := by decide +kernel
theorem dX0_monthOf_15 : decode cX0_monthOf 15 = .ok (.bipush 12, 2) := by decide +kernel
theorem dX0_monthOf_17 : decode cX0_monthOf 17 = .ok (.if_icmp .ge 26, 3) := by decide +kernel
theorem dX0_monthOf_20 : decode cX0_monthOf 20 = .ok (.iload_n 2, 1) := by decide +kernel
theorem dX0_monthOf_21 : decode cX0_monthOf 21 = .ok (.iload_n 3, 1) := by decide +kernel
theorem dX0_monthOf_22 : decode cX0_monthOf 22 = .ok (.iload_n 1, 1) := by decide +kernel
theorem dX0_monthOf_23 : decode cX0_monthOf 23 = .ok (.invokestatic 12, 3) := by decide +kernel
theorem dX0_monthOf_26 : decode cX0_monthOf 26 = .ok (.if_icmp .lt 17, 3) := by decide +kernel
theorem dX0_monthOf_29 : decode cX0_monthOf 29 = .ok (.iload_n 2, 1) := by decide +kernel
theorem dX0_monthOf_30 : decode cX0_monthOf 30 = .ok (.iload_n 3, 1) := by decide +kernel
theorem dX0_monthOf_31 : decode cX0_monthOf 31 = .ok (.iload_n 1, 1) := by decide +kernel
theorem dX0_monthOf_32 : decode cX0_monthOf 32 = .ok (.invokestatic 12, 3) := by decide +kernel
theorem dX0_monthOf_35 : decode cX0_monthOf 35 = .ok (.isub, 1) := by decide +kernel
theorem dX0_monthOf_36 : decode cX0_monthOf 36 = .ok (.istore_n 2, 1) := by decide +kernel
theorem dX0_monthOf_37 : decode cX0_monthOf 37 = .ok (.iinc 3 1, 3) := by decide +kernel
theorem dX0_monthOf_40 : decode cX0_monthOf 40 = .ok (.goto (-26), 3) := by decide +kernel
theorem dX0_monthOf_43 : decode cX0_monthOf 43 = .ok (.iload_n 3, 1) := by decide +kernel
theorem dX0_monthOf_44 : decode cX0_monthOf 44 = .ok (.ireturn, 1) := by decide +kernel
set_option maxRecDepth 20000 in
theorem ggX0_dayOfMonth_X0_monthOf : GoodIn wsX0_dayOfMonth wsX0_monthOf := goodIn_r _ [4, 5, 6, 3, 7, 8, 9, 10, 11, 12, 13, 14] rfl (by decide +kernel)
set_option maxRecDepth 20000 in
theorem gX0_dayOfMonth_X0_monthOf : GoodIn wsX0_dayOfMonth (va_wsS RX0 27 yX0_monthOf wsX0_monthOf) := goodIn_app (goodIn_of _ (by decide +kernel)) ggX0_dayOfMonth_X0_monthOf
set_option maxRecDepth 20000 in
theorem ggX0_dayOfMonth_X0_yearOf : GoodIn wsX0_dayOfMonth wsX0_yearOf := goodIn_r _ [7, 8, 9, 3, 10] rfl (by decide +kernel)
set_option maxRecDepth 20000 in
theorem gX0_dayOfMonth_X0_yearOf : GoodIn wsX0_dayOfMonth (va_wsS RX0 24 yX0_yearOf wsX0_yearOf) := goodIn_app (goodIn_of _ (by decide +kernel)) ggX0_dayOfMonth_X0_yearOf
set_option maxRecDepth 20000 in
theorem ggX0_dayOfMonth_X0_dayNumber : GoodIn wsX0_dayOfMonth wsX0_dayNumber := goodIn_r _ [17, 11, 12, 3, 13, 14, 8, 9, 10] rfl (by decide +kernel)
set_option maxRecDepth 20000 in
theorem gX0_dayOfMonth_X0_dayNumber : GoodIn wsX0_dayOfMonth (va_wsS RX0 30 yX0_dayNumber wsX0_dayNumber) := goodIn_app (goodIn_of _ (by decide +kernel)) ggX0_dayOfMonth_X0_dayNumber
theorem dX0_dayOfMonth_0 : decode cX0_dayOfMonth 0 = .ok (.iload_n 0, 1) := by decide +kernel
theorem dX0_dayOfMonth_1 : decode cX0_dayOfMonth 1 = .ok (.iconst 1, 1) := by decide +kernel
theorem dX0_dayOfMonth_2 : decode cX0_dayOfMonth 2 = .ok (.iload_n 0, 1) := by decide +kernel
theorem dX0_dayOfMonth_3 : decode cX0_dayOfMonth 3 = .ok (.invokestatic 27, 3) := by decide +kernel
theorem dX0_dayOfMonth_6 : decode cX0_dayOfMonth 6 = .ok (.iload_n 0, 1) := by decide +kernel
theorem dX0_dayOfMonth_7 : decode cX0_dayOfMonth 7 = .ok (.invokestatic 24, 3) := by decide +kernel
theorem dX0_dayOfMonth_10 : decode cX0_dayOfMonth 10 = .ok (.invokestatic 30, 3) := by decide +kernel
theorem dX0_dayOfMonth_13 : decode cX0_dayOfMonth 13 = .ok (.isub, 1) := by decide +kernel
theorem dX0_dayOfMonth_14 : decode cX0_dayOfMonth 14 = .ok (.iconst 1, 1) := by decide +kernel
theorem dX0_dayOfMonth_15 : decode cX0_dayOfMonth 15 = .ok (.iadd, 1) := by decide +kernel
theorem dX0_dayOfMonth_16 : decode cX0_dayOfMonth 16 = .ok (.ireturn, 1) := by decide +kernel
theorem dX0_weekdayOf_0 : decode cX0_weekdayOf 0 = .ok (.iload_n 0, 1) := by decide +kernel
theorem dX0_weekdayOf_1 : decode cX0_weekdayOf 1 = .ok (.bipush 7, 2) := by decide +kernel
theorem dX0_weekdayOf_3 : decode cX0_weekdayOf 3 = .ok (.irem, 1) := by decide +kernel
theorem dX0_weekdayOf_4 : decode cX0_weekdayOf 4 = .ok (.ireturn, 1) := by decide +kernel
theorem dX0_yearStart_0 : decode cX0_yearStart 0 = .ok (.iload_n 0, 1) := by decide +kernel
theorem dX0_yearStart_1 : decode cX0_yearStart 1 = .ok (.iconst 1, 1) := by decide +kernel
theorem dX0_yearStart_2 : decode cX0_yearStart 2 = .ok (.isub, 1) := by decide +kernel
theorem dX0_yearStart_3 : decode cX0_yearStart 3 = .ok (.istore_n 1, 1) := by decide +kernel
theorem dX0_yearStart_4 : decode cX0_yearStart 4 = .ok (.iload_n 1, 1) := by decide +kernel
theorem dX0_yearStart_5 : decode cX0_yearStart 5 = .ok (.iconst 4, 1) := by decide +kernel
theorem dX0_yearStart_6 : decode cX0_yearStart 6 = .ok (.idiv, 1) := by decide +kernel
theorem dX0_yearStart_7 : decode cX0_yearStart 7 = .ok (.iload_n 1, 1) := by decide +kernel
theorem dX0_yearStart_8 : decode cX0_yearStart 8 = .ok (.bipush 100, 2) := by decide +kernel
theorem dX0_yearStart_10 : decode cX0_yearStart 10 = .ok (.idiv, 1) := by decide +kernel
theorem dX0_yearStart_11 : decode cX0_yearStart 11 = .ok (.isub, 1) := by decide +kernel
theorem dX0_yearStart_12 : decode cX0_yearStart 12 = .ok (.iload_n 1, 1) := by decide +kernel
theorem dX0_yearStart_13 : decode cX0_yearStart 13 = .ok (.sipush 400, 3) := by decide +kernel
theorem dX0_yearStart_16 : decode cX0_yearStart 16 = .ok (.idiv, 1) := by decide +kernel
theorem dX0_yearStart_17 : decode cX0_yearStart 17 = .ok (.iadd, 1) := by decide +kernel
theorem dX0_yearStart_18 : decode cX0_yearStart 18 = .ok (.sipush 460, 3) := by decide +kernel
theorem dX0_yearStart_21 : decode cX0_yearStart 21 = .ok (.isub, 1) := by decide +kernel
theorem dX0_yearStart_22 : decode cX0_yearStart 22 = .ok (.istore_n 2, 1) := by decide +kernel
theorem dX0_yearStart_23 : decode cX0_yearStart 23 = .ok (.iload_n 0, 1) := by decide +kernel
theorem dX0_yearStart_24 : decode cX0_yearStart 24 = .ok (.sipush 1900, 3) := by decide +kernel
theorem dX0_yearStart_27 : decode cX0_yearStart 27 = .ok (.isub, 1) := by decide +kernel
theorem dX0_yearStart_28 : decode cX0_yearStart 28 = .ok (.sipush 365, 3) := by decide +kernel
theorem dX0_yearStart_31 : decode cX0_yearStart 31 = .ok (.imul, 1) := by decide +kernel
theorem dX0_yearStart_32 : decode cX0_yearStart 32 = .ok (.iload_n 2, 1) := by decide +kernel
theorem dX0_yearStart_33 : decode cX0_yearStart 33 = .ok (.iadd, 1) := by decide +kernel
theorem dX0_yearStart_34 : decode cX0_yearStart 34 = .ok (.ireturn, 1) := by decide +kernel
theorem dX1_init_0 : decode cX1_init 0 = .ok (.aload_n 0, 1) := by decide +kernel
theorem dX1_init_1 : decode cX1_init 1 = .ok (.invokespecial 3, 3) := by decide +kernel
theorem dX1_init_4 : decode cX1_init 4 = .ok (.aload_n 0, 1) := by decide +kernel
theorem dX1_init_5 : decode cX1_init 5 = .ok (.bipush 32, 2) := by decide +kernel
theorem dX1_init_7 : decode cX1_init 7 = .ok (.newarray .int, 2) := by decide +kernel
theorem dX1_init_9 : decode cX1_init 9 = .ok (.putfield 11, 3) := by decide +kernel
theorem dX1_init_12 : decode cX1_init 12 = .ok (.aload_n 0, 1) := by decide +kernel
theorem dX1_init_13 : decode cX1_init 13 = .ok (.iconst 0, 1) := by decide +kernel
theorem dX1_init_14 : decode cX1_init 14 = .ok (.putfield 15, 3) := by decide +kernel
theorem dX1_init_17 : decode cX1_init 17 = .ok (.return_, 1) := by decide +kernel
theorem dX1_byteAt_0 : decode cX1_byteAt 0 = .ok (.iload_n 1, 1) := by decide +kernel
theorem dX1_byteAt_1 : decode cX1_byteAt 1 = .ok (.ifCond .lt 11, 3) := by decide +kernel
theorem dX1_byteAt_4 : decode cX1_byteAt 4 = .ok (.iload_n 1, 1) := by decide +kernel
theorem dX1_byteAt_5 : decode cX1_byteAt 5 = .ok (.aload_n 0, 1) := by decide +kernel
theorem dX1_byteAt_6 : decode cX1_byteAt 6 = .ok (.getfield 15, 3) := by decide +kernel
theorem dX1_byteAt_9 : decode cX1_byteAt 9 = .ok (.if_icmp .lt 7, 3) := by decide +kernel
theorem dX1_byteAt_12 : decode cX1_byteAt 12 = .ok (.iconst (-1), 1) := by decide +kernel
theorem dX1_byteAt_13 : decode cX1_byteAt 13 = .ok (.goto 9, 3) := by decide +kernel
theorem dX1_byteAt_16 : decode cX1_byteAt 16 = .ok (.aload_n 0, 1) := by decide +kernel
theorem dX1_byteAt_17 : decode cX1_byteAt 17 = .ok (.getfield 11, 3) := by decide +kernel
theorem dX1_byteAt_20 : decode cX1_byteAt 20 = .ok (.iload_n 1, 1) := by decide +kernel
theorem dX1_byteAt_21 : decode cX1_byteAt 21 = .ok (.iaload, 1) := by decide +kernel
theorem dX1_byteAt_22 : decode cX1_byteAt 22 = .ok (.ireturn, 1) := by decide +kernel
set_option maxRecDepth 20000 in
theorem ggX1_equalsText_X5_lengthOf : GoodIn wsX1_equalsText wsX5_lengthOf := goodIn_r _ [6, 7, 8, 9, 10, 5, 11, 12, 27, 28, 29] rfl (by decide +kernel)
set_option maxRecDepth 20000 in
theorem gX1_equalsText_X5_lengthOf : GoodIn wsX1_equalsText (wsV RX1 19 RX5 yX5_lengthOf wsX5_lengthOf) := goodIn_app (goodIn_of _ (by decide +kernel)) ggX1_equalsText_X5_lengthOf
set_option maxRecDepth 20000 in
theorem ggX1_equalsText_X1_byteAt : GoodIn wsX1_equalsText wsX1_byteAt := goodIn_r _ [17, 1, 18, 25, 26] rfl (by decide +kernel)
set_option maxRecDepth 20000 in
theorem gX1_equalsText_X1_byteAt : GoodIn wsX1_equalsText (wsV RX1 25 RX1 yX1_byteAt wsX1_byteAt) := goodIn_app (goodIn_of _ (by decide +kernel)) ggX1_equalsText_X1_byteAt
set_option maxRecDepth 20000 in
theorem ggX1_equalsText_X5_byteAt : GoodIn wsX1_equalsText wsX5_byteAt := goodIn_r _ [22, 23, 24, 3, 4, 5, 6, 7, 8, 9, 10, 11, 12, 27, 28, 29] rfl (by decide +kernel)
set_option maxRecDepth 20000 in
theorem gX1_equalsText_X5_byteAt : GoodIn wsX1_equalsText (wsV RX1 28 RX5 yX5_byteAt wsX5_byteAt) := goodIn_app (goodIn_of _ (by decide +kernel)) ggX1_equalsText_X5_byteAt
theorem dX1_equalsText_0 : decode cX1_equalsText 0 = .ok (.aload_n 0, 1) := by decide +kernel
theorem dX1_equalsText_1 : decode cX1_equalsText 1 = .ok (.getfield 15, 3) := by decide +kernel
theorem dX1_equalsText_4 : decode cX1_equalsText 4 = .ok (.aload_n 1, 1) := by decide +kernel
theorem dX1_equalsText_5 : decode cX1_equalsText 5 = .ok (.iload_n 2, 1) := by decide +kernel
theorem dX1_equalsText_6 : decode cX1_equalsText 6 = .ok (.invokevirtual 19, 3) := by decide +kernel
theorem dX1_equalsText_9 : decode cX1_equalsText 9 = .ok (.if_icmp .eq 5, 3) := by decide +kernel
theorem dX1_equalsText_12 : decode cX1_equalsText 12 = .ok (.iconst 0, 1) := by decide +kernel
theorem dX1_equalsText_13 : decode cX1_equalsText 13 = .ok (.ireturn, 1) := by decide +kernel
theorem dX1_equalsText_14 : decode cX1_equalsText 14 = .ok (.iconst 0, 1) := by decide +kernel
theorem dX1_equalsText_15 : decode cX1_equalsText 15 = .ok (.istore_n 3, 1) := by decide +kernel
theorem dX1_equalsText_16 : decode cX1_equalsText 16 = .ok (.iload_n 3, 1) := by decide +kernel
theorem dX1_equalsText_17 : decode cX1_equalsText 17 = .ok (.aload_n 0, 1) := by decide +kernel
theorem dX1_equalsText_18 : decode cX1_equalsText 18 = .ok (.getfield 15, 3) := by decide +kernel
theorem dX1_equalsText_21 : decode cX1_equalsText 21 = .ok (.if_icmp .ge 25, 3) := by decide +kernel
theorem dX1_equalsText_24 : decode cX1_equalsText 24 = .ok (.aload_n 0, 1) := by decide +kernel
theorem dX1_equalsText_25 : decode cX1_equalsText 25 = .ok (.iload_n 3, 1) := by decide +kernel
theorem dX1_equalsText_26 : decode cX1_equalsText 26 = .ok (.invokevirtual 25, 3) := by decide +kernel
theorem dX1_equalsText_29 : decode cX1_equalsText 29 = .ok (.aload_n 1, 1) := by decide +kernel
theorem dX1_equalsText_30 : decode cX1_equalsText 30 = .ok (.iload_n 2, 1) := by decide +kernel
theorem dX1_equalsText_31 : decode cX1_equalsText 31 = .ok (.iload_n 3, 1) := by decide +kernel
theorem dX1_equalsText_32 : decode cX1_equalsText 32 = .ok (.invokevirtual 28, 3) := by decide +kernel
theorem dX1_equalsText_35 : decode cX1_equalsText 35 = .ok (.if_icmp .eq 5, 3) := by decide +kernel
theorem dX1_equalsText_38 : decode cX1_equalsText 38 = .ok (.iconst 0, 1) := by decide +kernel
theorem dX1_equalsText_39 : decode cX1_equalsText 39 = .ok (.ireturn, 1) := by decide +kernel
theorem dX1_equalsText_40 : decode cX1_equalsText 40 = .ok (.iinc 3 1, 3) := by decide +kernel
theorem dX1_equalsText_43 : decode cX1_equalsText 43 = .ok (.goto (-27), 3) := by decide +kernel
theorem dX1_equalsText_46 : decode cX1_equalsText 46 = .ok (.iconst 1, 1) := by decide +kernel
theorem dX1_equalsText_47 : decode cX1_equalsText 47 = .ok (.ireturn, 1) := by decide +kernel
set_option maxRecDepth 20000 in
theorem ggX1_setDown_X5_lengthOf : GoodIn wsX1_setDown wsX5_lengthOf := goodIn_r _ [6, 7, 8, 9, 10, 5, 11, 12, 70, 71, 72] rfl (by decide +kernel)
set_option maxRecDepth 20000 in
theorem gX1_setDown_X5_lengthOf : GoodIn wsX1_setDown (wsV RX1 19 RX5 yX5_lengthOf wsX5_lengthOf) := goodIn_app (goodIn_of _ (by decide +kernel)) ggX1_setDown_X5_lengthOf
set_option maxRecDepth 20000 in
theorem ggX1_setDown_X5_byteAt : GoodIn wsX1_setDown wsX5_byteAt := goodIn_r _ [16, 17, 18, 3, 4, 5, 6, 7, 8, 9, 10, 11, 12, 70, 71, 72] rfl (by decide +kernel)
set_option maxRecDepth 20000 in
theorem gX1_setDown_X5_byteAt : GoodIn wsX1_setDown (wsV RX1 28 RX5 yX5_byteAt wsX5_byteAt) := goodIn_app (goodIn_of _ (by decide +kernel)) ggX1_setDown_X5_byteAt
set_option maxRecDepth 20000 in
theorem ggX1_setDown_X1_putPart : GoodIn wsX1_setDown wsX1_putPart := goodIn_r _ [23, 24, 25, 26, 27, 28, 29, 30, 31, 32, 33, 34, 35, 36, 37, 38, 39, 40, 41, 42, 43, 44, 45, 46, 47, 48, 22, 49, 50, 51, 52, 53, 54, 55, 56, 57, 1, 58, 59, 60, 61, 62, 63, 64, 65, 66, 67, 68, 69] rfl (by decide +kernel)
set_option maxRecDepth 20000 in
theorem gX1_setDown_X1_putPart : GoodIn wsX1_setDown (wsV RX1 31 RX1 yX1_putPart wsX1_putPart) := goodIn_app (goodIn_of _ (by decide +kernel)) ggX1_setDown_X1_putPart
theorem dX1_setDown_0 : decode cX1_setDown 0 = .ok (.aload_n 0, 1) := by decide +kernel
theorem dX1_setDown_1 : decode cX1_setDown 1 = .ok (.iconst 0, 1) := by decide +kernel
theorem dX1_setDown_2 : decode cX1_setDown 2 = .ok (.putfield 15, 3) := by decide +kernel
theorem dX1_setDown_5 : decode cX1_setDown 5 = .ok (.aload_n 2, 1) := by decide +kernel
theorem dX1_setDown_6 : decode cX1_setDown 6 = .ok (.iload_n 3, 1) := by decide +kernel
theorem dX1_setDown_7 : decode cX1_setDown 7 = .ok (.invokevirtual 19, 3) := by decide +kernel
theorem dX1_setDown_10 : decode cX1_setDown 10 = .ok (.istore 4, 2) := by decide +kernel
theorem dX1_setDown_12 : decode cX1_setDown 12 = .ok (.iconst 0, 1) := by decide +kernel
theorem dX1_setDown_13 : decode cX1_setDown 13 = .ok (.istore 5, 2) := by decide +kernel
theorem dX1_setDown_15 : decode cX1_setDown 15 = .ok (.iload 5, 2) := by decide +kernel
theorem dX1_setDown_17 : decode cX1_setDown 17 = .ok (.iload 4, 2) := by decide +kernel
theorem dX1_setDown_19 : decode cX1_setDown 19 = .ok (.if_icmp .ge 21, 3) := by decide +kernel
theorem dX1_setDown_22 : decode cX1_setDown 22 = .ok (.aload_n 0, 1) := by decide +kernel
theorem dX1_setDown_23 : decode cX1_setDown 23 = .ok (.aload_n 2, 1) := by decide +kernel
theorem dX1_setDown_24 : decode cX1_setDown 24 = .ok (.iload_n 3, 1) := by decide +kernel
theorem dX1_setDown_25 : decode cX1_setDown 25 = .ok (.iload 5, 2) := by decide +kernel
theorem dX1_setDown_27 : decode cX1_setDown 27 = .ok (.invokevirtual 28, 3) := by decide +kernel
theorem dX1_setDown_30 : decode cX1_setDown 30 = .ok (.iload_n 1, 1) := by decide +kernel
theorem dX1_setDown_31 : decode cX1_setDown 31 = .ok (.invokevirtual 31, 3) := by decide +kernel
theorem dX1_setDown_34 : decode cX1_setDown 34 = .ok (.iinc 5 1, 3) := by decide +kernel
theorem dX1_setDown_37 : decode cX1_setDown 37 = .ok (.goto (-22), 3) := by decide +kernel
theorem dX1_setDown_40 : decode cX1_setDown 40 = .ok (.return_, 1) := by decide +kernel
set_option maxRecDepth 20000 in
theorem ggX1_putPart_X0_dayOfMonth : GoodIn wsX1_putPart wsX0_dayOfMonth := goodIn_r _ [6, 7, 8, 5, 9, 10, 11, 12, 13, 14, 15, 16, 17, 18, 19, 20, 21, 22] rfl (by decide +kernel)
set_option maxRecDepth 20000 in
theorem gX1_putPart_X0_dayOfMonth : GoodIn wsX1_putPart (va_wsS RX1 35 yX0_dayOfMonth wsX0_dayOfMonth) := goodIn_app (goodIn_of _ (by decide +kernel)) ggX1_putPart_X0_dayOfMonth
set_option maxRecDepth 20000 in
theorem ggX1_putPart_X1_putShort : GoodIn wsX1_putPart wsX1_putShort := goodIn_r _ [27, 28, 29, 30, 26, 31, 32, 33, 34, 35, 36, 37, 47, 48] rfl (by decide +kernel)
set_option maxRecDepth 20000 in
theorem gX1_putPart_X1_putShort : GoodIn wsX1_putPart (wsV RX1 40 RX1 yX1_putShort wsX1_putShort) := goodIn_app (goodIn_of _ (by decide +kernel)) ggX1_putPart_X1_putShort
set_option maxRecDepth 20000 in
theorem ggX1_putPart_X0_monthOf : GoodIn wsX1_putPart wsX0_monthOf := goodIn_r _ [9, 10, 11, 5, 12, 13, 14, 15, 16, 17, 18, 19] rfl (by decide +kernel)
set_option maxRecDepth 20000 in
theorem gX1_putPart_X0_monthOf : GoodIn wsX1_putPart (va_wsS RX1 44 yX0_monthOf wsX0_monthOf) := goodIn_app (goodIn_of _ (by decide +kernel)) ggX1_putPart_X0_monthOf
set_option maxRecDepth 20000 in
theorem ggX1_putPart_X1_putWord : GoodIn wsX1_putPart wsX1_putWord := goodIn_r _ [42, 32, 33, 34, 26, 35, 36, 37, 47, 48] rfl (by decide +kernel)
set_option maxRecDepth 20000 in
theorem gX1_putPart_X1_putWord : GoodIn wsX1_putPart (wsV RX1 53 RX1 yX1_putWord wsX1_putWord) := goodIn_app (goodIn_of _ (by decide +kernel)) ggX1_putPart_X1_putWord
set_option maxRecDepth 20000 in
theorem ggX1_putPart_X0_yearOf : GoodIn wsX1_putPart wsX0_yearOf := goodIn_r _ [12, 13, 14, 5, 15] rfl (by decide +kernel)
set_option maxRecDepth 20000 in
theorem gX1_putPart_X0_yearOf : GoodIn wsX1_putPart (va_wsS RX1 57 yX0_yearOf wsX0_yearOf) := goodIn_app (goodIn_of _ (by decide +kernel)) ggX1_putPart_X0_yearOf
set_option maxRecDepth 20000 in
theorem ggX1_putPart_X1_putTwo : GoodIn wsX1_putPart wsX1_putTwo := goodIn_r _ [31, 32, 33, 34, 26, 35, 36, 37, 47, 48] rfl (by decide +kernel)
set_option maxRecDepth 20000 in
theorem gX1_putPart_X1_putTwo : GoodIn wsX1_putPart (wsV RX1 60 RX1 yX1_putTwo wsX1_putTwo) := goodIn_app (goodIn_of _ (by decide +kernel)) ggX1_putPart_X1_putTwo
set_option maxRecDepth 20000 in
theorem ggX1_putPart_X0_weekdayOf : GoodIn wsX1_putPart wsX0_weekdayOf := goodIn_r _ [46] rfl (by decide +kernel)
set_option maxRecDepth 20000 in
theorem gX1_putPart_X0_weekdayOf : GoodIn wsX1_putPart (va_wsS RX1 66 yX0_weekdayOf wsX0_weekdayOf) := goodIn_app (goodIn_of _ (by decide +kernel)) ggX1_putPart_X0_weekdayOf
set_option maxRecDepth 20000 in
theorem ggX1_putPart_X1_putByte : GoodIn wsX1_putPart wsX1_putByte := goodIn_r _ [35, 36, 37, 47, 48] rfl (by decide +kernel)
set_option maxRecDepth 20000 in
theorem gX1_putPart_X1_putByte : GoodIn wsX1_putPart (wsV RX1 69 RX1 yX1_putByte wsX1_putByte) := goodIn_app (goodIn_of _ (by decide +kernel)) ggX1_putPart_X1_putByte
theorem dX1_putPart_0 : decode cX1_putPart 0 = .ok (.iload_n 1, 1) := by decide +kernel
theorem dX1_putPart_1 : decode cX1_putPart 1 = .ok (.lookupswitch 150 #[(68, 59), (77, 70), (78, 81), (87, 136), (89, 97), (121, 122)], 59) := by decide +kernel
theorem dX1_putPart_60 : decode cX1_putPart 60 = .ok (.aload_n 0, 1) := by decide +kernel
theorem dX1_putPart_61 : decode cX1_putPart 61 = .ok (.iload_n 2, 1) := by decide +kernel
theorem dX1_putPart_62 : decode cX1_putPart 62 = .ok (.invokestatic 35, 3) := by decide +kernel
theorem dX1_putPart_65 : decode cX1_putPart 65 = .ok (.invokevirtual 40, 3) := by decide +kernel
theorem dX1_putPart_68 : decode cX1_putPart 68 = .ok (.goto 88, 3) := by decide +kernel
theorem dX1_putPart_71 : decode cX1_putPart 71 = .ok (.aload_n 0, 1) := by decide +kernel
theorem dX1_putPart_72 : decode cX1_putPart 72 = .ok (.iload_n 2, 1) := by decide +kernel
theorem dX1_putPart_73 : decode cX1_putPart 73 = .ok (.invokestatic 44, 3) := by decide +kernel
theorem dX1_putPart_76 : decode cX1_putPart 76 = .ok (.invokevirtual 40, 3) := by decide +kernel
theorem dX1_putPart_79 : decode cX1_putPart 79 = .ok (.goto 77, 3) := by decide +kernel
theorem dX1_putPart_82 : decode cX1_putPart 82 = .ok (.aload_n 0, 1) := by decide +kernel
theorem dX1_putPart_83 : decode cX1_putPart 83 = .ok (.getstatic 47, 3) := by decide +kernel
theorem dX1_putPart_86 : decode cX1_putPart 86 = .ok (.iload_n 2, 1) := by decide +kernel
theorem dX1_putPart_87 : decode cX1_putPart 87 = .ok (.invokestatic 44, 3) := by decide +kernel
theorem dX1_putPart_90 : decode cX1_putPart 90 = .ok (.iconst 1, 1) := by decide +kernel
theorem dX1_putPart_91 : decode cX1_putPart 91 = .ok (.isub, 1) := by decide +kernel
theorem dX1_putPart_92 : decode cX1_putPart 92 = .ok (.invokevirtual 53, 3) := by decide +kernel
theorem dX1_putPart_95 : decode cX1_putPart 95 = .ok (.goto 61, 3) := by decide +kernel
theorem dX1_putPart_98 : decode cX1_putPart 98 = .ok (.aload_n 0, 1) := by decide +kernel
theorem dX1_putPart_99 : decode cX1_putPart 99 = .ok (.iload_n 2, 1) := by decide +kernel
theorem dX1_putPart_100 : decode cX1_putPart 100 = .ok (.invokestatic 57, 3) := by decide +kernel
theorem dX1_putPart_103 : decode cX1_putPart 103 = .ok (.bipush 100, 2) := by decide +kernel
theorem dX1_putPart_105 : decode cX1_putPart 105 = .ok (.idiv, 1) := by decide +kernel
theorem dX1_putPart_106 : decode cX1_putPart 106 = .ok (.invokevirtual 60, 3) := by decide +kernel
theorem dX1_putPart_109 : decode cX1_putPart 109 = .ok (.aload_n 0, 1) := by decide +kernel
theorem dX1_putPart_110 : decode cX1_putPart 110 = .ok (.iload_n 2, 1) := by decide +kernel
theorem dX1_putPart_111 : decode cX1_putPart 111 = .ok (.invokestatic 57, 3) := by decide +kernel
theorem dX1_putPart_114 : decode cX1_putPart 114 = .ok (.bipush 100, 2) := by decide +kernel
theorem dX1_putPart_116 : decode cX1_putPart 116 = .ok (.irem, 1) := by decide +kernel
theorem dX1_putPart_117 : decode cX1_putPart 117 = .ok (.invokevirtual 60, 3) := by decide +kernel
theorem dX1_putPart_120 : decode cX1_putPart 120 = .ok (.goto 36, 3) := by decide +kernel
theorem dX1_putPart_123 : decode cX1_putPart 123 = .ok (.aload_n 0, 1) := by decide +kernel
theorem dX1_putPart_124 : decode cX1_putPart 124 = .ok (.iload_n 2, 1) := by decide +kernel
theorem dX1_putPart_125 : decode cX1_putPart 125 = .ok (.invokestatic 57, 3) := by decide +kernel
theorem dX1_putPart_128 : decode cX1_putPart 128 = .ok (.bipush 100, 2) := by decide +kernel
theorem dX1_putPart_130 : decode cX1_putPart 130 = .ok (.irem, 1) := by decide +kernel
theorem dX1_putPart_131 : decode cX1_putPart 131 = .ok (.invokevirtual 60, 3) := by decide +kernel
theorem dX1_putPart_134 : decode cX1_putPart 134 = .ok (.goto 22, 3) := by decide +kernel
theorem dX1_putPart_137 : decode cX1_putPart 137 = .ok (.aload_n 0, 1) := by decide +kernel
theorem dX1_putPart_138 : decode cX1_putPart 138 = .ok (.getstatic 63, 3) := by decide +kernel
theorem dX1_putPart_141 : decode cX1_putPart 141 = .ok (.iload_n 2, 1) := by decide +kernel
theorem dX1_putPart_142 : decode cX1_putPart 142 = .ok (.invokestatic 66, 3) := by decide +kernel
theorem dX1_putPart_145 : decode cX1_putPart 145 = .ok (.invokevirtual 53, 3) := by decide +kernel
theorem dX1_putPart_148 : decode cX1_putPart 148 = .ok (.goto 8, 3) := by decide +kernel
theorem dX1_putPart_151 : decode cX1_putPart 151 = .ok (.aload_n 0, 1) := by decide +kernel
theorem dX1_putPart_152 : decode cX1_putPart 152 = .ok (.iload_n 1, 1) := by decide +kernel
theorem dX1_putPart_153 : decode cX1_putPart 153 = .ok (.invokevirtual 69, 3) := by decide +kernel
theorem dX1_putPart_156 : decode cX1_putPart 156 = .ok (.return_, 1) := by decide +kernel
set_option maxRecDepth 20000 in
theorem ggX1_putShort_X1_putTwo : GoodIn wsX1_putShort wsX1_putTwo := goodIn_r _ [5, 6, 7, 8, 4, 9, 10, 11, 12, 13] rfl (by decide +kernel)
set_option maxRecDepth 20000 in
theorem gX1_putShort_X1_putTwo : GoodIn wsX1_putShort (wsV RX1 60 RX1 yX1_putTwo wsX1_putTwo) := goodIn_app (goodIn_of _ (by decide +kernel)) ggX1_putShort_X1_putTwo
set_option maxRecDepth 20000 in
theorem ggX1_putShort_X1_putByte : GoodIn wsX1_putShort wsX1_putByte := goodIn_r _ [9, 10, 11, 12, 13] rfl (by decide +kernel)
set_option maxRecDepth 20000 in
theorem gX1_putShort_X1_putByte : GoodIn wsX1_putShort (wsV RX1 69 RX1 yX1_putByte wsX1_putByte) := goodIn_app (goodIn_of _ (by decide +kernel)) ggX1_putShort_X1_putByte
theorem dX1_putShort_0 : decode cX1_putShort 0 = .ok (.iload_n 1, 1) := by decide +kernel
theorem dX1_putShort_1 : decode cX1_putShort 1 = .ok (.bipush 10, 2) := by decide +kernel
theorem dX1_putShort_3 : decode cX1_putShort 3 = .ok (.if_icmp .lt 11, 3) := by decide +kernel
theorem dX1_putShort_6 : decode cX1_putShort 6 = .ok (.aload_n 0, 1) := by decide +kernel
theorem dX1_putShort_7 : decode cX1_putShort 7 = .ok (.iload_n 1, 1) := by decide +kernel
theorem dX1_putShort_8 : decode cX1_putShort 8 = .ok (.invokevirtual 60, 3) := by decide +kernel
theorem dX1_putShort_11 : decode cX1_putShort 11 = .ok (.goto 11, 3) := by decide +kernel
theorem dX1_putShort_14 : decode cX1_putShort 14 = .ok (.aload_n 0, 1) := by decide +kernel
theorem dX1_putShort_15 : decode cX1_putShort 15 = .ok (.bipush 48, 2) := by decide +kernel
theorem dX1_putShort_17 : decode cX1_putShort 17 = .ok (.iload_n 1, 1) := by decide +kernel
theorem dX1_putShort_18 : decode cX1_putShort 18 = .ok (.iadd, 1) := by decide +kernel
theorem dX1_putShort_19 : decode cX1_putShort 19 = .ok (.invokevirtual 69, 3) := by decide +kernel
theorem dX1_putShort_22 : decode cX1_putShort 22 = .ok (.return_, 1) := by decide +kernel
set_option maxRecDepth 20000 in
theorem ggX1_putTwo_X1_putByte : GoodIn wsX1_putTwo wsX1_putByte := goodIn_r _ [5, 6, 7, 8, 9] rfl (by decide +kernel)
set_option maxRecDepth 20000 in
theorem gX1_putTwo_X1_putByte : GoodIn wsX1_putTwo (wsV RX1 69 RX1 yX1_putByte wsX1_putByte) := goodIn_app (goodIn_of _ (by decide +kernel)) ggX1_putTwo_X1_putByte
theorem dX1_putTwo_0 : decode cX1_putTwo 0 = .ok (.aload_n 0, 1) := by decide +kernel
theorem dX1_putTwo_1 : decode cX1_putTwo 1 = .ok (.bipush 48, 2) := by decide +kernel
theorem dX1_putTwo_3 : decode cX1_putTwo 3 = .ok (.iload_n 1, 1) := by decide +kernel
theorem dX1_putTwo_4 : decode cX1_putTwo 4 = .ok (.bipush 10, 2) := by decide +kernel
theorem dX1_putTwo_6 : decode cX1_putTwo 6 = .ok (.idiv, 1) := by decide +kernel
theorem dX1_putTwo_7 : decode cX1_putTwo 7 = .ok (.iadd, 1) := by decide +kernel
theorem dX1_putTwo_8 : decode cX1_putTwo 8 = .ok (.invokevirtual 69, 3) := by decide +kernel
theorem dX1_putTwo_11 : decode cX1_putTwo 11 = .ok (.aload_n 0, 1) := by decide +kernel
theorem dX1_putTwo_12 : decode cX1_putTwo 12 = .ok (.bipush 48, 2) := by decide +kernel
theorem dX1_putTwo_14 : decode cX1_putTwo 14 = .ok (.iload_n 1, 1) := by decide +kernel
theorem dX1_putTwo_15 : decode cX1_putTwo 15 = .ok (.bipush 10, 2) := by decide +kernel
theorem dX1_putTwo_17 : decode cX1_putTwo 17 = .ok (.irem, 1) := by decide +kernel
theorem dX1_putTwo_18 : decode cX1_putTwo 18 = .ok (.iadd, 1) := by decide +kernel
theorem dX1_putTwo_19 : decode cX1_putTwo 19 = .ok (.invokevirtual 69, 3) := by decide +kernel
theorem dX1_putTwo_22 : decode cX1_putTwo 22 = .ok (.return_, 1) := by decide +kernel
set_option maxRecDepth 20000 in
theorem ggX1_putWord_X1_putByte : GoodIn wsX1_putWord wsX1_putByte := goodIn_r _ [5, 6, 7, 8, 9] rfl (by decide +kernel)
set_option maxRecDepth 20000 in
theorem gX1_putWord_X1_putByte : GoodIn wsX1_putWord (wsV RX1 69 RX1 yX1_putByte wsX1_putByte) := goodIn_app (goodIn_of _ (by decide +kernel)) ggX1_putWord_X1_putByte
theorem dX1_putWord_0 : decode cX1_putWord 0 = .ok (.iload_n 2, 1) := by decide +kernel
theorem dX1_putWord_1 : decode cX1_putWord 1 = .ok (.iconst 3, 1) := by decide +kernel
theorem dX1_putWord_2 : decode cX1_putWord 2 = .ok (.imul, 1) := by decide +kernel
theorem dX1_putWord_3 : decode cX1_putWord 3 = .ok (.istore_n 3, 1) := by decide +kernel
theorem dX1_putWord_4 : decode cX1_putWord 4 = .ok (.iload_n 3, 1) := by decide +kernel
theorem dX1_putWord_5 : decode cX1_putWord 5 = .ok (.istore 4, 2) := by decide +kernel
theorem dX1_putWord_7 : decode cX1_putWord 7 = .ok (.iload 4, 2) := by decide +kernel
theorem dX1_putWord_9 : decode cX1_putWord 9 = .ok (.iload_n 3, 1) := by decide +kernel
theorem dX1_putWord_10 : decode cX1_putWord 10 = .ok (.iconst 3, 1) := by decide +kernel
theorem dX1_putWord_11 : decode cX1_putWord 11 = .ok (.iadd, 1) := by decide +kernel
theorem dX1_putWord_12 : decode cX1_putWord 12 = .ok (.if_icmp .ge 29, 3) := by decide +kernel
theorem dX1_putWord_15 : decode cX1_putWord 15 = .ok (.iload 4, 2) := by decide +kernel
theorem dX1_putWord_17 : decode cX1_putWord 17 = .ok (.ifCond .lt 24, 3) := by decide +kernel
theorem dX1_putWord_20 : decode cX1_putWord 20 = .ok (.iload 4, 2) := by decide +kernel
theorem dX1_putWord_22 : decode cX1_putWord 22 = .ok (.aload_n 1, 1) := by decide +kernel
theorem dX1_putWord_23 : decode cX1_putWord 23 = .ok (.arraylength, 1) := by decide +kernel
theorem dX1_putWord_24 : decode cX1_putWord 24 = .ok (.if_icmp .ge 17, 3) := by decide +kernel
theorem dX1_putWord_27 : decode cX1_putWord 27 = .ok (.aload_n 0, 1) := by decide +kernel
theorem dX1_putWord_28 : decode cX1_putWord 28 = .ok (.aload_n 1, 1) := by decide +kernel
theorem dX1_putWord_29 : decode cX1_putWord 29 = .ok (.iload 4, 2) := by decide +kernel
theorem dX1_putWord_31 : decode cX1_putWord 31 = .ok (.caload, 1) := by decide +kernel
theorem dX1_putWord_32 : decode cX1_putWord 32 = .ok (.invokevirtual 69, 3) := by decide +kernel
theorem dX1_putWord_35 : decode cX1_putWord 35 = .ok (.iinc 4 1, 3) := by decide +kernel
theorem dX1_putWord_38 : decode cX1_putWord 38 = .ok (.goto (-31), 3) := by decide +kernel
theorem dX1_putWord_41 : decode cX1_putWord 41 = .ok (.return_, 1) := by decide +kernel
theorem dX1_putByte_0 : decode cX1_putByte 0 = .ok (.aload_n 0, 1) := by decide +kernel
theorem dX1_putByte_1 : decode cX1_putByte 1 = .ok (.getfield 15, 3) := by decide +kernel
theorem dX1_putByte_4 : decode cX1_putByte 4 = .ok (.aload_n 0, 1) := by decide +kernel
theorem dX1_putByte_5 : decode cX1_putByte 5 = .ok (.getfield 11, 3) := by decide +kernel
theorem dX1_putByte_8 : decode cX1_putByte 8 = .ok (.arraylength, 1) := by decide +kernel
theorem dX1_putByte_9 : decode cX1_putByte 9 = .ok (.if_icmp .ge 23, 3) := by decide +kernel
theorem dX1_putByte_12 : decode cX1_putByte 12 = .ok (.aload_n 0, 1) := by decide +kernel
theorem dX1_putByte_13 : decode cX1_putByte 13 = .ok (.getfield 11, 3) := by decide +kernel
theorem dX1_putByte_16 : decode cX1_putByte 16 = .ok (.aload_n 0, 1) := by decide +kernel
theorem dX1_putByte_17 : decode cX1_putByte 17 = .ok (.getfield 15, 3) := by decide +kernel
theorem dX1_putByte_20 : decode cX1_putByte 20 = .ok (.iload_n 1, 1) := by decide +kernel
theorem dX1_putByte_21 : decode cX1_putByte 21 = .ok (.iastore, 1) := by decide +kernel
theorem dX1_putByte_22 : decode cX1_putByte 22 = .ok (.aload_n 0, 1) := by decide +kernel
theorem dX1_putByte_23 : decode cX1_putByte 23 = .ok (.dup, 1) := by decide +kernel
theorem dX1_putByte_24 : decode cX1_putByte 24 = .ok (.getfield 15, 3) := by decide +kernel
theorem dX1_putByte_27 : decode cX1_putByte 27 = .ok (.iconst 1, 1) := by decide +kernel
theorem dX1_putByte_28 : decode cX1_putByte 28 = .ok (.iadd, 1) := by decide +kernel
theorem dX1_putByte_29 : decode cX1_putByte 29 = .ok (.putfield 15, 3) := by decide +kernel
theorem dX1_putByte_32 : decode cX1_putByte 32 = .ok (.return_, 1) := by decide +kernel
theorem dX2_init_0 : decode cX2_init 0 = .ok (.aload_n 0, 1) := by decide +kernel
theorem dX2_init_1 : decode cX2_init 1 = .ok (.invokespecial 3, 3) := by decide +kernel
theorem dX2_init_4 : decode cX2_init 4 = .ok (.aload_n 0, 1) := by decide +kernel
theorem dX2_init_5 : decode cX2_init 5 = .ok (.bipush 24, 2) := by decide +kernel
theorem dX2_init_7 : decode cX2_init 7 = .ok (.newarray .int, 2) := by decide +kernel
theorem dX2_init_9 : decode cX2_init 9 = .ok (.putfield 9, 3) := by decide +kernel
theorem dX2_init_12 : decode cX2_init 12 = .ok (.aload_n 0, 1) := by decide +kernel
theorem dX2_init_13 : decode cX2_init 13 = .ok (.iconst 0, 1) := by decide +kernel
theorem dX2_init_14 : decode cX2_init 14 = .ok (.putfield 15, 3) := by decide +kernel
theorem dX2_init_17 : decode cX2_init 17 = .ok (.return_, 1) := by decide +kernel
theorem dX2_first_0 : decode cX2_first 0 = .ok (.aload_n 0, 1) := by decide +kernel
theorem dX2_first_1 : decode cX2_first 1 = .ok (.getfield 19, 3) := by decide +kernel
theorem dX2_first_4 : decode cX2_first 4 = .ok (.ireturn, 1) := by decide +kernel
theorem dX2_last_0 : decode cX2_last 0 = .ok (.aload_n 0, 1) := by decide +kernel
theorem dX2_last_1 : decode cX2_last 1 = .ok (.getfield 22, 3) := by decide +kernel
theorem dX2_last_4 : decode cX2_last 4 = .ok (.ireturn, 1) := by decide +kernel
set_option maxRecDepth 20000 in
theorem ggX2_hold_X5_lengthOf : GoodIn wsX2_hold wsX5_lengthOf := goodIn_r _ [11, 12, 13, 14, 15, 10, 16, 17, 33, 34, 35] rfl (by decide +kernel)
set_option maxRecDepth 20000 in
theorem gX2_hold_X5_lengthOf : GoodIn wsX2_hold (wsV RX2 25 RX5 yX5_lengthOf wsX5_lengthOf) := goodIn_app (goodIn_of _ (by decide +kernel)) ggX2_hold_X5_lengthOf
set_option maxRecDepth 20000 in
theorem ggX2_hold_X5_byteAt : GoodIn wsX2_hold wsX5_byteAt := goodIn_r _ [21, 22, 23, 8, 9, 10, 11, 12, 13, 14, 15, 16, 17, 33, 34, 35] rfl (by decide +kernel)
set_option maxRecDepth 20000 in
theorem gX2_hold_X5_byteAt : GoodIn wsX2_hold (wsV RX2 37 RX5 yX5_byteAt wsX5_byteAt) := goodIn_app (goodIn_of _ (by decide +kernel)) ggX2_hold_X5_byteAt
theorem dX2_hold_0 : decode cX2_hold 0 = .ok (.aload_n 0, 1) := by decide +kernel
theorem dX2_hold_1 : decode cX2_hold 1 = .ok (.aload_n 1, 1) := by decide +kernel
theorem dX2_hold_2 : decode cX2_hold 2 = .ok (.iload_n 2, 1) := by decide +kernel
theorem dX2_hold_3 : decode cX2_hold 3 = .ok (.invokevirtual 25, 3) := by decide +kernel
theorem dX2_hold_6 : decode cX2_hold 6 = .ok (.bipush 24, 2) := by decide +kernel
theorem dX2_hold_8 : decode cX2_hold 8 = .ok (.invokestatic 31, 3) := by decide +kernel
theorem dX2_hold_11 : decode cX2_hold 11 = .ok (.putfield 15, 3) := by decide +kernel
theorem dX2_hold_14 : decode cX2_hold 14 = .ok (.iconst 0, 1) := by decide +kernel
theorem dX2_hold_15 : decode cX2_hold 15 = .ok (.istore_n 3, 1) := by decide +kernel
theorem dX2_hold_16 : decode cX2_hold 16 = .ok (.iload_n 3, 1) := by decide +kernel
theorem dX2_hold_17 : decode cX2_hold 17 = .ok (.aload_n 0, 1) := by decide +kernel
theorem dX2_hold_18 : decode cX2_hold 18 = .ok (.getfield 15, 3) := by decide +kernel
theorem dX2_hold_21 : decode cX2_hold 21 = .ok (.if_icmp .ge 21, 3) := by decide +kernel
theorem dX2_hold_24 : decode cX2_hold 24 = .ok (.aload_n 0, 1) := by decide +kernel
theorem dX2_hold_25 : decode cX2_hold 25 = .ok (.getfield 9, 3) := by decide +kernel
theorem dX2_hold_28 : decode cX2_hold 28 = .ok (.iload_n 3, 1) := by decide +kernel
theorem dX2_hold_29 : decode cX2_hold 29 = .ok (.aload_n 1, 1) := by decide +kernel
theorem dX2_hold_30 : decode cX2_hold 30 = .ok (.iload_n 2, 1) := by decide +kernel
theorem dX2_hold_31 : decode cX2_hold 31 = .ok (.iload_n 3, 1) := by decide +kernel
theorem dX2_hold_32 : decode cX2_hold 32 = .ok (.invokevirtual 37, 3) := by decide +kernel
theorem dX2_hold_35 : decode cX2_hold 35 = .ok (.iastore, 1) := by decide +kernel
theorem dX2_hold_36 : decode cX2_hold 36 = .ok (.iinc 3 1, 3) := by decide +kernel
theorem dX2_hold_39 : decode cX2_hold 39 = .ok (.goto (-23), 3) := by decide +kernel
theorem dX2_hold_42 : decode cX2_hold 42 = .ok (.return_, 1) := by decide +kernel
set_option maxRecDepth 20000 in
theorem ggX2_scan_X5_lengthOf : GoodIn wsX2_scan wsX5_lengthOf := goodIn_r _ [13, 14, 15, 16, 17, 12, 18, 19, 94, 95, 96] rfl (by decide +kernel)
set_option maxRecDepth 20000 in
theorem gX2_scan_X5_lengthOf : GoodIn wsX2_scan (wsV RX2 25 RX5 yX5_lengthOf wsX5_lengthOf) := goodIn_app (goodIn_of _ (by decide +kernel)) ggX2_scan_X5_lengthOf
set_option maxRecDepth 20000 in
theorem ggX2_scan_X5_byteAt : GoodIn wsX2_scan wsX5_byteAt := goodIn_r _ [23, 24, 25, 10, 11, 12, 13, 14, 15, 16, 17, 18, 19, 94, 95, 96] rfl (by decide +kernel)
set_option maxRecDepth 20000 in
theorem gX2_scan_X5_byteAt : GoodIn wsX2_scan (wsV RX2 37 RX5 yX5_byteAt wsX5_byteAt) := goodIn_app (goodIn_of _ (by decide +kernel)) ggX2_scan_X5_byteAt
set_option maxRecDepth 20000 in
theorem ggX2_scan_X2_take : GoodIn wsX2_scan wsX2_take := goodIn_r _ [30, 2, 3, 31, 4, 32, 5, 33, 34, 35, 29, 36, 1, 8, 37, 38, 39, 40, 41, 42, 43, 44, 45, 46, 47, 48, 49, 50, 51, 52, 53, 54, 55, 56, 57, 58, 59, 60, 61, 62, 63, 64, 65, 85, 86, 87, 88, 89, 90, 91, 92, 93] rfl (by decide +kernel)
set_option maxRecDepth 20000 in
theorem gX2_scan_X2_take : GoodIn wsX2_scan (wsV RX2 55 RX2 yX2_take wsX2_take) := goodIn_app (goodIn_of _ (by decide +kernel)) ggX2_scan_X2_take
set_option maxRecDepth 20000 in
theorem ggX2_scan_X2_findSpan : GoodIn wsX2_scan wsX2_findSpan := goodIn_r _ [69, 2, 3, 4, 5, 6, 7, 70, 71, 72, 73, 74, 75, 76, 77, 78, 79, 80, 81, 82, 83, 84, 85, 86, 87, 88, 89, 90, 91, 92, 93] rfl (by decide +kernel)
set_option maxRecDepth 20000 in
theorem gX2_scan_X2_findSpan : GoodIn wsX2_scan (wsV RX2 59 RX2 yX2_findSpan wsX2_findSpan) := goodIn_app (goodIn_of _ (by decide +kernel)) ggX2_scan_X2_findSpan
theorem dX2_scan_0 : decode cX2_scan 0 = .ok (.aload_n 0, 1) := by decide +kernel
theorem dX2_scan_1 : decode cX2_scan 1 = .ok (.iconst 0, 1) := by decide +kernel
theorem dX2_scan_2 : decode cX2_scan 2 = .ok (.putfield 40, 3) := by decide +kernel
theorem dX2_scan_5 : decode cX2_scan 5 = .ok (.aload_n 0, 1) := by decide +kernel
theorem dX2_scan_6 : decode cX2_scan 6 = .ok (.iconst (-1), 1) := by decide +kernel
theorem dX2_scan_7 : decode cX2_scan 7 = .ok (.putfield 43, 3) := by decide +kernel
theorem dX2_scan_10 : decode cX2_scan 10 = .ok (.aload_n 0, 1) := by decide +kernel
theorem dX2_scan_11 : decode cX2_scan 11 = .ok (.iconst (-1), 1) := by decide +kernel
theorem dX2_scan_12 : decode cX2_scan 12 = .ok (.putfield 46, 3) := by decide +kernel
theorem dX2_scan_15 : decode cX2_scan 15 = .ok (.aload_n 0, 1) := by decide +kernel
theorem dX2_scan_16 : decode cX2_scan 16 = .ok (.iconst (-1), 1) := by decide +kernel
theorem dX2_scan_17 : decode cX2_scan 17 = .ok (.putfield 49, 3) := by decide +kernel
theorem dX2_scan_20 : decode cX2_scan 20 = .ok (.aload_n 0, 1) := by decide +kernel
theorem dX2_scan_21 : decode cX2_scan 21 = .ok (.iconst (-1), 1) := by decide +kernel
theorem dX2_scan_22 : decode cX2_scan 22 = .ok (.putfield 52, 3) := by decide +kernel
theorem dX2_scan_25 : decode cX2_scan 25 = .ok (.aload_n 0, 1) := by decide +kernel
theorem dX2_scan_26 : decode cX2_scan 26 = .ok (.iconst (-1), 1) := by decide +kernel
theorem dX2_scan_27 : decode cX2_scan 27 = .ok (.putfield 19, 3) := by decide +kernel
theorem dX2_scan_30 : decode cX2_scan 30 = .ok (.aload_n 0, 1) := by decide +kernel
theorem dX2_scan_31 : decode cX2_scan 31 = .ok (.iconst (-1), 1) := by decide +kernel
theorem dX2_scan_32 : decode cX2_scan 32 = .ok (.putfield 22, 3) := by decide +kernel
theorem dX2_scan_35 : decode cX2_scan 35 = .ok (.aload_n 1, 1) := by decide +kernel
theorem dX2_scan_36 : decode cX2_scan 36 = .ok (.iload_n 2, 1) := by decide +kernel
theorem dX2_scan_37 : decode cX2_scan 37 = .ok (.invokevirtual 25, 3) := by decide +kernel
theorem dX2_scan_40 : decode cX2_scan 40 = .ok (.istore 4, 2) := by decide +kernel
theorem dX2_scan_42 : decode cX2_scan 42 = .ok (.iconst 1, 1) := by decide +kernel
theorem dX2_scan_43 : decode cX2_scan 43 = .ok (.istore 5, 2) := by decide +kernel
theorem dX2_scan_45 : decode cX2_scan 45 = .ok (.iconst 0, 1) := by decide +kernel
theorem dX2_scan_46 : decode cX2_scan 46 = .ok (.istore 6, 2) := by decide +kernel
theorem dX2_scan_48 : decode cX2_scan 48 = .ok (.iload 6, 2) := by decide +kernel
theorem dX2_scan_50 : decode cX2_scan 50 = .ok (.iload 4, 2) := by decide +kernel
theorem dX2_scan_52 : decode cX2_scan 52 = .ok (.if_icmp .ge 28, 3) := by decide +kernel
theorem dX2_scan_55 : decode cX2_scan 55 = .ok (.iload 5, 2) := by decide +kernel
theorem dX2_scan_57 : decode cX2_scan 57 = .ok (.ifCond .eq 23, 3) := by decide +kernel
theorem dX2_scan_60 : decode cX2_scan 60 = .ok (.aload_n 0, 1) := by decide +kernel
theorem dX2_scan_61 : decode cX2_scan 61 = .ok (.aload_n 1, 1) := by decide +kernel
theorem dX2_scan_62 : decode cX2_scan 62 = .ok (.iload_n 2, 1) := by decide +kernel
theorem dX2_scan_63 : decode cX2_scan 63 = .ok (.iload 6, 2) := by decide +kernel
theorem dX2_scan_65 : decode cX2_scan 65 = .ok (.invokevirtual 37, 3) := by decide +kernel
theorem dX2_scan_68 : decode cX2_scan 68 = .ok (.iload_n 3, 1) := by decide +kernel
theorem dX2_scan_69 : decode cX2_scan 69 = .ok (.invokevirtual 55, 3) := by decide +kernel
theorem dX2_scan_72 : decode cX2_scan 72 = .ok (.istore 5, 2) := by decide +kernel
theorem dX2_scan_74 : decode cX2_scan 74 = .ok (.iinc 6 1, 3) := by decide +kernel
theorem dX2_scan_77 : decode cX2_scan 77 = .ok (.goto (-29), 3) := by decide +kernel
theorem dX2_scan_80 : decode cX2_scan 80 = .ok (.iload 5, 2) := by decide +kernel
theorem dX2_scan_82 : decode cX2_scan 82 = .ok (.ifCond .eq 18, 3) := by decide +kernel
theorem dX2_scan_85 : decode cX2_scan 85 = .ok (.aload_n 0, 1) := by decide +kernel
theorem dX2_scan_86 : decode cX2_scan 86 = .ok (.getfield 40, 3) := by decide +kernel
theorem dX2_scan_89 : decode cX2_scan 89 = .ok (.aload_n 0, 1) := by decide +kernel
theorem dX2_scan_90 : decode cX2_scan 90 = .ok (.getfield 15, 3) := by decide +kernel
theorem dX2_scan_93 : decode cX2_scan 93 = .ok (.if_icmp .ne 7, 3) := by decide +kernel
theorem dX2_scan_96 : decode cX2_scan 96 = .ok (.aload_n 0, 1) := by decide +kernel
theorem dX2_scan_97 : decode cX2_scan 97 = .ok (.invokevirtual 59, 3) := by decide +kernel
theorem dX2_scan_100 : decode cX2_scan 100 = .ok (.return_, 1) := by decide +kernel
set_option maxRecDepth 20000 in
theorem ggX2_take_X2_digitsHere : GoodIn wsX2_take wsX2_digitsHere := goodIn_r _ [11, 12, 13, 14, 43, 44, 45, 46, 47, 48, 49, 50, 51] rfl (by decide +kernel)
set_option maxRecDepth 20000 in
theorem gX2_take_X2_digitsHere : GoodIn wsX2_take (wsV RX2 62 RX2 yX2_digitsHere wsX2_digitsHere) := goodIn_app (goodIn_of _ (by decide +kernel)) ggX2_take_X2_digitsHere
set_option maxRecDepth 20000 in
theorem ggX2_take_X2_takeDigits : GoodIn wsX2_take wsX2_takeDigits := goodIn_r _ [18, 13, 12, 14, 43, 44, 45, 46, 47, 48, 49, 50, 51] rfl (by decide +kernel)
set_option maxRecDepth 20000 in
theorem gX2_take_X2_takeDigits : GoodIn wsX2_take (wsV RX2 66 RX2 yX2_takeDigits wsX2_takeDigits) := goodIn_app (goodIn_of _ (by decide +kernel)) ggX2_take_X2_takeDigits
set_option maxRecDepth 20000 in
theorem ggX2_take_X2_takeWord : GoodIn wsX2_take wsX2_takeWord := goodIn_r _ [22, 12, 23, 24, 25, 10, 26, 13, 14, 43, 44, 45, 46, 47, 48, 49, 50, 51] rfl (by decide +kernel)
set_option maxRecDepth 20000 in
theorem gX2_take_X2_takeWord : GoodIn wsX2_take (wsV RX2 75 RX2 yX2_takeWord wsX2_takeWord) := goodIn_app (goodIn_of _ (by decide +kernel)) ggX2_take_X2_takeWord
set_option maxRecDepth 20000 in
theorem ggX2_take_X2_takeShortYear : GoodIn wsX2_take wsX2_takeShortYear := goodIn_r _ [30, 15, 16, 17, 10, 18, 13, 12, 14, 31, 32, 33, 34, 43, 44, 45, 46, 47, 48, 49, 50, 51] rfl (by decide +kernel)
set_option maxRecDepth 20000 in
theorem gX2_take_X2_takeShortYear : GoodIn wsX2_take (wsV RX2 79 RX2 yX2_takeShortYear wsX2_takeShortYear) := goodIn_app (goodIn_of _ (by decide +kernel)) ggX2_take_X2_takeShortYear
set_option maxRecDepth 20000 in
theorem ggX2_take_X2_takeBlanks : GoodIn wsX2_take wsX2_takeBlanks := goodIn_r _ [38, 12, 13, 14, 43, 44, 45, 46, 47, 48, 49, 50, 51] rfl (by decide +kernel)
set_option maxRecDepth 20000 in
theorem gX2_take_X2_takeBlanks : GoodIn wsX2_take (wsV RX2 85 RX2 yX2_takeBlanks wsX2_takeBlanks) := goodIn_app (goodIn_of _ (by decide +kernel)) ggX2_take_X2_takeBlanks
set_option maxRecDepth 20000 in
theorem ggX2_take_X2_takeByte : GoodIn wsX2_take wsX2_takeByte := goodIn_r _ [42, 12, 13, 14, 43, 44, 45, 46, 47, 48, 49, 50, 51] rfl (by decide +kernel)
set_option maxRecDepth 20000 in
theorem gX2_take_X2_takeByte : GoodIn wsX2_take (wsV RX2 89 RX2 yX2_takeByte wsX2_takeByte) := goodIn_app (goodIn_of _ (by decide +kernel)) ggX2_take_X2_takeByte
theorem dX2_take_0 : decode cX2_take 0 = .ok (.iload_n 1, 1) := by decide +kernel
theorem dX2_take_1 : decode cX2_take 1 = .ok (.lookupswitch 222 #[(32, 217), (68, 67), (77, 93), (78, 119), (87, 192), (89, 146), (121, 169)], 67) := by decide +kernel
theorem dX2_take_68 : decode cX2_take 68 = .ok (.aload_n 0, 1) := by decide +kernel
theorem dX2_take_69 : decode cX2_take 69 = .ok (.aload_n 0, 1) := by decide +kernel
theorem dX2_take_70 : decode cX2_take 70 = .ok (.aload_n 0, 1) := by decide +kernel
theorem dX2_take_71 : decode cX2_take 71 = .ok (.invokevirtual 62, 3) := by decide +kernel
theorem dX2_take_74 : decode cX2_take 74 = .ok (.invokevirtual 66, 3) := by decide +kernel
theorem dX2_take_77 : decode cX2_take 77 = .ok (.putfield 43, 3) := by decide +kernel
theorem dX2_take_80 : decode cX2_take 80 = .ok (.aload_n 0, 1) := by decide +kernel
theorem dX2_take_81 : decode cX2_take 81 = .ok (.getfield 43, 3) := by decide +kernel
theorem dX2_take_84 : decode cX2_take 84 = .ok (.iconst (-1), 1) := by decide +kernel
theorem dX2_take_85 : decode cX2_take 85 = .ok (.if_icmp .eq 7, 3) := by decide +kernel
theorem dX2_take_88 : decode cX2_take 88 = .ok (.iconst 1, 1) := by decide +kernel
theorem dX2_take_89 : decode cX2_take 89 = .ok (.goto 4, 3) := by decide +kernel
theorem dX2_take_92 : decode cX2_take 92 = .ok (.iconst 0, 1) := by decide +kernel
theorem dX2_take_93 : decode cX2_take 93 = .ok (.ireturn, 1) := by decide +kernel
theorem dX2_take_94 : decode cX2_take 94 = .ok (.aload_n 0, 1) := by decide +kernel
theorem dX2_take_95 : decode cX2_take 95 = .ok (.aload_n 0, 1) := by decide +kernel
theorem dX2_take_96 : decode cX2_take 96 = .ok (.aload_n 0, 1) := by decide +kernel
theorem dX2_take_97 : decode cX2_take 97 = .ok (.invokevirtual 62, 3) := by decide +kernel
theorem dX2_take_100 : decode cX2_take 100 = .ok (.invokevirtual 66, 3) := by decide +kernel
theorem dX2_take_103 : decode cX2_take 103 = .ok (.putfield 46, 3) := by decide +kernel
theorem dX2_take_106 : decode cX2_take 106 = .ok (.aload_n 0, 1) := by decide +kernel
theorem dX2_take_107 : decode cX2_take 107 = .ok (.getfield 46, 3) := by decide +kernel
theorem dX2_take_110 : decode cX2_take 110 = .ok (.iconst (-1), 1) := by decide +kernel
theorem dX2_take_111 : decode cX2_take 111 = .ok (.if_icmp .eq 7, 3) := by decide +kernel
theorem dX2_take_114 : decode cX2_take 114 = .ok (.iconst 1, 1) := by decide +kernel
theorem dX2_take_115 : decode cX2_take 115 = .ok (.goto 4, 3) := by decide +kernel
theorem dX2_take_118 : decode cX2_take 118 = .ok (.iconst 0, 1) := by decide +kernel
theorem dX2_take_119 : decode cX2_take 119 = .ok (.ireturn, 1) := by decide +kernel
theorem dX2_take_120 : decode cX2_take 120 = .ok (.aload_n 0, 1) := by decide +kernel
theorem dX2_take_121 : decode cX2_take 121 = .ok (.iconst 1, 1) := by decide +kernel
theorem dX2_take_122 : decode cX2_take 122 = .ok (.aload_n 0, 1) := by decide +kernel
theorem dX2_take_123 : decode cX2_take 123 = .ok (.getstatic 69, 3) := by decide +kernel
theorem dX2_take_126 : decode cX2_take 126 = .ok (.invokevirtual 75, 3) := by decide +kernel
theorem dX2_take_129 : decode cX2_take 129 = .ok (.iadd, 1) := by decide +kernel
theorem dX2_take_130 : decode cX2_take 130 = .ok (.putfield 46, 3) := by decide +kernel
theorem dX2_take_133 : decode cX2_take 133 = .ok (.aload_n 0, 1) := by decide +kernel
theorem dX2_take_134 : decode cX2_take 134 = .ok (.getfield 46, 3) := by decide +kernel
theorem dX2_take_137 : decode cX2_take 137 = .ok (.iconst 1, 1) := by decide +kernel
theorem dX2_take_138 : decode cX2_take 138 = .ok (.if_icmp .lt 7, 3) := by decide +kernel
theorem dX2_take_141 : decode cX2_take 141 = .ok (.iconst 1, 1) := by decide +kernel
theorem dX2_take_142 : decode cX2_take 142 = .ok (.goto 4, 3) := by decide +kernel
theorem dX2_take_145 : decode cX2_take 145 = .ok (.iconst 0, 1) := by decide +kernel
theorem dX2_take_146 : decode cX2_take 146 = .ok (.ireturn, 1) := by decide +kernel
theorem dX2_take_147 : decode cX2_take 147 = .ok (.aload_n 0, 1) := by decide +kernel
theorem dX2_take_148 : decode cX2_take 148 = .ok (.aload_n 0, 1) := by decide +kernel
theorem dX2_take_149 : decode cX2_take 149 = .ok (.iconst 4, 1) := by decide +kernel
theorem dX2_take_150 : decode cX2_take 150 = .ok (.invokevirtual 66, 3) := by decide +kernel
theorem dX2_take_153 : decode cX2_take 153 = .ok (.putfield 49, 3) := by decide +kernel
theorem dX2_take_156 : decode cX2_take 156 = .ok (.aload_n 0, 1) := by decide +kernel
theorem dX2_take_157 : decode cX2_take 157 = .ok (.getfield 49, 3) := by decide +kernel
theorem dX2_take_160 : decode cX2_take 160 = .ok (.iconst (-1), 1) := by decide +kernel
theorem dX2_take_161 : decode cX2_take 161 = .ok (.if_icmp .eq 7, 3) := by decide +kernel
theorem dX2_take_164 : decode cX2_take 164 = .ok (.iconst 1, 1) := by decide +kernel
theorem dX2_take_165 : decode cX2_take 165 = .ok (.goto 4, 3) := by decide +kernel
theorem dX2_take_168 : decode cX2_take 168 = .ok (.iconst 0, 1) := by decide +kernel
theorem dX2_take_169 : decode cX2_take 169 = .ok (.ireturn, 1) := by decide +kernel
theorem dX2_take_170 : decode cX2_take 170 = .ok (.aload_n 0, 1) := by decide +kernel
theorem dX2_take_171 : decode cX2_take 171 = .ok (.aload_n 0, 1) := by decide +kernel
theorem dX2_take_172 : decode cX2_take 172 = .ok (.iload_n 2, 1) := by decide +kernel
theorem dX2_take_173 : decode cX2_take 173 = .ok (.invokevirtual 79, 3) := by decide +kernel
theorem dX2_take_176 : decode cX2_take 176 = .ok (.putfield 49, 3) := by decide +kernel
theorem dX2_take_179 : decode cX2_take 179 = .ok (.aload_n 0, 1) := by decide +kernel
theorem dX2_take_180 : decode cX2_take 180 = .ok (.getfield 49, 3) := by decide +kernel
theorem dX2_take_183 : decode cX2_take 183 = .ok (.iconst (-1), 1) := by decide +kernel
theorem dX2_take_184 : decode cX2_take 184 = .ok (.if_icmp .eq 7, 3) := by decide +kernel
theorem dX2_take_187 : decode cX2_take 187 = .ok (.iconst 1, 1) := by decide +kernel
theorem dX2_take_188 : decode cX2_take 188 = .ok (.goto 4, 3) := by decide +kernel
theorem dX2_take_191 : decode cX2_take 191 = .ok (.iconst 0, 1) := by decide +kernel
theorem dX2_take_192 : decode cX2_take 192 = .ok (.ireturn, 1) := by decide +kernel
theorem dX2_take_193 : decode cX2_take 193 = .ok (.aload_n 0, 1) := by decide +kernel
theorem dX2_take_194 : decode cX2_take 194 = .ok (.aload_n 0, 1) := by decide +kernel
theorem dX2_take_195 : decode cX2_take 195 = .ok (.getstatic 82, 3) := by decide +kernel
theorem dX2_take_198 : decode cX2_take 198 = .ok (.invokevirtual 75, 3) := by decide +kernel
theorem dX2_take_201 : decode cX2_take 201 = .ok (.putfield 52, 3) := by decide +kernel
theorem dX2_take_204 : decode cX2_take 204 = .ok (.aload_n 0, 1) := by decide +kernel
theorem dX2_take_205 : decode cX2_take 205 = .ok (.getfield 52, 3) := by decide +kernel
theorem dX2_take_208 : decode cX2_take 208 = .ok (.iconst (-1), 1) := by decide +kernel
theorem dX2_take_209 : decode cX2_take 209 = .ok (.if_icmp .eq 7, 3) := by decide +kernel
theorem dX2_take_212 : decode cX2_take 212 = .ok (.iconst 1, 1) := by decide +kernel
theorem dX2_take_213 : decode cX2_take 213 = .ok (.goto 4, 3) := by decide +kernel
theorem dX2_take_216 : decode cX2_take 216 = .ok (.iconst 0, 1) := by decide +kernel
theorem dX2_take_217 : decode cX2_take 217 = .ok (.ireturn, 1) := by decide +kernel
theorem dX2_take_218 : decode cX2_take 218 = .ok (.aload_n 0, 1) := by decide +kernel
theorem dX2_take_219 : decode cX2_take 219 = .ok (.invokevirtual 85, 3) := by decide +kernel
theorem dX2_take_222 : decode cX2_take 222 = .ok (.ireturn, 1) := by decide +kernel
theorem dX2_take_223 : decode cX2_take 223 = .ok (.aload_n 0, 1) := by decide +kernel
theorem dX2_take_224 : decode cX2_take 224 = .ok (.iload_n 1, 1) := by decide +kernel
theorem dX2_take_225 : decode cX2_take 225 = .ok (.invokevirtual 89, 3) := by decide +kernel
theorem dX2_take_228 : decode cX2_take 228 = .ok (.ireturn, 1) := by decide +kernel
theorem dX2_digitsHere_0 : decode cX2_digitsHere 0 = .ok (.aload_n 0, 1) := by decide +kernel
theorem dX2_digitsHere_1 : decode cX2_digitsHere 1 = .ok (.getfield 40, 3) := by decide +kernel
theorem dX2_digitsHere_4 : decode cX2_digitsHere 4 = .ok (.iconst 1, 1) := by decide +kernel
theorem dX2_digitsHere_5 : decode cX2_digitsHere 5 = .ok (.iadd, 1) := by decide +kernel
theorem dX2_digitsHere_6 : decode cX2_digitsHere 6 = .ok (.istore_n 1, 1) := by decide +kernel
theorem dX2_digitsHere_7 : decode cX2_digitsHere 7 = .ok (.iload_n 1, 1) := by decide +kernel
theorem dX2_digitsHere_8 : decode cX2_digitsHere 8 = .ok (.aload_n 0, 1) := by decide +kernel
theorem dX2_digitsHere_9 : decode cX2_digitsHere 9 = .ok (.getfield 15, 3) := by decide +kernel
theorem dX2_digitsHere_12 : decode cX2_digitsHere 12 = .ok (.if_icmp .ge 29, 3) := by decide +kernel
theorem dX2_digitsHere_15 : decode cX2_digitsHere 15 = .ok (.aload_n 0, 1) := by decide +kernel
theorem dX2_digitsHere_16 : decode cX2_digitsHere 16 = .ok (.getfield 9, 3) := by decide +kernel
theorem dX2_digitsHere_19 : decode cX2_digitsHere 19 = .ok (.iload_n 1, 1) := by decide +kernel
theorem dX2_digitsHere_20 : decode cX2_digitsHere 20 = .ok (.iaload, 1) := by decide +kernel
theorem dX2_digitsHere_21 : decode cX2_digitsHere 21 = .ok (.bipush 48, 2) := by decide +kernel
theorem dX2_digitsHere_23 : decode cX2_digitsHere 23 = .ok (.if_icmp .lt 18, 3) := by decide +kernel
theorem dX2_digitsHere_26 : decode cX2_digitsHere 26 = .ok (.aload_n 0, 1) := by decide +kernel
theorem dX2_digitsHere_27 : decode cX2_digitsHere 27 = .ok (.getfield 9, 3) := by decide +kernel
theorem dX2_digitsHere_30 : decode cX2_digitsHere 30 = .ok (.iload_n 1, 1) := by decide +kernel
theorem dX2_digitsHere_31 : decode cX2_digitsHere 31 = .ok (.iaload, 1) := by decide +kernel
theorem dX2_digitsHere_32 : decode cX2_digitsHere 32 = .ok (.bipush 57, 2) := by decide +kernel
theorem dX2_digitsHere_34 : decode cX2_digitsHere 34 = .ok (.if_icmp .gt 7, 3) := by decide +kernel
theorem dX2_digitsHere_37 : decode cX2_digitsHere 37 = .ok (.iconst 2, 1) := by decide +kernel
theorem dX2_digitsHere_38 : decode cX2_digitsHere 38 = .ok (.goto 4, 3) := by decide +kernel
theorem dX2_digitsHere_41 : decode cX2_digitsHere 41 = .ok (.iconst 1, 1) := by decide +kernel
theorem dX2_digitsHere_42 : decode cX2_digitsHere 42 = .ok (.ireturn, 1) := by decide +kernel
theorem dX2_takeDigits_0 : decode cX2_takeDigits 0 = .ok (.iload_n 1, 1) := by decide +kernel
theorem dX2_takeDigits_1 : decode cX2_takeDigits 1 = .ok (.aload_n 0, 1) := by decide +kernel
theorem dX2_takeDigits_2 : decode cX2_takeDigits 2 = .ok (.getfield 15, 3) := by decide +kernel
theorem dX2_takeDigits_5 : decode cX2_takeDigits 5 = .ok (.aload_n 0, 1) := by decide +kernel
theorem dX2_takeDigits_6 : decode cX2_takeDigits 6 = .ok (.getfield 40, 3) := by decide +kernel
theorem dX2_takeDigits_9 : decode cX2_takeDigits 9 = .ok (.isub, 1) := by decide +kernel
theorem dX2_takeDigits_10 : decode cX2_takeDigits 10 = .ok (.if_icmp .le 5, 3) := by decide +kernel
theorem dX2_takeDigits_13 : decode cX2_takeDigits 13 = .ok (.iconst (-1), 1) := by decide +kernel
theorem dX2_takeDigits_14 : decode cX2_takeDigits 14 = .ok (.ireturn, 1) := by decide +kernel
theorem dX2_takeDigits_15 : decode cX2_takeDigits 15 = .ok (.iconst 0, 1) := by decide +kernel
theorem dX2_takeDigits_16 : decode cX2_takeDigits 16 = .ok (.istore_n 2, 1) := by decide +kernel
theorem dX2_takeDigits_17 : decode cX2_takeDigits 17 = .ok (.aload_n 0, 1) := by decide +kernel
theorem dX2_takeDigits_18 : decode cX2_takeDigits 18 = .ok (.getfield 40, 3) := by decide +kernel
theorem dX2_takeDigits_21 : decode cX2_takeDigits 21 = .ok (.istore_n 3, 1) := by decide +kernel
theorem dX2_takeDigits_22 : decode cX2_takeDigits 22 = .ok (.iload_n 3, 1) := by decide +kernel
theorem dX2_takeDigits_23 : decode cX2_takeDigits 23 = .ok (.aload_n 0, 1) := by decide +kernel
theorem dX2_takeDigits_24 : decode cX2_takeDigits 24 = .ok (.getfield 40, 3) := by decide +kernel
theorem dX2_takeDigits_27 : decode cX2_takeDigits 27 = .ok (.iload_n 1, 1) := by decide +kernel
theorem dX2_takeDigits_28 : decode cX2_takeDigits 28 = .ok (.iadd, 1) := by decide +kernel
theorem dX2_takeDigits_29 : decode cX2_takeDigits 29 = .ok (.if_icmp .ge 48, 3) := by decide +kernel
theorem dX2_takeDigits_32 : decode cX2_takeDigits 32 = .ok (.aload_n 0, 1) := by decide +kernel
theorem dX2_takeDigits_33 : decode cX2_takeDigits 33 = .ok (.getfield 9, 3) := by decide +kernel
theorem dX2_takeDigits_36 : decode cX2_takeDigits 36 = .ok (.iload_n 3, 1) := by decide +kernel
theorem dX2_takeDigits_37 : decode cX2_takeDigits 37 = .ok (.iaload, 1) := by decide +kernel
theorem dX2_takeDigits_38 : decode cX2_takeDigits 38 = .ok (.bipush 48, 2) := by decide +kernel
theorem dX2_takeDigits_40 : decode cX2_takeDigits 40 = .ok (.if_icmp .lt 14, 3) := by decide +kernel
theorem dX2_takeDigits_43 : decode cX2_takeDigits 43 = .ok (.aload_n 0, 1) := by decide +kernel
theorem dX2_takeDigits_44 : decode cX2_takeDigits 44 = .ok (.getfield 9, 3) := by decide +kernel
theorem dX2_takeDigits_47 : decode cX2_takeDigits 47 = .ok (.iload_n 3, 1) := by decide +kernel
theorem dX2_takeDigits_48 : decode cX2_takeDigits 48 = .ok (.iaload, 1) := by decide +kernel
theorem dX2_takeDigits_49 : decode cX2_takeDigits 49 = .ok (.bipush 57, 2) := by decide +kernel
theorem dX2_takeDigits_51 : decode cX2_takeDigits 51 = .ok (.if_icmp .le 5, 3) := by decide +kernel
theorem dX2_takeDigits_54 : decode cX2_takeDigits 54 = .ok (.iconst (-1), 1) := by decide +kernel
theorem dX2_takeDigits_55 : decode cX2_takeDigits 55 = .ok (.ireturn, 1) := by decide +kernel
theorem dX2_takeDigits_56 : decode cX2_takeDigits 56 = .ok (.iload_n 2, 1) := by decide +kernel
theorem dX2_takeDigits_57 : decode cX2_takeDigits 57 = .ok (.bipush 10, 2) := by decide +kernel
theorem dX2_takeDigits_59 : decode cX2_takeDigits 59 = .ok (.imul, 1) := by decide +kernel
theorem dX2_takeDigits_60 : decode cX2_takeDigits 60 = .ok (.aload_n 0, 1) := by decide +kernel
theorem dX2_takeDigits_61 : decode cX2_takeDigits 61 = .ok (.getfield 9, 3) := by decide +kernel
theorem dX2_takeDigits_64 : decode cX2_takeDigits 64 = .ok (.iload_n 3, 1) := by decide +kernel
theorem dX2_takeDigits_65 : decode cX2_takeDigits 65 = .ok (.iaload, 1) := by decide +kernel
theorem dX2_takeDigits_66 : decode cX2_takeDigits 66 = .ok (.iadd, 1) := by decide +kernel
theorem dX2_takeDigits_67 : decode cX2_takeDigits 67 = .ok (.bipush 48, 2) := by decide +kernel
theorem dX2_takeDigits_69 : decode cX2_takeDigits 69 = .ok (.isub, 1) := by decide +kernel
theorem dX2_takeDigits_70 : decode cX2_takeDigits 70 = .ok (.istore_n 2, 1) := by decide +kernel
theorem dX2_takeDigits_71 : decode cX2_takeDigits 71 = .ok (.iinc 3 1, 3) := by decide +kernel
theorem dX2_takeDigits_74 : decode cX2_takeDigits 74 = .ok (.goto (-52), 3) := by decide +kernel
theorem dX2_takeDigits_77 : decode cX2_takeDigits 77 = .ok (.aload_n 0, 1) := by decide +kernel
theorem dX2_takeDigits_78 : decode cX2_takeDigits 78 = .ok (.dup, 1) := by decide +kernel
theorem dX2_takeDigits_79 : decode cX2_takeDigits 79 = .ok (.getfield 40, 3) := by decide +kernel
theorem dX2_takeDigits_82 : decode cX2_takeDigits 82 = .ok (.iload_n 1, 1) := by decide +kernel
theorem dX2_takeDigits_83 : decode cX2_takeDigits 83 = .ok (.iadd, 1) := by decide +kernel
theorem dX2_takeDigits_84 : decode cX2_takeDigits 84 = .ok (.putfield 40, 3) := by decide +kernel
theorem dX2_takeDigits_87 : decode cX2_takeDigits 87 = .ok (.iload_n 2, 1) := by decide +kernel
theorem dX2_takeDigits_88 : decode cX2_takeDigits 88 = .ok (.ireturn, 1) := by decide +kernel
set_option maxRecDepth 20000 in
theorem ggX2_takeShortYear_X2_takeDigits : GoodIn wsX2_takeShortYear wsX2_takeDigits := goodIn_r _ [5, 6, 7, 8, 13, 14, 15, 16, 17, 18, 19, 20, 21] rfl (by decide +kernel)
set_option maxRecDepth 20000 in
theorem gX2_takeShortYear_X2_takeDigits : GoodIn wsX2_takeShortYear (wsV RX2 66 RX2 yX2_takeDigits wsX2_takeDigits) := goodIn_app (goodIn_of _ (by decide +kernel)) ggX2_takeShortYear_X2_takeDigits
set_option maxRecDepth 20000 in
theorem ggX2_takeShortYear_J9_floorMod_7cf53 : GoodIn wsX2_takeShortYear wsJ9_floorMod_7cf53 := goodIn_r _ [12] rfl (by decide +kernel)
set_option maxRecDepth 20000 in
theorem gX2_takeShortYear_J9_floorMod_7cf53 : GoodIn wsX2_takeShortYear (va_wsS RX2 93 yJ9_floorMod_7cf53 wsJ9_floorMod_7cf53) := goodIn_app (goodIn_of _ (by decide +kernel)) ggX2_takeShortYear_J9_floorMod_7cf53
theorem dX2_takeShortYear_0 : decode cX2_takeShortYear 0 = .ok (.aload_n 0, 1) := by decide +kernel
theorem dX2_takeShortYear_1 : decode cX2_takeShortYear 1 = .ok (.iconst 2, 1) := by decide +kernel
theorem dX2_takeShortYear_2 : decode cX2_takeShortYear 2 = .ok (.invokevirtual 66, 3) := by decide +kernel
theorem dX2_takeShortYear_5 : decode cX2_takeShortYear 5 = .ok (.istore_n 2, 1) := by decide +kernel
theorem dX2_takeShortYear_6 : decode cX2_takeShortYear 6 = .ok (.iload_n 2, 1) := by decide +kernel
theorem dX2_takeShortYear_7 : decode cX2_takeShortYear 7 = .ok (.iconst (-1), 1) := by decide +kernel
theorem dX2_takeShortYear_8 : decode cX2_takeShortYear 8 = .ok (.if_icmp .ne 7, 3) := by decide +kernel
theorem dX2_takeShortYear_11 : decode cX2_takeShortYear 11 = .ok (.iconst (-1), 1) := by decide +kernel
theorem dX2_takeShortYear_12 : decode cX2_takeShortYear 12 = .ok (.goto 13, 3) := by decide +kernel
theorem dX2_takeShortYear_15 : decode cX2_takeShortYear 15 = .ok (.iload_n 1, 1) := by decide +kernel
theorem dX2_takeShortYear_16 : decode cX2_takeShortYear 16 = .ok (.iload_n 2, 1) := by decide +kernel
theorem dX2_takeShortYear_17 : decode cX2_takeShortYear 17 = .ok (.iload_n 1, 1) := by decide +kernel
theorem dX2_takeShortYear_18 : decode cX2_takeShortYear 18 = .ok (.isub, 1) := by decide +kernel
theorem dX2_takeShortYear_19 : decode cX2_takeShortYear 19 = .ok (.bipush 100, 2) := by decide +kernel
theorem dX2_takeShortYear_21 : decode cX2_takeShortYear 21 = .ok (.invokestatic 93, 3) := by decide +kernel
theorem dX2_takeShortYear_24 : decode cX2_takeShortYear 24 = .ok (.iadd, 1) := by decide +kernel
theorem dX2_takeShortYear_25 : decode cX2_takeShortYear 25 = .ok (.ireturn, 1) := by decide +kernel
set_option maxRecDepth 20000 in
theorem ggX2_takeWord_X2_standsHere : GoodIn wsX2_takeWord wsX2_standsHere := goodIn_r _ [6, 7, 1, 8, 9, 10, 11, 12, 13, 14, 15, 16, 17] rfl (by decide +kernel)
set_option maxRecDepth 20000 in
theorem gX2_takeWord_X2_standsHere : GoodIn wsX2_takeWord (wsV RX2 96 RX2 yX2_standsHere wsX2_standsHere) := goodIn_app (goodIn_of _ (by decide +kernel)) ggX2_takeWord_X2_standsHere
theorem dX2_takeWord_0 : decode cX2_takeWord 0 = .ok (.aload_n 1, 1) := by decide +kernel
theorem dX2_takeWord_1 : decode cX2_takeWord 1 = .ok (.arraylength, 1) := by decide +kernel
theorem dX2_takeWord_2 : decode cX2_takeWord 2 = .ok (.iconst 3, 1) := by decide +kernel
theorem dX2_takeWord_3 : decode cX2_takeWord 3 = .ok (.idiv, 1) := by decide +kernel
theorem dX2_takeWord_4 : decode cX2_takeWord 4 = .ok (.istore_n 2, 1) := by decide +kernel
theorem dX2_takeWord_5 : decode cX2_takeWord 5 = .ok (.iconst 0, 1) := by decide +kernel
theorem dX2_takeWord_6 : decode cX2_takeWord 6 = .ok (.istore_n 3, 1) := by decide +kernel
theorem dX2_takeWord_7 : decode cX2_takeWord 7 = .ok (.iload_n 3, 1) := by decide +kernel
theorem dX2_takeWord_8 : decode cX2_takeWord 8 = .ok (.iload_n 2, 1) := by decide +kernel
theorem dX2_takeWord_9 : decode cX2_takeWord 9 = .ok (.if_icmp .ge 32, 3) := by decide +kernel
theorem dX2_takeWord_12 : decode cX2_takeWord 12 = .ok (.aload_n 0, 1) := by decide +kernel
theorem dX2_takeWord_13 : decode cX2_takeWord 13 = .ok (.aload_n 1, 1) := by decide +kernel
theorem dX2_takeWord_14 : decode cX2_takeWord 14 = .ok (.iload_n 3, 1) := by decide +kernel
theorem dX2_takeWord_15 : decode cX2_takeWord 15 = .ok (.iconst 3, 1) := by decide +kernel
theorem dX2_takeWord_16 : decode cX2_takeWord 16 = .ok (.imul, 1) := by decide +kernel
theorem dX2_takeWord_17 : decode cX2_takeWord 17 = .ok (.invokevirtual 96, 3) := by decide +kernel
theorem dX2_takeWord_20 : decode cX2_takeWord 20 = .ok (.ifCond .eq 15, 3) := by decide +kernel
theorem dX2_takeWord_23 : decode cX2_takeWord 23 = .ok (.aload_n 0, 1) := by decide +kernel
theorem dX2_takeWord_24 : decode cX2_takeWord 24 = .ok (.dup, 1) := by decide +kernel
theorem dX2_takeWord_25 : decode cX2_takeWord 25 = .ok (.getfield 40, 3) := by decide +kernel
theorem dX2_takeWord_28 : decode cX2_takeWord 28 = .ok (.iconst 3, 1) := by decide +kernel
theorem dX2_takeWord_29 : decode cX2_takeWord 29 = .ok (.iadd, 1) := by decide +kernel
theorem dX2_takeWord_30 : decode cX2_takeWord 30 = .ok (.putfield 40, 3) := by decide +kernel
theorem dX2_takeWord_33 : decode cX2_takeWord 33 = .ok (.iload_n 3, 1) := by decide +kernel
theorem dX2_takeWord_34 : decode cX2_takeWord 34 = .ok (.ireturn, 1) := by decide +kernel
theorem dX2_takeWord_35 : decode cX2_takeWord 35 = .ok (.iinc 3 1, 3) := by decide +kernel
theorem dX2_takeWord_38 : decode cX2_takeWord 38 = .ok (.goto (-31), 3) := by decide +kernel
theorem dX2_takeWord_41 : decode cX2_takeWord 41 = .ok (.iconst (-1), 1) := by decide +kernel
theorem dX2_takeWord_42 : decode cX2_takeWord 42 = .ok (.ireturn, 1) := by decide +kernel
theorem dX2_standsHere_0 : decode cX2_standsHere 0 = .ok (.aload_n 0, 1) := by decide +kernel
theorem dX2_standsHere_1 : decode cX2_standsHere 1 = .ok (.getfield 15, 3) := by decide +kernel
theorem dX2_standsHere_4 : decode cX2_standsHere 4 = .ok (.aload_n 0, 1) := by decide +kernel
theorem dX2_standsHere_5 : decode cX2_standsHere 5 = .ok (.getfield 40, 3) := by decide +kernel
theorem dX2_standsHere_8 : decode cX2_standsHere 8 = .ok (.isub, 1) := by decide +kernel
theorem dX2_standsHere_9 : decode cX2_standsHere 9 = .ok (.iconst 3, 1) := by decide +kernel
theorem dX2_standsHere_10 : decode cX2_standsHere 10 = .ok (.if_icmp .lt 15, 3) := by decide +kernel
theorem dX2_standsHere_13 : decode cX2_standsHere 13 = .ok (.iload_n 2, 1) := by decide +kernel
theorem dX2_standsHere_14 : decode cX2_standsHere 14 = .ok (.ifCond .lt 11, 3) := by decide +kernel
theorem dX2_standsHere_17 : decode cX2_standsHere 17 = .ok (.aload_n 1, 1) := by decide +kernel
theorem dX2_standsHere_18 : decode cX2_standsHere 18 = .ok (.arraylength, 1) := by decide +kernel
theorem dX2_standsHere_19 : decode cX2_standsHere 19 = .ok (.iload_n 2, 1) := by decide +kernel
theorem dX2_standsHere_20 : decode cX2_standsHere 20 = .ok (.isub, 1) := by decide +kernel
theorem dX2_standsHere_21 : decode cX2_standsHere 21 = .ok (.iconst 3, 1) := by decide +kernel
theorem dX2_standsHere_22 : decode cX2_standsHere 22 = .ok (.if_icmp .ge 5, 3) := by decide +kernel
theorem dX2_standsHere_25 : decode cX2_standsHere 25 = .ok (.iconst 0, 1) := by decide +kernel
theorem dX2_standsHere_26 : decode cX2_standsHere 26 = .ok (.ireturn, 1) := by decide +kernel
theorem dX2_standsHere_27 : decode cX2_standsHere 27 = .ok (.iconst 0, 1) := by decide +kernel
theorem dX2_standsHere_28 : decode cX2_standsHere 28 = .ok (.istore_n 3, 1) := by decide +kernel
theorem dX2_standsHere_29 : decode cX2_standsHere 29 = .ok (.iload_n 3, 1) := by decide +kernel
theorem dX2_standsHere_30 : decode cX2_standsHere 30 = .ok (.iconst 3, 1) := by decide +kernel
theorem dX2_standsHere_31 : decode cX2_standsHere 31 = .ok (.if_icmp .ge 63, 3) := by decide +kernel
theorem dX2_standsHere_34 : decode cX2_standsHere 34 = .ok (.aload_n 0, 1) := by decide +kernel
theorem dX2_standsHere_35 : decode cX2_standsHere 35 = .ok (.getfield 9, 3) := by decide +kernel
theorem dX2_standsHere_38 : decode cX2_standsHere 38 = .ok (.aload_n 0, 1) := by decide +kernel
theorem dX2_standsHere_39 : decode cX2_standsHere 39 = .ok (.getfield 40, 3) := by decide +kernel
theorem dX2_standsHere_42 : decode cX2_standsHere 42 = .ok (.iload_n 3, 1) := by decide +kernel
theorem dX2_standsHere_43 : decode cX2_standsHere 43 = .ok (.iadd, 1) := by decide +kernel
theorem dX2_standsHere_44 : decode cX2_standsHere 44 = .ok (.iaload, 1) := by decide +kernel
theorem dX2_standsHere_45 : decode cX2_standsHere 45 = .ok (.istore 4, 2) := by decide +kernel
theorem dX2_standsHere_47 : decode cX2_standsHere 47 = .ok (.iload 4, 2) := by decide +kernel
theorem dX2_standsHere_49 : decode cX2_standsHere 49 = .ok (.bipush 65, 2) := by decide +kernel
theorem dX2_standsHere_51 : decode cX2_standsHere 51 = .ok (.if_icmp .lt 21, 3) := by decide +kernel
theorem dX2_standsHere_54 : decode cX2_standsHere 54 = .ok (.iload 4, 2) := by decide +kernel
theorem dX2_standsHere_56 : decode cX2_standsHere 56 = .ok (.bipush 90, 2) := by decide +kernel
theorem dX2_standsHere_58 : decode cX2_standsHere 58 = .ok (.if_icmp .gt 14, 3) := by decide +kernel
theorem dX2_standsHere_61 : decode cX2_standsHere 61 = .ok (.iload 4, 2) := by decide +kernel
theorem dX2_standsHere_63 : decode cX2_standsHere 63 = .ok (.bipush 65, 2) := by decide +kernel
theorem dX2_standsHere_65 : decode cX2_standsHere 65 = .ok (.isub, 1) := by decide +kernel
theorem dX2_standsHere_66 : decode cX2_standsHere 66 = .ok (.bipush 97, 2) := by decide +kernel
theorem dX2_standsHere_68 : decode cX2_standsHere 68 = .ok (.iadd, 1) := by decide +kernel
theorem dX2_standsHere_69 : decode cX2_standsHere 69 = .ok (.goto 5, 3) := by decide +kernel
theorem dX2_standsHere_72 : decode cX2_standsHere 72 = .ok (.iload 4, 2) := by decide +kernel
theorem dX2_standsHere_74 : decode cX2_standsHere 74 = .ok (.istore 5, 2) := by decide +kernel
theorem dX2_standsHere_76 : decode cX2_standsHere 76 = .ok (.iload 5, 2) := by decide +kernel
theorem dX2_standsHere_78 : decode cX2_standsHere 78 = .ok (.aload_n 1, 1) := by decide +kernel
theorem dX2_standsHere_79 : decode cX2_standsHere 79 = .ok (.iload_n 2, 1) := by decide +kernel
theorem dX2_standsHere_80 : decode cX2_standsHere 80 = .ok (.iload_n 3, 1) := by decide +kernel
theorem dX2_standsHere_81 : decode cX2_standsHere 81 = .ok (.iadd, 1) := by decide +kernel
theorem dX2_standsHere_82 : decode cX2_standsHere 82 = .ok (.caload, 1) := by decide +kernel
theorem dX2_standsHere_83 : decode cX2_standsHere 83 = .ok (.if_icmp .eq 5, 3) := by decide +kernel
theorem dX2_standsHere_86 : decode cX2_standsHere 86 = .ok (.iconst 0, 1) := by decide +kernel
theorem dX2_standsHere_87 : decode cX2_standsHere 87 = .ok (.ireturn, 1) := by decide +kernel
theorem dX2_standsHere_88 : decode cX2_standsHere 88 = .ok (.iinc 3 1, 3) := by decide +kernel
theorem dX2_standsHere_91 : decode cX2_standsHere 91 = .ok (.goto (-62), 3) := by decide +kernel
theorem dX2_standsHere_94 : decode cX2_standsHere 94 = .ok (.iconst 1, 1) := by decide +kernel
theorem dX2_standsHere_95 : decode cX2_standsHere 95 = .ok (.ireturn, 1) := by decide +kernel
theorem dX2_takeBlanks_0 : decode cX2_takeBlanks 0 = .ok (.aload_n 0, 1) := by decide +kernel
theorem dX2_takeBlanks_1 : decode cX2_takeBlanks 1 = .ok (.getfield 40, 3) := by decide +kernel
theorem dX2_takeBlanks_4 : decode cX2_takeBlanks 4 = .ok (.istore_n 1, 1) := by decide +kernel
theorem dX2_takeBlanks_5 : decode cX2_takeBlanks 5 = .ok (.aload_n 0, 1) := by decide +kernel
theorem dX2_takeBlanks_6 : decode cX2_takeBlanks 6 = .ok (.getfield 40, 3) := by decide +kernel
theorem dX2_takeBlanks_9 : decode cX2_takeBlanks 9 = .ok (.aload_n 0, 1) := by decide +kernel
theorem dX2_takeBlanks_10 : decode cX2_takeBlanks 10 = .ok (.getfield 15, 3) := by decide +kernel
theorem dX2_takeBlanks_13 : decode cX2_takeBlanks 13 = .ok (.if_icmp .ge 30, 3) := by decide +kernel
theorem dX2_takeBlanks_16 : decode cX2_takeBlanks 16 = .ok (.aload_n 0, 1) := by decide +kernel
theorem dX2_takeBlanks_17 : decode cX2_takeBlanks 17 = .ok (.getfield 9, 3) := by decide +kernel
theorem dX2_takeBlanks_20 : decode cX2_takeBlanks 20 = .ok (.aload_n 0, 1) := by decide +kernel
theorem dX2_takeBlanks_21 : decode cX2_takeBlanks 21 = .ok (.getfield 40, 3) := by decide +kernel
theorem dX2_takeBlanks_24 : decode cX2_takeBlanks 24 = .ok (.iaload, 1) := by decide +kernel
theorem dX2_takeBlanks_25 : decode cX2_takeBlanks 25 = .ok (.bipush 32, 2) := by decide +kernel
theorem dX2_takeBlanks_27 : decode cX2_takeBlanks 27 = .ok (.if_icmp .ne 16, 3) := by decide +kernel
theorem dX2_takeBlanks_30 : decode cX2_takeBlanks 30 = .ok (.aload_n 0, 1) := by decide +kernel
theorem dX2_takeBlanks_31 : decode cX2_takeBlanks 31 = .ok (.dup, 1) := by decide +kernel
theorem dX2_takeBlanks_32 : decode cX2_takeBlanks 32 = .ok (.getfield 40, 3) := by decide +kernel
theorem dX2_takeBlanks_35 : decode cX2_takeBlanks 35 = .ok (.iconst 1, 1) := by decide +kernel
theorem dX2_takeBlanks_36 : decode cX2_takeBlanks 36 = .ok (.iadd, 1) := by decide +kernel
theorem dX2_takeBlanks_37 : decode cX2_takeBlanks 37 = .ok (.putfield 40, 3) := by decide +kernel
theorem dX2_takeBlanks_40 : decode cX2_takeBlanks 40 = .ok (.goto (-35), 3) := by decide +kernel
theorem dX2_takeBlanks_43 : decode cX2_takeBlanks 43 = .ok (.aload_n 0, 1) := by decide +kernel
theorem dX2_takeBlanks_44 : decode cX2_takeBlanks 44 = .ok (.getfield 40, 3) := by decide +kernel
theorem dX2_takeBlanks_47 : decode cX2_takeBlanks 47 = .ok (.iload_n 1, 1) := by decide +kernel
theorem dX2_takeBlanks_48 : decode cX2_takeBlanks 48 = .ok (.if_icmp .le 7, 3) := by decide +kernel
theorem dX2_takeBlanks_51 : decode cX2_takeBlanks 51 = .ok (.iconst 1, 1) := by decide +kernel
theorem dX2_takeBlanks_52 : decode cX2_takeBlanks 52 = .ok (.goto 4, 3) := by decide +kernel
theorem dX2_takeBlanks_55 : decode cX2_takeBlanks 55 = .ok (.iconst 0, 1) := by decide +kernel
theorem dX2_takeBlanks_56 : decode cX2_takeBlanks 56 = .ok (.ireturn, 1) := by decide +kernel
theorem dX2_takeByte_0 : decode cX2_takeByte 0 = .ok (.aload_n 0, 1) := by decide +kernel
theorem dX2_takeByte_1 : decode cX2_takeByte 1 = .ok (.getfield 40, 3) := by decide +kernel
theorem dX2_takeByte_4 : decode cX2_takeByte 4 = .ok (.aload_n 0, 1) := by decide +kernel
theorem dX2_takeByte_5 : decode cX2_takeByte 5 = .ok (.getfield 15, 3) := by decide +kernel
theorem dX2_takeByte_8 : decode cX2_takeByte 8 = .ok (.if_icmp .ge 16, 3) := by decide +kernel
theorem dX2_takeByte_11 : decode cX2_takeByte 11 = .ok (.aload_n 0, 1) := by decide +kernel
theorem dX2_takeByte_12 : decode cX2_takeByte 12 = .ok (.getfield 9, 3) := by decide +kernel
theorem dX2_takeByte_15 : decode cX2_takeByte 15 = .ok (.aload_n 0, 1) := by decide +kernel
theorem dX2_takeByte_16 : decode cX2_takeByte 16 = .ok (.getfield 40, 3) := by decide +kernel
theorem dX2_takeByte_19 : decode cX2_takeByte 19 = .ok (.iaload, 1) := by decide +kernel
theorem dX2_takeByte_20 : decode cX2_takeByte 20 = .ok (.iload_n 1, 1) := by decide +kernel
theorem dX2_takeByte_21 : decode cX2_takeByte 21 = .ok (.if_icmp .eq 5, 3) := by decide +kernel
theorem dX2_takeByte_24 : decode cX2_takeByte 24 = .ok (.iconst 0, 1) := by decide +kernel
theorem dX2_takeByte_25 : decode cX2_takeByte 25 = .ok (.ireturn, 1) := by decide +kernel
theorem dX2_takeByte_26 : decode cX2_takeByte 26 = .ok (.aload_n 0, 1) := by decide +kernel
theorem dX2_takeByte_27 : decode cX2_takeByte 27 = .ok (.dup, 1) := by decide +kernel
theorem dX2_takeByte_28 : decode cX2_takeByte 28 = .ok (.getfield 40, 3) := by decide +kernel
theorem dX2_takeByte_31 : decode cX2_takeByte 31 = .ok (.iconst 1, 1) := by decide +kernel
theorem dX2_takeByte_32 : decode cX2_takeByte 32 = .ok (.iadd, 1) := by decide +kernel
theorem dX2_takeByte_33 : decode cX2_takeByte 33 = .ok (.putfield 40, 3) := by decide +kernel
theorem dX2_takeByte_36 : decode cX2_takeByte 36 = .ok (.iconst 1, 1) := by decide +kernel
theorem dX2_takeByte_37 : decode cX2_takeByte 37 = .ok (.ireturn, 1) := by decide +kernel
set_option maxRecDepth 20000 in
theorem ggX2_findSpan_X0_dayNumber : GoodIn wsX2_findSpan wsX0_dayNumber := goodIn_r _ [10, 11, 12, 9, 13, 14, 15, 16, 17] rfl (by decide +kernel)
set_option maxRecDepth 20000 in
theorem gX2_findSpan_X0_dayNumber : GoodIn wsX2_findSpan (va_wsS RX2 100 yX0_dayNumber wsX0_dayNumber) := goodIn_app (goodIn_of _ (by decide +kernel)) ggX2_findSpan_X0_dayNumber
set_option maxRecDepth 20000 in
theorem ggX2_findSpan_X0_weekdayOf : GoodIn wsX2_findSpan wsX0_weekdayOf := goodIn_r _ [20] rfl (by decide +kernel)
set_option maxRecDepth 20000 in
theorem gX2_findSpan_X0_weekdayOf : GoodIn wsX2_findSpan (va_wsS RX2 106 yX0_weekdayOf wsX0_weekdayOf) := goodIn_app (goodIn_of _ (by decide +kernel)) ggX2_findSpan_X0_weekdayOf
set_option maxRecDepth 20000 in
theorem ggX2_findSpan_X0_monthLength : GoodIn wsX2_findSpan wsX0_monthLength := goodIn_r _ [13, 14] rfl (by decide +kernel)
set_option maxRecDepth 20000 in
theorem gX2_findSpan_X0_monthLength : GoodIn wsX2_findSpan (va_wsS RX2 109 yX0_monthLength wsX0_monthLength) := goodIn_app (goodIn_of _ (by decide +kernel)) ggX2_findSpan_X0_monthLength
theorem dX2_findSpan_0 : decode cX2_findSpan 0 = .ok (.aload_n 0, 1) := by decide +kernel
theorem dX2_findSpan_1 : decode cX2_findSpan 1 = .ok (.getfield 43, 3) := by decide +kernel
theorem dX2_findSpan_4 : decode cX2_findSpan 4 = .ok (.iconst (-1), 1) := by decide +kernel
theorem dX2_findSpan_5 : decode cX2_findSpan 5 = .ok (.if_icmp .ne 7, 3) := by decide +kernel
theorem dX2_findSpan_8 : decode cX2_findSpan 8 = .ok (.iconst 1, 1) := by decide +kernel
theorem dX2_findSpan_9 : decode cX2_findSpan 9 = .ok (.goto 4, 3) := by decide +kernel
theorem dX2_findSpan_12 : decode cX2_findSpan 12 = .ok (.iconst 0, 1) := by decide +kernel
theorem dX2_findSpan_13 : decode cX2_findSpan 13 = .ok (.istore_n 1, 1) := by decide +kernel
theorem dX2_findSpan_14 : decode cX2_findSpan 14 = .ok (.iload_n 1, 1) := by decide +kernel
theorem dX2_findSpan_15 : decode cX2_findSpan 15 = .ok (.ifCond .eq 7, 3) := by decide +kernel
theorem dX2_findSpan_18 : decode cX2_findSpan 18 = .ok (.iconst 1, 1) := by decide +kernel
theorem dX2_findSpan_19 : decode cX2_findSpan 19 = .ok (.goto 7, 3) := by decide +kernel
theorem dX2_findSpan_22 : decode cX2_findSpan 22 = .ok (.aload_n 0, 1) := by decide +kernel
theorem dX2_findSpan_23 : decode cX2_findSpan 23 = .ok (.getfield 43, 3) := by decide +kernel
theorem dX2_findSpan_26 : decode cX2_findSpan 26 = .ok (.aload_n 0, 1) := by decide +kernel
theorem dX2_findSpan_27 : decode cX2_findSpan 27 = .ok (.getfield 46, 3) := by decide +kernel
theorem dX2_findSpan_30 : decode cX2_findSpan 30 = .ok (.aload_n 0, 1) := by decide +kernel
theorem dX2_findSpan_31 : decode cX2_findSpan 31 = .ok (.getfield 49, 3) := by decide +kernel
theorem dX2_findSpan_34 : decode cX2_findSpan 34 = .ok (.invokestatic 100, 3) := by decide +kernel
theorem dX2_findSpan_37 : decode cX2_findSpan 37 = .ok (.istore_n 2, 1) := by decide +kernel
theorem dX2_findSpan_38 : decode cX2_findSpan 38 = .ok (.iload_n 2, 1) := by decide +kernel
theorem dX2_findSpan_39 : decode cX2_findSpan 39 = .ok (.iconst (-1), 1) := by decide +kernel
theorem dX2_findSpan_40 : decode cX2_findSpan 40 = .ok (.if_icmp .eq 22, 3) := by decide +kernel
theorem dX2_findSpan_43 : decode cX2_findSpan 43 = .ok (.aload_n 0, 1) := by decide +kernel
theorem dX2_findSpan_44 : decode cX2_findSpan 44 = .ok (.getfield 52, 3) := by decide +kernel
theorem dX2_findSpan_47 : decode cX2_findSpan 47 = .ok (.iconst (-1), 1) := by decide +kernel
theorem dX2_findSpan_48 : decode cX2_findSpan 48 = .ok (.if_icmp .eq 15, 3) := by decide +kernel
theorem dX2_findSpan_51 : decode cX2_findSpan 51 = .ok (.aload_n 0, 1) := by decide +kernel
theorem dX2_findSpan_52 : decode cX2_findSpan 52 = .ok (.getfield 52, 3) := by decide +kernel
theorem dX2_findSpan_55 : decode cX2_findSpan 55 = .ok (.iload_n 2, 1) := by decide +kernel
theorem dX2_findSpan_56 : decode cX2_findSpan 56 = .ok (.invokestatic 106, 3) := by decide +kernel
theorem dX2_findSpan_59 : decode cX2_findSpan 59 = .ok (.if_icmp .eq 4, 3) := by decide +kernel
theorem dX2_findSpan_62 : decode cX2_findSpan 62 = .ok (.return_, 1) := by decide +kernel
theorem dX2_findSpan_63 : decode cX2_findSpan 63 = .ok (.aload_n 0, 1) := by decide +kernel
theorem dX2_findSpan_64 : decode cX2_findSpan 64 = .ok (.iload_n 2, 1) := by decide +kernel
theorem dX2_findSpan_65 : decode cX2_findSpan 65 = .ok (.putfield 19, 3) := by decide +kernel
theorem dX2_findSpan_68 : decode cX2_findSpan 68 = .ok (.aload_n 0, 1) := by decide +kernel
theorem dX2_findSpan_69 : decode cX2_findSpan 69 = .ok (.iload_n 1, 1) := by decide +kernel
theorem dX2_findSpan_70 : decode cX2_findSpan 70 = .ok (.ifCond .eq 21, 3) := by decide +kernel
theorem dX2_findSpan_73 : decode cX2_findSpan 73 = .ok (.iload_n 2, 1) := by decide +kernel
theorem dX2_findSpan_74 : decode cX2_findSpan 74 = .ok (.aload_n 0, 1) := by decide +kernel
theorem dX2_findSpan_75 : decode cX2_findSpan 75 = .ok (.getfield 46, 3) := by decide +kernel
theorem dX2_findSpan_78 : decode cX2_findSpan 78 = .ok (.aload_n 0, 1) := by decide +kernel
theorem dX2_findSpan_79 : decode cX2_findSpan 79 = .ok (.getfield 49, 3) := by decide +kernel
theorem dX2_findSpan_82 : decode cX2_findSpan 82 = .ok (.invokestatic 109, 3) := by decide +kernel
theorem dX2_findSpan_85 : decode cX2_findSpan 85 = .ok (.iadd, 1) := by decide +kernel
theorem dX2_findSpan_86 : decode cX2_findSpan 86 = .ok (.iconst 1, 1) := by decide +kernel
theorem dX2_findSpan_87 : decode cX2_findSpan 87 = .ok (.isub, 1) := by decide +kernel
theorem dX2_findSpan_88 : decode cX2_findSpan 88 = .ok (.goto 4, 3) := by decide +kernel
theorem dX2_findSpan_91 : decode cX2_findSpan 91 = .ok (.iload_n 2, 1) := by decide +kernel
theorem dX2_findSpan_92 : decode cX2_findSpan 92 = .ok (.putfield 22, 3) := by decide +kernel
theorem dX2_findSpan_95 : decode cX2_findSpan 95 = .ok (.return_, 1) := by decide +kernel
set_option maxRecDepth 20000 in
theorem ggX3_init_X2_init : GoodIn wsX3_init wsX2_init := goodIn_r _ [17, 18, 2, 3, 10, 19, 20, 28, 29, 30, 31, 32, 33, 34, 35, 36] rfl (by decide +kernel)
set_option maxRecDepth 20000 in
theorem gX3_init_X2_init : GoodIn wsX3_init (wsX2_init) := ggX3_init_X2_init
theorem dX3_init_0 : decode cX3_init 0 = .ok (.aload_n 0, 1) := by decide +kernel
theorem dX3_init_1 : decode cX3_init 1 = .ok (.invokespecial 3, 3) := by decide +kernel
theorem dX3_init_4 : decode cX3_init 4 = .ok (.aload_n 0, 1) := by decide +kernel
theorem dX3_init_5 : decode cX3_init 5 = .ok (.aload_n 1, 1) := by decide +kernel
theorem dX3_init_6 : decode cX3_init 6 = .ok (.putfield 9, 3) := by decide +kernel
theorem dX3_init_9 : decode cX3_init 9 = .ok (.aload_n 0, 1) := by decide +kernel
theorem dX3_init_10 : decode cX3_init 10 = .ok (.aload_n 2, 1) := by decide +kernel
theorem dX3_init_11 : decode cX3_init 11 = .ok (.putfield 15, 3) := by decide +kernel
theorem dX3_init_14 : decode cX3_init 14 = .ok (.aload_n 0, 1) := by decide +kernel
theorem dX3_init_15 : decode cX3_init 15 = .ok (.new 18, 3) := by decide +kernel
theorem dX3_init_18 : decode cX3_init 18 = .ok (.dup, 1) := by decide +kernel
theorem dX3_init_19 : decode cX3_init 19 = .ok (.invokespecial 20, 3) := by decide +kernel
theorem dX3_init_22 : decode cX3_init 22 = .ok (.putfield 21, 3) := by decide +kernel
theorem dX3_init_25 : decode cX3_init 25 = .ok (.aload_n 0, 1) := by decide +kernel
theorem dX3_init_26 : decode cX3_init 26 = .ok (.sipush 240, 3) := by decide +kernel
theorem dX3_init_29 : decode cX3_init 29 = .ok (.newarray .int, 2) := by decide +kernel
theorem dX3_init_31 : decode cX3_init 31 = .ok (.putfield 25, 3) := by decide +kernel
theorem dX3_init_34 : decode cX3_init 34 = .ok (.aload_n 0, 1) := by decide +kernel
theorem dX3_init_35 : decode cX3_init 35 = .ok (.sipush 240, 3) := by decide +kernel
theorem dX3_init_38 : decode cX3_init 38 = .ok (.newarray .int, 2) := by decide +kernel
theorem dX3_init_40 : decode cX3_init 40 = .ok (.putfield 29, 3) := by decide +kernel
theorem dX3_init_43 : decode cX3_init 43 = .ok (.aload_n 0, 1) := by decide +kernel
theorem dX3_init_44 : decode cX3_init 44 = .ok (.bipush 30, 2) := by decide +kernel
theorem dX3_init_46 : decode cX3_init 46 = .ok (.newarray .int, 2) := by decide +kernel
theorem dX3_init_48 : decode cX3_init 48 = .ok (.putfield 32, 3) := by decide +kernel
theorem dX3_init_51 : decode cX3_init 51 = .ok (.aload_n 0, 1) := by decide +kernel
theorem dX3_init_52 : decode cX3_init 52 = .ok (.bipush 30, 2) := by decide +kernel
theorem dX3_init_54 : decode cX3_init 54 = .ok (.newarray .int, 2) := by decide +kernel
theorem dX3_init_56 : decode cX3_init 56 = .ok (.putfield 35, 3) := by decide +kernel
theorem dX3_init_59 : decode cX3_init 59 = .ok (.return_, 1) := by decide +kernel
theorem dX3_forget_0 : decode cX3_forget 0 = .ok (.iload_n 1, 1) := by decide +kernel
theorem dX3_forget_1 : decode cX3_forget 1 = .ok (.ifCond .lt 16, 3) := by decide +kernel
theorem dX3_forget_4 : decode cX3_forget 4 = .ok (.iload_n 1, 1) := by decide +kernel
theorem dX3_forget_5 : decode cX3_forget 5 = .ok (.bipush 30, 2) := by decide +kernel
theorem dX3_forget_7 : decode cX3_forget 7 = .ok (.if_icmp .ge 10, 3) := by decide +kernel
theorem dX3_forget_10 : decode cX3_forget 10 = .ok (.aload_n 0, 1) := by decide +kernel
theorem dX3_forget_11 : decode cX3_forget 11 = .ok (.getfield 32, 3) := by decide +kernel
theorem dX3_forget_14 : decode cX3_forget 14 = .ok (.iload_n 1, 1) := by decide +kernel
theorem dX3_forget_15 : decode cX3_forget 15 = .ok (.iconst 0, 1) := by decide +kernel
theorem dX3_forget_16 : decode cX3_forget 16 = .ok (.iastore, 1) := by decide +kernel
theorem dX3_forget_17 : decode cX3_forget 17 = .ok (.return_, 1) := by decide +kernel
set_option maxRecDepth 20000 in
theorem ggX3_bring_X5_size : GoodIn wsX3_bring wsX5_size := goodIn_r _ [16, 17, 124, 125, 126] rfl (by decide +kernel)
set_option maxRecDepth 20000 in
theorem gX3_bring_X5_size : GoodIn wsX3_bring (wsV RX3 38 RX5 yX5_size wsX5_size) := goodIn_app (goodIn_of _ (by decide +kernel)) ggX3_bring_X5_size
set_option maxRecDepth 20000 in
theorem ggX3_bring_X2_hold : GoodIn wsX3_bring wsX2_hold := goodIn_r _ [22, 23, 3, 4, 5, 24, 25, 26, 27, 28, 15, 29, 30, 31, 32, 33, 34, 17, 35, 36, 37, 38, 39, 40, 127, 128, 129, 130, 131, 132, 133, 134, 135, 124, 125, 126] rfl (by decide +kernel)
set_option maxRecDepth 20000 in
theorem gX3_bring_X2_hold : GoodIn wsX3_bring (wsV RX3 50 RX2 yX2_hold wsX2_hold) := goodIn_app (goodIn_of _ (by decide +kernel)) ggX3_bring_X2_hold
set_option maxRecDepth 20000 in
theorem ggX3_bring_X2_scan : GoodIn wsX3_bring wsX2_scan := goodIn_r _ [44, 45, 46, 47, 48, 49, 50, 51, 24, 26, 27, 28, 15, 29, 30, 31, 32, 33, 34, 17, 35, 36, 37, 38, 39, 40, 52, 53, 54, 21, 55, 56, 57, 58, 59, 60, 61, 25, 62, 63, 64, 65, 66, 67, 68, 69, 70, 71, 72, 73, 74, 75, 76, 77, 78, 79, 80, 81, 82, 83, 84, 85, 86, 87, 88, 89, 90, 91, 92, 93, 94, 95, 96, 97, 98, 99, 100, 101, 102, 103, 104, 105, 106, 107, 108, 127, 128, 129, 130, 131, 132, 133, 134, 135, 124, 125, 126] rfl (by decide +kernel)
set_option maxRecDepth 20000 in
theorem gX3_bring_X2_scan : GoodIn wsX3_bring (wsV RX3 54 RX2 yX2_scan wsX2_scan) := goodIn_app (goodIn_of _ (by decide +kernel)) ggX3_bring_X2_scan
set_option maxRecDepth 20000 in
theorem ggX3_bring_X2_first : GoodIn wsX3_bring wsX2_first := goodIn_r _ [112, 50, 127, 128, 129, 130, 131, 132, 133, 134, 135] rfl (by decide +kernel)
set_option maxRecDepth 20000 in
theorem gX3_bring_X2_first : GoodIn wsX3_bring (wsV RX3 58 RX2 yX2_first wsX2_first) := goodIn_app (goodIn_of _ (by decide +kernel)) ggX3_bring_X2_first
set_option maxRecDepth 20000 in
theorem ggX3_bring_X2_last : GoodIn wsX3_bring wsX2_last := goodIn_r _ [116, 51, 127, 128, 129, 130, 131, 132, 133, 134, 135] rfl (by decide +kernel)
set_option maxRecDepth 20000 in
theorem gX3_bring_X2_last : GoodIn wsX3_bring (wsV RX3 60 RX2 yX2_last wsX2_last) := goodIn_app (goodIn_of _ (by decide +kernel)) ggX3_bring_X2_last
theorem dX3_bring_0 : decode cX3_bring 0 = .ok (.iload_n 1, 1) := by decide +kernel
theorem dX3_bring_1 : decode cX3_bring 1 = .ok (.ifCond .lt 9, 3) := by decide +kernel
theorem dX3_bring_4 : decode cX3_bring 4 = .ok (.iload_n 1, 1) := by decide +kernel
theorem dX3_bring_5 : decode cX3_bring 5 = .ok (.bipush 30, 2) := by decide +kernel
theorem dX3_bring_7 : decode cX3_bring 7 = .ok (.if_icmp .lt 4, 3) := by decide +kernel
theorem dX3_bring_10 : decode cX3_bring 10 = .ok (.return_, 1) := by decide +kernel
theorem dX3_bring_11 : decode cX3_bring 11 = .ok (.aload_n 0, 1) := by decide +kernel
theorem dX3_bring_12 : decode cX3_bring 12 = .ok (.getfield 9, 3) := by decide +kernel
theorem dX3_bring_15 : decode cX3_bring 15 = .ok (.invokevirtual 38, 3) := by decide +kernel
theorem dX3_bring_18 : decode cX3_bring 18 = .ok (.bipush 8, 2) := by decide +kernel
theorem dX3_bring_20 : decode cX3_bring 20 = .ok (.invokestatic 44, 3) := by decide +kernel
theorem dX3_bring_23 : decode cX3_bring 23 = .ok (.istore_n 3, 1) := by decide +kernel
theorem dX3_bring_24 : decode cX3_bring 24 = .ok (.aload_n 0, 1) := by decide +kernel
theorem dX3_bring_25 : decode cX3_bring 25 = .ok (.getfield 35, 3) := by decide +kernel
theorem dX3_bring_28 : decode cX3_bring 28 = .ok (.iload_n 1, 1) := by decide +kernel
theorem dX3_bring_29 : decode cX3_bring 29 = .ok (.iaload, 1) := by decide +kernel
theorem dX3_bring_30 : decode cX3_bring 30 = .ok (.iload_n 2, 1) := by decide +kernel
theorem dX3_bring_31 : decode cX3_bring 31 = .ok (.if_icmp .ne 12, 3) := by decide +kernel
theorem dX3_bring_34 : decode cX3_bring 34 = .ok (.aload_n 0, 1) := by decide +kernel
theorem dX3_bring_35 : decode cX3_bring 35 = .ok (.getfield 32, 3) := by decide +kernel
theorem dX3_bring_38 : decode cX3_bring 38 = .ok (.iload_n 1, 1) := by decide +kernel
theorem dX3_bring_39 : decode cX3_bring 39 = .ok (.iaload, 1) := by decide +kernel
theorem dX3_bring_40 : decode cX3_bring 40 = .ok (.goto 4, 3) := by decide +kernel
theorem dX3_bring_43 : decode cX3_bring 43 = .ok (.iconst 0, 1) := by decide +kernel
theorem dX3_bring_44 : decode cX3_bring 44 = .ok (.istore 4, 2) := by decide +kernel
theorem dX3_bring_46 : decode cX3_bring 46 = .ok (.iload 4, 2) := by decide +kernel
theorem dX3_bring_48 : decode cX3_bring 48 = .ok (.iload_n 3, 1) := by decide +kernel
theorem dX3_bring_49 : decode cX3_bring 49 = .ok (.if_icmp .ge 15, 3) := by decide +kernel
theorem dX3_bring_52 : decode cX3_bring 52 = .ok (.aload_n 0, 1) := by decide +kernel
theorem dX3_bring_53 : decode cX3_bring 53 = .ok (.getfield 21, 3) := by decide +kernel
theorem dX3_bring_56 : decode cX3_bring 56 = .ok (.aload_n 0, 1) := by decide +kernel
theorem dX3_bring_57 : decode cX3_bring 57 = .ok (.getfield 15, 3) := by decide +kernel
theorem dX3_bring_60 : decode cX3_bring 60 = .ok (.iload_n 1, 1) := by decide +kernel
theorem dX3_bring_61 : decode cX3_bring 61 = .ok (.invokevirtual 50, 3) := by decide +kernel
theorem dX3_bring_64 : decode cX3_bring 64 = .ok (.iload 4, 2) := by decide +kernel
theorem dX3_bring_66 : decode cX3_bring 66 = .ok (.istore 5, 2) := by decide +kernel
theorem dX3_bring_68 : decode cX3_bring 68 = .ok (.iload 5, 2) := by decide +kernel
theorem dX3_bring_70 : decode cX3_bring 70 = .ok (.iload_n 3, 1) := by decide +kernel
theorem dX3_bring_71 : decode cX3_bring 71 = .ok (.if_icmp .ge 61, 3) := by decide +kernel
theorem dX3_bring_74 : decode cX3_bring 74 = .ok (.aload_n 0, 1) := by decide +kernel
theorem dX3_bring_75 : decode cX3_bring 75 = .ok (.getfield 21, 3) := by decide +kernel
theorem dX3_bring_78 : decode cX3_bring 78 = .ok (.aload_n 0, 1) := by decide +kernel
theorem dX3_bring_79 : decode cX3_bring 79 = .ok (.getfield 9, 3) := by decide +kernel
theorem dX3_bring_82 : decode cX3_bring 82 = .ok (.iload 5, 2) := by decide +kernel
theorem dX3_bring_84 : decode cX3_bring 84 = .ok (.iload_n 2, 1) := by decide +kernel
theorem dX3_bring_85 : decode cX3_bring 85 = .ok (.invokevirtual 54, 3) := by decide +kernel
theorem dX3_bring_88 : decode cX3_bring 88 = .ok (.aload_n 0, 1) := by decide +kernel
theorem dX3_bring_89 : decode cX3_bring 89 = .ok (.getfield 25, 3) := by decide +kernel
theorem dX3_bring_92 : decode cX3_bring 92 = .ok (.iload_n 1, 1) := by decide +kernel
theorem dX3_bring_93 : decode cX3_bring 93 = .ok (.bipush 8, 2) := by decide +kernel
theorem dX3_bring_95 : decode cX3_bring 95 = .ok (.imul, 1) := by decide +kernel
theorem dX3_bring_96 : decode cX3_bring 96 = .ok (.iload 5, 2) := by decide +kernel
theorem dX3_bring_98 : decode cX3_bring 98 = .ok (.iadd, 1) := by decide +kernel
theorem dX3_bring_99 : decode cX3_bring 99 = .ok (.aload_n 0, 1) := by decide +kernel
theorem dX3_bring_100 : decode cX3_bring 100 = .ok (.getfield 21, 3) := by decide +kernel
theorem dX3_bring_103 : decode cX3_bring 103 = .ok (.invokevirtual 58, 3) := by decide +kernel
theorem dX3_bring_106 : decode cX3_bring 106 = .ok (.iastore, 1) := by decide +kernel
theorem dX3_bring_107 : decode cX3_bring 107 = .ok (.aload_n 0, 1) := by decide +kernel
theorem dX3_bring_108 : decode cX3_bring 108 = .ok (.getfield 29, 3) := by decide +kernel
theorem dX3_bring_111 : decode cX3_bring 111 = .ok (.iload_n 1, 1) := by decide +kernel
theorem dX3_bring_112 : decode cX3_bring 112 = .ok (.bipush 8, 2) := by decide +kernel
theorem dX3_bring_114 : decode cX3_bring 114 = .ok (.imul, 1) := by decide +kernel
theorem dX3_bring_115 : decode cX3_bring 115 = .ok (.iload 5, 2) := by decide +kernel
theorem dX3_bring_117 : decode cX3_bring 117 = .ok (.iadd, 1) := by decide +kernel
theorem dX3_bring_118 : decode cX3_bring 118 = .ok (.aload_n 0, 1) := by decide +kernel
theorem dX3_bring_119 : decode cX3_bring 119 = .ok (.getfield 21, 3) := by decide +kernel
theorem dX3_bring_122 : decode cX3_bring 122 = .ok (.invokevirtual 60, 3) := by decide +kernel
theorem dX3_bring_125 : decode cX3_bring 125 = .ok (.iastore, 1) := by decide +kernel
theorem dX3_bring_126 : decode cX3_bring 126 = .ok (.iinc 5 1, 3) := by decide +kernel
theorem dX3_bring_129 : decode cX3_bring 129 = .ok (.goto (-61), 3) := by decide +kernel
theorem dX3_bring_132 : decode cX3_bring 132 = .ok (.aload_n 0, 1) := by decide +kernel
theorem dX3_bring_133 : decode cX3_bring 133 = .ok (.getfield 32, 3) := by decide +kernel
theorem dX3_bring_136 : decode cX3_bring 136 = .ok (.iload_n 1, 1) := by decide +kernel
theorem dX3_bring_137 : decode cX3_bring 137 = .ok (.iload_n 3, 1) := by decide +kernel
theorem dX3_bring_138 : decode cX3_bring 138 = .ok (.iastore, 1) := by decide +kernel
theorem dX3_bring_139 : decode cX3_bring 139 = .ok (.aload_n 0, 1) := by decide +kernel
theorem dX3_bring_140 : decode cX3_bring 140 = .ok (.getfield 35, 3) := by decide +kernel
theorem dX3_bring_143 : decode cX3_bring 143 = .ok (.iload_n 1, 1) := by decide +kernel
theorem dX3_bring_144 : decode cX3_bring 144 = .ok (.iload_n 2, 1) := by decide +kernel
theorem dX3_bring_145 : decode cX3_bring 145 = .ok (.iastore, 1) := by decide +kernel
theorem dX3_bring_146 : decode cX3_bring 146 = .ok (.return_, 1) := by decide +kernel
theorem dX3_edge_0 : decode cX3_edge 0 = .ok (.iload_n 1, 1) := by decide +kernel
theorem dX3_edge_1 : decode cX3_edge 1 = .ok (.ifCond .lt 28, 3) := by decide +kernel
theorem dX3_edge_4 : decode cX3_edge 4 = .ok (.iload_n 1, 1) := by decide +kernel
theorem dX3_edge_5 : decode cX3_edge 5 = .ok (.bipush 30, 2) := by decide +kernel
theorem dX3_edge_7 : decode cX3_edge 7 = .ok (.if_icmp .ge 22, 3) := by decide +kernel
theorem dX3_edge_10 : decode cX3_edge 10 = .ok (.iload_n 2, 1) := by decide +kernel
theorem dX3_edge_11 : decode cX3_edge 11 = .ok (.ifCond .lt 18, 3) := by decide +kernel
theorem dX3_edge_14 : decode cX3_edge 14 = .ok (.iload_n 2, 1) := by decide +kernel
theorem dX3_edge_15 : decode cX3_edge 15 = .ok (.bipush 8, 2) := by decide +kernel
theorem dX3_edge_17 : decode cX3_edge 17 = .ok (.if_icmp .ge 12, 3) := by decide +kernel
theorem dX3_edge_20 : decode cX3_edge 20 = .ok (.iload_n 3, 1) := by decide +kernel
theorem dX3_edge_21 : decode cX3_edge 21 = .ok (.ifCond .lt 8, 3) := by decide +kernel
theorem dX3_edge_24 : decode cX3_edge 24 = .ok (.iload_n 3, 1) := by decide +kernel
theorem dX3_edge_25 : decode cX3_edge 25 = .ok (.iconst 1, 1) := by decide +kernel
theorem dX3_edge_26 : decode cX3_edge 26 = .ok (.if_icmp .le 5, 3) := by decide +kernel
theorem dX3_edge_29 : decode cX3_edge 29 = .ok (.iconst (-1), 1) := by decide +kernel
theorem dX3_edge_30 : decode cX3_edge 30 = .ok (.ireturn, 1) := by decide +kernel
theorem dX3_edge_31 : decode cX3_edge 31 = .ok (.iload_n 1, 1) := by decide +kernel
theorem dX3_edge_32 : decode cX3_edge 32 = .ok (.bipush 8, 2) := by decide +kernel
theorem dX3_edge_34 : decode cX3_edge 34 = .ok (.imul, 1) := by decide +kernel
theorem dX3_edge_35 : decode cX3_edge 35 = .ok (.iload_n 2, 1) := by decide +kernel
theorem dX3_edge_36 : decode cX3_edge 36 = .ok (.iadd, 1) := by decide +kernel
theorem dX3_edge_37 : decode cX3_edge 37 = .ok (.istore 4, 2) := by decide +kernel
theorem dX3_edge_39 : decode cX3_edge 39 = .ok (.iload_n 3, 1) := by decide +kernel
theorem dX3_edge_40 : decode cX3_edge 40 = .ok (.ifCond .ne 13, 3) := by decide +kernel
theorem dX3_edge_43 : decode cX3_edge 43 = .ok (.aload_n 0, 1) := by decide +kernel
theorem dX3_edge_44 : decode cX3_edge 44 = .ok (.getfield 25, 3) := by decide +kernel
theorem dX3_edge_47 : decode cX3_edge 47 = .ok (.iload 4, 2) := by decide +kernel
theorem dX3_edge_49 : decode cX3_edge 49 = .ok (.iaload, 1) := by decide +kernel
theorem dX3_edge_50 : decode cX3_edge 50 = .ok (.goto 10, 3) := by decide +kernel
theorem dX3_edge_53 : decode cX3_edge 53 = .ok (.aload_n 0, 1) := by decide +kernel
theorem dX3_edge_54 : decode cX3_edge 54 = .ok (.getfield 29, 3) := by decide +kernel
theorem dX3_edge_57 : decode cX3_edge 57 = .ok (.iload 4, 2) := by decide +kernel
theorem dX3_edge_59 : decode cX3_edge 59 = .ok (.iaload, 1) := by decide +kernel
theorem dX3_edge_60 : decode cX3_edge 60 = .ok (.ireturn, 1) := by decide +kernel
set_option maxRecDepth 20000 in
theorem ggX3_isRead_X3_edge : GoodIn wsX3_isRead wsX3_edge := goodIn_r _ [5, 6, 7, 8, 9, 10, 11, 12, 13, 14] rfl (by decide +kernel)
set_option maxRecDepth 20000 in
theorem gX3_isRead_X3_edge : GoodIn wsX3_isRead (wsV RX3 62 RX3 yX3_edge wsX3_edge) := goodIn_app (goodIn_of _ (by decide +kernel)) ggX3_isRead_X3_edge
