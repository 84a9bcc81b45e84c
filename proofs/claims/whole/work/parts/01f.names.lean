theorem dX9_day_21 : decode cX9_day 21 = .ok (.ifCond .ne 5, 3) := by decide +kernel
theorem dX9_day_24 : decode cX9_day 24 = .ok (.iconst (-1), 1) := by decide +kernel
theorem dX9_day_25 : decode cX9_day 25 = .ok (.ireturn, 1) := by decide +kernel
theorem dX9_day_26 : decode cX9_day 26 = .ok (.iload_n 2, 1) := by decide +kernel
theorem dX9_day_27 : decode cX9_day 27 = .ok (.ifCond .ne 22, 3) := by decide +kernel
theorem dX9_day_30 : decode cX9_day 30 = .ok (.aload_n 0, 1) := by decide +kernel
theorem dX9_day_31 : decode cX9_day 31 = .ok (.getfield 36, 3) := by decide +kernel
theorem dX9_day_34 : decode cX9_day 34 = .ok (.bipush 8, 2) := by decide +kernel
theorem dX9_day_36 : decode cX9_day 36 = .ok (.iload_n 1, 1) := by decide +kernel
theorem dX9_day_37 : decode cX9_day 37 = .ok (.imul, 1) := by decide +kernel
theorem dX9_day_38 : decode cX9_day 38 = .ok (.aload_n 0, 1) := by decide +kernel
theorem dX9_day_39 : decode cX9_day 39 = .ok (.getfield 48, 3) := by decide +kernel
theorem dX9_day_42 : decode cX9_day 42 = .ok (.iload_n 1, 1) := by decide +kernel
theorem dX9_day_43 : decode cX9_day 43 = .ok (.iaload, 1) := by decide +kernel
theorem dX9_day_44 : decode cX9_day 44 = .ok (.iadd, 1) := by decide +kernel
theorem dX9_day_45 : decode cX9_day 45 = .ok (.iaload, 1) := by decide +kernel
theorem dX9_day_46 : decode cX9_day 46 = .ok (.goto 19, 3) := by decide +kernel
theorem dX9_day_49 : decode cX9_day 49 = .ok (.aload_n 0, 1) := by decide +kernel
theorem dX9_day_50 : decode cX9_day 50 = .ok (.getfield 39, 3) := by decide +kernel
theorem dX9_day_53 : decode cX9_day 53 = .ok (.bipush 8, 2) := by decide +kernel
theorem dX9_day_55 : decode cX9_day 55 = .ok (.iload_n 1, 1) := by decide +kernel
theorem dX9_day_56 : decode cX9_day 56 = .ok (.imul, 1) := by decide +kernel
theorem dX9_day_57 : decode cX9_day 57 = .ok (.aload_n 0, 1) := by decide +kernel
theorem dX9_day_58 : decode cX9_day 58 = .ok (.getfield 48, 3) := by decide +kernel
theorem dX9_day_61 : decode cX9_day 61 = .ok (.iload_n 1, 1) := by decide +kernel
theorem dX9_day_62 : decode cX9_day 62 = .ok (.iaload, 1) := by decide +kernel
theorem dX9_day_63 : decode cX9_day 63 = .ok (.iadd, 1) := by decide +kernel
theorem dX9_day_64 : decode cX9_day 64 = .ok (.iaload, 1) := by decide +kernel
theorem dX9_day_65 : decode cX9_day 65 = .ok (.ireturn, 1) := by decide +kernel
set_option maxRecDepth 20000 in
theorem ggX9_other_X9_isSame : GoodIn wsX9_other wsX9_isSame := goodIn_r _ [12, 13, 14, 26, 27, 28, 29, 30, 31, 32, 33, 34, 35, 36, 37, 38, 39, 40, 41, 42, 43, 44, 45, 46, 47, 48, 49, 50, 51, 52] rfl (by decide +kernel)
set_option maxRecDepth 20000 in
theorem gX9_other_X9_isSame : GoodIn wsX9_other (wsV RX9 172 RX9 yX9_isSame wsX9_isSame) := goodIn_app (goodIn_of _ (by decide +kernel)) ggX9_other_X9_isSame
set_option maxRecDepth 20000 in
theorem ggX9_other_X9_through : GoodIn wsX9_other wsX9_through := goodIn_r _ [18, 19, 20, 21, 22, 23, 11, 24, 13, 25, 26, 27, 28, 29, 30, 31, 32, 33, 34, 35, 36, 37, 38, 39, 40, 41, 42, 43, 44, 45, 46, 47, 48, 49, 50, 51, 52] rfl (by decide +kernel)
set_option maxRecDepth 20000 in
theorem gX9_other_X9_through : GoodIn wsX9_other (wsV RX9 191 RX9 yX9_through wsX9_through) := goodIn_app (goodIn_of _ (by decide +kernel)) ggX9_other_X9_through
theorem dX9_other_0 : decode cX9_other 0 = .ok (.ldc 175, 2) := by decide +kernel
theorem dX9_other_2 : decode cX9_other 2 = .ok (.istore_n 2, 1) := by decide +kernel
theorem dX9_other_3 : decode cX9_other 3 = .ok (.iconst 0, 1) := by decide +kernel
theorem dX9_other_4 : decode cX9_other 4 = .ok (.istore_n 3, 1) := by decide +kernel
theorem dX9_other_5 : decode cX9_other 5 = .ok (.iload_n 3, 1) := by decide +kernel
theorem dX9_other_6 : decode cX9_other 6 = .ok (.aload_n 0, 1) := by decide +kernel
theorem dX9_other_7 : decode cX9_other 7 = .ok (.getfield 103, 3) := by decide +kernel
theorem dX9_other_10 : decode cX9_other 10 = .ok (.if_icmp .ge 35, 3) := by decide +kernel
theorem dX9_other_13 : decode cX9_other 13 = .ok (.aload_n 0, 1) := by decide +kernel
theorem dX9_other_14 : decode cX9_other 14 = .ok (.iload_n 1, 1) := by decide +kernel
theorem dX9_other_15 : decode cX9_other 15 = .ok (.iload_n 3, 1) := by decide +kernel
theorem dX9_other_16 : decode cX9_other 16 = .ok (.aload_n 0, 1) := by decide +kernel
theorem dX9_other_17 : decode cX9_other 17 = .ok (.getfield 48, 3) := by decide +kernel
theorem dX9_other_20 : decode cX9_other 20 = .ok (.iload_n 1, 1) := by decide +kernel
theorem dX9_other_21 : decode cX9_other 21 = .ok (.iaload, 1) := by decide +kernel
theorem dX9_other_22 : decode cX9_other 22 = .ok (.invokevirtual 172, 3) := by decide +kernel
theorem dX9_other_25 : decode cX9_other 25 = .ok (.ifCond .ne 14, 3) := by decide +kernel
theorem dX9_other_28 : decode cX9_other 28 = .ok (.iload_n 2, 1) := by decide +kernel
theorem dX9_other_29 : decode cX9_other 29 = .ok (.aload_n 0, 1) := by decide +kernel
theorem dX9_other_30 : decode cX9_other 30 = .ok (.iload_n 1, 1) := by decide +kernel
theorem dX9_other_31 : decode cX9_other 31 = .ok (.iload_n 3, 1) := by decide +kernel
theorem dX9_other_32 : decode cX9_other 32 = .ok (.invokevirtual 191, 3) := by decide +kernel
theorem dX9_other_35 : decode cX9_other 35 = .ok (.invokestatic 179, 3) := by decide +kernel
theorem dX9_other_38 : decode cX9_other 38 = .ok (.istore_n 2, 1) := by decide +kernel
theorem dX9_other_39 : decode cX9_other 39 = .ok (.iinc 3 1, 3) := by decide +kernel
theorem dX9_other_42 : decode cX9_other 42 = .ok (.goto (-37), 3) := by decide +kernel
theorem dX9_other_45 : decode cX9_other 45 = .ok (.iload_n 2, 1) := by decide +kernel
theorem dX9_other_46 : decode cX9_other 46 = .ok (.ireturn, 1) := by decide +kernel
set_option maxRecDepth 20000 in
theorem ggX9_kindOf_X9_isSame : GoodIn wsX9_kindOf wsX9_isSame := goodIn_r _ [9, 1, 10, 31, 32, 33, 34, 35, 36, 37, 38, 39, 40, 41, 42, 43, 44, 45, 46, 47, 48, 49, 50, 51, 52, 53, 54, 55, 56, 57] rfl (by decide +kernel)
set_option maxRecDepth 20000 in
theorem gX9_kindOf_X9_isSame : GoodIn wsX9_kindOf (wsV RX9 172 RX9 yX9_isSame wsX9_isSame) := goodIn_app (goodIn_of _ (by decide +kernel)) ggX9_kindOf_X9_isSame
set_option maxRecDepth 20000 in
theorem ggX9_kindOf_X9_other : GoodIn wsX9_kindOf wsX9_other := goodIn_r _ [14, 15, 3, 2, 16, 17, 18, 19, 5, 6, 7, 8, 9, 1, 10, 20, 21, 22, 23, 24, 25, 26, 27, 28, 29, 30, 31, 32, 33, 34, 35, 36, 37, 38, 39, 40, 41, 42, 43, 44, 45, 46, 47, 48, 49, 50, 51, 52, 53, 54, 55, 56, 57] rfl (by decide +kernel)
set_option maxRecDepth 20000 in
theorem gX9_kindOf_X9_other : GoodIn wsX9_kindOf (wsV RX9 194 RX9 yX9_other wsX9_other) := goodIn_app (goodIn_of _ (by decide +kernel)) ggX9_kindOf_X9_other
theorem dX9_kindOf_0 : decode cX9_kindOf 0 = .ok (.aload_n 0, 1) := by decide +kernel
theorem dX9_kindOf_1 : decode cX9_kindOf 1 = .ok (.getfield 36, 3) := by decide +kernel
theorem dX9_kindOf_4 : decode cX9_kindOf 4 = .ok (.bipush 8, 2) := by decide +kernel
theorem dX9_kindOf_6 : decode cX9_kindOf 6 = .ok (.iload_n 1, 1) := by decide +kernel
theorem dX9_kindOf_7 : decode cX9_kindOf 7 = .ok (.imul, 1) := by decide +kernel
theorem dX9_kindOf_8 : decode cX9_kindOf 8 = .ok (.aload_n 0, 1) := by decide +kernel
theorem dX9_kindOf_9 : decode cX9_kindOf 9 = .ok (.getfield 48, 3) := by decide +kernel
theorem dX9_kindOf_12 : decode cX9_kindOf 12 = .ok (.iload_n 1, 1) := by decide +kernel
theorem dX9_kindOf_13 : decode cX9_kindOf 13 = .ok (.iaload, 1) := by decide +kernel
theorem dX9_kindOf_14 : decode cX9_kindOf 14 = .ok (.iadd, 1) := by decide +kernel
theorem dX9_kindOf_15 : decode cX9_kindOf 15 = .ok (.iaload, 1) := by decide +kernel
theorem dX9_kindOf_16 : decode cX9_kindOf 16 = .ok (.iconst (-1), 1) := by decide +kernel
theorem dX9_kindOf_17 : decode cX9_kindOf 17 = .ok (.if_icmp .ne 5, 3) := by decide +kernel
theorem dX9_kindOf_20 : decode cX9_kindOf 20 = .ok (.iconst 3, 1) := by decide +kernel
theorem dX9_kindOf_21 : decode cX9_kindOf 21 = .ok (.ireturn, 1) := by decide +kernel
theorem dX9_kindOf_22 : decode cX9_kindOf 22 = .ok (.iconst 1, 1) := by decide +kernel
theorem dX9_kindOf_23 : decode cX9_kindOf 23 = .ok (.istore_n 2, 1) := by decide +kernel
theorem dX9_kindOf_24 : decode cX9_kindOf 24 = .ok (.iconst 0, 1) := by decide +kernel
theorem dX9_kindOf_25 : decode cX9_kindOf 25 = .ok (.istore_n 3, 1) := by decide +kernel
theorem dX9_kindOf_26 : decode cX9_kindOf 26 = .ok (.iload_n 3, 1) := by decide +kernel
theorem dX9_kindOf_27 : decode cX9_kindOf 27 = .ok (.aload_n 0, 1) := by decide +kernel
theorem dX9_kindOf_28 : decode cX9_kindOf 28 = .ok (.getfield 103, 3) := by decide +kernel
theorem dX9_kindOf_31 : decode cX9_kindOf 31 = .ok (.if_icmp .ge 49, 3) := by decide +kernel
theorem dX9_kindOf_34 : decode cX9_kindOf 34 = .ok (.iload_n 2, 1) := by decide +kernel
theorem dX9_kindOf_35 : decode cX9_kindOf 35 = .ok (.ifCond .eq 37, 3) := by decide +kernel
theorem dX9_kindOf_38 : decode cX9_kindOf 38 = .ok (.aload_n 0, 1) := by decide +kernel
theorem dX9_kindOf_39 : decode cX9_kindOf 39 = .ok (.getfield 36, 3) := by decide +kernel
theorem dX9_kindOf_42 : decode cX9_kindOf 42 = .ok (.bipush 8, 2) := by decide +kernel
theorem dX9_kindOf_44 : decode cX9_kindOf 44 = .ok (.iload_n 1, 1) := by decide +kernel
theorem dX9_kindOf_45 : decode cX9_kindOf 45 = .ok (.imul, 1) := by decide +kernel
theorem dX9_kindOf_46 : decode cX9_kindOf 46 = .ok (.iload_n 3, 1) := by decide +kernel
theorem dX9_kindOf_47 : decode cX9_kindOf 47 = .ok (.iadd, 1) := by decide +kernel
theorem dX9_kindOf_48 : decode cX9_kindOf 48 = .ok (.iaload, 1) := by decide +kernel
theorem dX9_kindOf_49 : decode cX9_kindOf 49 = .ok (.iconst (-1), 1) := by decide +kernel
theorem dX9_kindOf_50 : decode cX9_kindOf 50 = .ok (.if_icmp .eq 18, 3) := by decide +kernel
theorem dX9_kindOf_53 : decode cX9_kindOf 53 = .ok (.aload_n 0, 1) := by decide +kernel
theorem dX9_kindOf_54 : decode cX9_kindOf 54 = .ok (.iload_n 1, 1) := by decide +kernel
theorem dX9_kindOf_55 : decode cX9_kindOf 55 = .ok (.iload_n 3, 1) := by decide +kernel
theorem dX9_kindOf_56 : decode cX9_kindOf 56 = .ok (.aload_n 0, 1) := by decide +kernel
theorem dX9_kindOf_57 : decode cX9_kindOf 57 = .ok (.getfield 48, 3) := by decide +kernel
theorem dX9_kindOf_60 : decode cX9_kindOf 60 = .ok (.iload_n 1, 1) := by decide +kernel
theorem dX9_kindOf_61 : decode cX9_kindOf 61 = .ok (.iaload, 1) := by decide +kernel
theorem dX9_kindOf_62 : decode cX9_kindOf 62 = .ok (.invokevirtual 172, 3) := by decide +kernel
theorem dX9_kindOf_65 : decode cX9_kindOf 65 = .ok (.ifCond .eq 7, 3) := by decide +kernel
theorem dX9_kindOf_68 : decode cX9_kindOf 68 = .ok (.iconst 1, 1) := by decide +kernel
theorem dX9_kindOf_69 : decode cX9_kindOf 69 = .ok (.goto 4, 3) := by decide +kernel
theorem dX9_kindOf_72 : decode cX9_kindOf 72 = .ok (.iconst 0, 1) := by decide +kernel
theorem dX9_kindOf_73 : decode cX9_kindOf 73 = .ok (.istore_n 2, 1) := by decide +kernel
theorem dX9_kindOf_74 : decode cX9_kindOf 74 = .ok (.iinc 3 1, 3) := by decide +kernel
theorem dX9_kindOf_77 : decode cX9_kindOf 77 = .ok (.goto (-51), 3) := by decide +kernel
theorem dX9_kindOf_80 : decode cX9_kindOf 80 = .ok (.iload_n 2, 1) := by decide +kernel
theorem dX9_kindOf_81 : decode cX9_kindOf 81 = .ok (.ifCond .eq 5, 3) := by decide +kernel
theorem dX9_kindOf_84 : decode cX9_kindOf 84 = .ok (.iconst 0, 1) := by decide +kernel
theorem dX9_kindOf_85 : decode cX9_kindOf 85 = .ok (.ireturn, 1) := by decide +kernel
theorem dX9_kindOf_86 : decode cX9_kindOf 86 = .ok (.aload_n 0, 1) := by decide +kernel
theorem dX9_kindOf_87 : decode cX9_kindOf 87 = .ok (.iload_n 1, 1) := by decide +kernel
theorem dX9_kindOf_88 : decode cX9_kindOf 88 = .ok (.invokevirtual 194, 3) := by decide +kernel
theorem dX9_kindOf_91 : decode cX9_kindOf 91 = .ok (.aload_n 0, 1) := by decide +kernel
theorem dX9_kindOf_92 : decode cX9_kindOf 92 = .ok (.getfield 185, 3) := by decide +kernel
theorem dX9_kindOf_95 : decode cX9_kindOf 95 = .ok (.if_icmp .ne 7, 3) := by decide +kernel
theorem dX9_kindOf_98 : decode cX9_kindOf 98 = .ok (.iconst 2, 1) := by decide +kernel
theorem dX9_kindOf_99 : decode cX9_kindOf 99 = .ok (.goto 4, 3) := by decide +kernel
theorem dX9_kindOf_102 : decode cX9_kindOf 102 = .ok (.iconst 1, 1) := by decide +kernel
theorem dX9_kindOf_103 : decode cX9_kindOf 103 = .ok (.ireturn, 1) := by decide +kernel
set_option maxRecDepth 20000 in
theorem ggX9_kind_X9_finds : GoodIn wsX9_kind wsX9_finds := goodIn_r _ [5, 6, 7, 8, 9, 10, 11, 12, 13, 14, 15, 16, 17, 18, 19, 20, 21, 4, 22, 23, 24, 25, 26, 27, 28, 29, 30, 31, 32, 33, 34, 35, 36, 37, 38, 39, 40, 41, 42, 43, 44, 45, 46, 47, 48, 49, 50, 51, 52, 53, 54, 55, 56, 57, 58, 59, 60, 61, 62, 63, 64, 65, 66, 67, 68, 69, 70, 71, 72, 73, 74, 75, 76, 77, 78, 79, 80, 81, 82, 83, 84, 85, 86, 87, 88, 89, 90, 91, 92, 93, 94, 95, 96, 97, 98, 99, 100, 101, 102, 103, 104, 105, 106, 107, 108, 109, 110, 111, 112, 113, 114, 115, 116, 117, 118, 119, 120, 121, 122, 123, 124, 125, 126, 127, 128, 129, 130, 131, 132, 133, 154, 155, 156, 157, 158, 159, 160, 161, 162, 163, 164, 165, 166, 167, 168, 169, 170, 171, 172, 173, 174, 175, 176, 177, 178, 179, 180] rfl (by decide +kernel)
set_option maxRecDepth 20000 in
theorem gX9_kind_X9_finds : GoodIn wsX9_kind (wsV RX9 188 RX9 yX9_finds wsX9_finds) := goodIn_app (goodIn_of _ (by decide +kernel)) ggX9_kind_X9_finds
set_option maxRecDepth 20000 in
theorem ggX9_kind_X9_isRow : GoodIn wsX9_kind wsX9_isRow := goodIn_r _ [137, 8, 154, 155, 156, 157, 158, 159, 160, 161, 162, 163, 164, 165, 166, 167, 168, 169, 170, 171, 172, 173, 174, 175, 176, 177, 178, 179, 180] rfl (by decide +kernel)
set_option maxRecDepth 20000 in
theorem gX9_kind_X9_isRow : GoodIn wsX9_kind (wsV RX9 166 RX9 yX9_isRow wsX9_isRow) := goodIn_app (goodIn_of _ (by decide +kernel)) ggX9_kind_X9_isRow
set_option maxRecDepth 20000 in
theorem ggX9_kind_X9_kindOf : GoodIn wsX9_kind wsX9_kindOf := goodIn_r _ [141, 23, 18, 7, 17, 142, 143, 144, 4, 145, 25, 146, 147, 148, 149, 10, 12, 13, 14, 15, 150, 151, 152, 153, 11, 16, 130, 131, 132, 133, 129, 154, 155, 156, 157, 158, 159, 160, 161, 162, 163, 164, 165, 166, 167, 168, 169, 170, 171, 172, 173, 174, 175, 176, 177, 178, 179, 180] rfl (by decide +kernel)
set_option maxRecDepth 20000 in
theorem gX9_kind_X9_kindOf : GoodIn wsX9_kind (wsV RX9 197 RX9 yX9_kindOf wsX9_kindOf) := goodIn_app (goodIn_of _ (by decide +kernel)) ggX9_kind_X9_kindOf
theorem dX9_kind_0 : decode cX9_kind 0 = .ok (.aload_n 0, 1) := by decide +kernel
theorem dX9_kind_1 : decode cX9_kind 1 = .ok (.invokevirtual 188, 3) := by decide +kernel
theorem dX9_kind_4 : decode cX9_kind 4 = .ok (.ifCond .eq 19, 3) := by decide +kernel
theorem dX9_kind_7 : decode cX9_kind 7 = .ok (.aload_n 0, 1) := by decide +kernel
theorem dX9_kind_8 : decode cX9_kind 8 = .ok (.iload_n 1, 1) := by decide +kernel
theorem dX9_kind_9 : decode cX9_kind 9 = .ok (.invokevirtual 166, 3) := by decide +kernel
theorem dX9_kind_12 : decode cX9_kind 12 = .ok (.ifCond .eq 11, 3) := by decide +kernel
theorem dX9_kind_15 : decode cX9_kind 15 = .ok (.aload_n 0, 1) := by decide +kernel
theorem dX9_kind_16 : decode cX9_kind 16 = .ok (.iload_n 1, 1) := by decide +kernel
theorem dX9_kind_17 : decode cX9_kind 17 = .ok (.invokevirtual 197, 3) := by decide +kernel
theorem dX9_kind_20 : decode cX9_kind 20 = .ok (.goto 4, 3) := by decide +kernel
theorem dX9_kind_23 : decode cX9_kind 23 = .ok (.iconst (-1), 1) := by decide +kernel
theorem dX9_kind_24 : decode cX9_kind 24 = .ok (.ireturn, 1) := by decide +kernel
set_option maxRecDepth 20000 in
theorem ggX9_second_X9_finds : GoodIn wsX9_second wsX9_finds := goodIn_r _ [6, 7, 8, 9, 10, 1, 11, 12, 13, 14, 15, 16, 17, 18, 19, 20, 21, 5, 22, 23, 24, 25, 26, 27, 28, 29, 30, 31, 32, 33, 34, 35, 36, 37, 38, 39, 40, 41, 42, 43, 44, 45, 46, 47, 48, 49, 50, 51, 52, 53, 54, 55, 56, 57, 58, 59, 60, 61, 62, 63, 64, 65, 66, 67, 68, 69, 70, 71, 72, 73, 74, 75, 76, 77, 78, 79, 80, 81, 82, 83, 84, 85, 86, 87, 88, 89, 90, 91, 92, 93, 94, 95, 96, 97, 98, 99, 100, 101, 102, 103, 104, 105, 106, 107, 108, 109, 110, 111, 112, 113, 114, 115, 116, 117, 118, 119, 120, 121, 122, 123, 124, 125, 126, 127, 128, 129, 130, 131, 132, 133, 154, 155, 156, 157, 158, 159, 160, 161, 162, 163, 164, 165, 166, 167, 168, 169, 170, 171, 172, 173, 174, 175, 176, 177, 178, 179, 180] rfl (by decide +kernel)
set_option maxRecDepth 20000 in
theorem gX9_second_X9_finds : GoodIn wsX9_second (wsV RX9 188 RX9 yX9_finds wsX9_finds) := goodIn_app (goodIn_of _ (by decide +kernel)) ggX9_second_X9_finds
set_option maxRecDepth 20000 in
theorem ggX9_second_X9_isRow : GoodIn wsX9_second wsX9_isRow := goodIn_r _ [137, 9, 154, 155, 156, 157, 158, 159, 160, 161, 162, 163, 164, 165, 166, 167, 168, 169, 170, 171, 172, 173, 174, 175, 176, 177, 178, 179, 180] rfl (by decide +kernel)
set_option maxRecDepth 20000 in
theorem gX9_second_X9_isRow : GoodIn wsX9_second (wsV RX9 166 RX9 yX9_isRow wsX9_isRow) := goodIn_app (goodIn_of _ (by decide +kernel)) ggX9_second_X9_isRow
set_option maxRecDepth 20000 in
theorem ggX9_second_X9_kindOf : GoodIn wsX9_second wsX9_kindOf := goodIn_r _ [141, 23, 18, 8, 17, 142, 143, 144, 5, 145, 25, 146, 147, 148, 149, 1, 12, 13, 14, 15, 150, 151, 152, 153, 11, 16, 130, 131, 132, 133, 129, 154, 155, 156, 157, 158, 159, 160, 161, 162, 163, 164, 165, 166, 167, 168, 169, 170, 171, 172, 173, 174, 175, 176, 177, 178, 179, 180] rfl (by decide +kernel)
set_option maxRecDepth 20000 in
theorem gX9_second_X9_kindOf : GoodIn wsX9_second (wsV RX9 197 RX9 yX9_kindOf wsX9_kindOf) := goodIn_app (goodIn_of _ (by decide +kernel)) ggX9_second_X9_kindOf
set_option maxRecDepth 20000 in
theorem ggX9_second_X9_other : GoodIn wsX9_second wsX9_other := goodIn_r _ [149, 1, 8, 18, 12, 13, 14, 15, 142, 143, 144, 5, 145, 23, 25, 150, 151, 152, 153, 11, 16, 130, 131, 132, 133, 129, 154, 155, 156, 157, 158, 159, 160, 161, 162, 163, 164, 165, 166, 167, 168, 169, 170, 171, 172, 173, 174, 175, 176, 177, 178, 179, 180] rfl (by decide +kernel)
set_option maxRecDepth 20000 in
theorem gX9_second_X9_other : GoodIn wsX9_second (wsV RX9 194 RX9 yX9_other wsX9_other) := goodIn_app (goodIn_of _ (by decide +kernel)) ggX9_second_X9_other
theorem dX9_second_0 : decode cX9_second 0 = .ok (.aload_n 0, 1) := by decide +kernel
theorem dX9_second_1 : decode cX9_second 1 = .ok (.invokevirtual 188, 3) := by decide +kernel
theorem dX9_second_4 : decode cX9_second 4 = .ok (.ifCond .eq 20, 3) := by decide +kernel
theorem dX9_second_7 : decode cX9_second 7 = .ok (.aload_n 0, 1) := by decide +kernel
theorem dX9_second_8 : decode cX9_second 8 = .ok (.iload_n 1, 1) := by decide +kernel
theorem dX9_second_9 : decode cX9_second 9 = .ok (.invokevirtual 166, 3) := by decide +kernel
theorem dX9_second_12 : decode cX9_second 12 = .ok (.ifCond .eq 12, 3) := by decide +kernel
theorem dX9_second_15 : decode cX9_second 15 = .ok (.aload_n 0, 1) := by decide +kernel
theorem dX9_second_16 : decode cX9_second 16 = .ok (.iload_n 1, 1) := by decide +kernel
theorem dX9_second_17 : decode cX9_second 17 = .ok (.invokevirtual 197, 3) := by decide +kernel
theorem dX9_second_20 : decode cX9_second 20 = .ok (.iconst 3, 1) := by decide +kernel
theorem dX9_second_21 : decode cX9_second 21 = .ok (.if_icmp .ne 5, 3) := by decide +kernel
theorem dX9_second_24 : decode cX9_second 24 = .ok (.iconst (-1), 1) := by decide +kernel
theorem dX9_second_25 : decode cX9_second 25 = .ok (.ireturn, 1) := by decide +kernel
theorem dX9_second_26 : decode cX9_second 26 = .ok (.aload_n 0, 1) := by decide +kernel
theorem dX9_second_27 : decode cX9_second 27 = .ok (.iload_n 1, 1) := by decide +kernel
theorem dX9_second_28 : decode cX9_second 28 = .ok (.invokevirtual 194, 3) := by decide +kernel
theorem dX9_second_31 : decode cX9_second 31 = .ok (.istore_n 2, 1) := by decide +kernel
theorem dX9_second_32 : decode cX9_second 32 = .ok (.iload_n 2, 1) := by decide +kernel
theorem dX9_second_33 : decode cX9_second 33 = .ok (.ldc 175, 2) := by decide +kernel
theorem dX9_second_35 : decode cX9_second 35 = .ok (.if_icmp .ne 7, 3) := by decide +kernel
theorem dX9_second_38 : decode cX9_second 38 = .ok (.iconst (-1), 1) := by decide +kernel
theorem dX9_second_39 : decode cX9_second 39 = .ok (.goto 4, 3) := by decide +kernel
theorem dX9_second_42 : decode cX9_second 42 = .ok (.iload_n 2, 1) := by decide +kernel
theorem dX9_second_43 : decode cX9_second 43 = .ok (.ireturn, 1) := by decide +kernel
set_option maxRecDepth 20000 in
theorem ggX9_many_X9_finds : GoodIn wsX9_many wsX9_finds := goodIn_r _ [6, 7, 8, 1, 9, 10, 11, 12, 13, 14, 15, 16, 17, 18, 19, 20, 21, 5, 22, 23, 24, 25, 26, 27, 28, 29, 30, 31, 32, 33, 34, 35, 36, 37, 38, 39, 40, 41, 42, 43, 44, 45, 46, 47, 48, 49, 50, 51, 52, 53, 54, 55, 56, 57, 58, 59, 60, 61, 62, 63, 64, 65, 66, 67, 68, 69, 70, 71, 72, 73, 74, 75, 76, 77, 78, 79, 80, 81, 82, 83, 84, 85, 86, 87, 88, 89, 90, 91, 92, 93, 94, 95, 96, 97, 98, 99, 100, 101, 102, 103, 104, 105, 106, 107, 108, 109, 110, 111, 112, 113, 114, 115, 116, 117, 118, 119, 120, 121, 122, 123, 124, 125, 126, 127, 128, 129, 130, 131, 132, 133, 150, 151, 152, 153, 154, 155, 156, 157, 158, 159, 160, 161, 162, 163, 164, 165, 166, 167, 168, 169, 170, 171, 172, 173, 174, 175, 176] rfl (by decide +kernel)
set_option maxRecDepth 20000 in
theorem gX9_many_X9_finds : GoodIn wsX9_many (wsV RX9 188 RX9 yX9_finds wsX9_finds) := goodIn_app (goodIn_of _ (by decide +kernel)) ggX9_many_X9_finds
set_option maxRecDepth 20000 in
theorem ggX9_many_X9_isIn : GoodIn wsX9_many wsX9_isIn := goodIn_r _ [51] rfl (by decide +kernel)
set_option maxRecDepth 20000 in
theorem gX9_many_X9_isIn : GoodIn wsX9_many (va_wsS RX9 61 yX9_isIn wsX9_isIn) := goodIn_app (goodIn_of _ (by decide +kernel)) ggX9_many_X9_isIn
set_option maxRecDepth 20000 in
theorem ggX9_many_X9_kindOf : GoodIn wsX9_many wsX9_kindOf := goodIn_r _ [137, 23, 18, 8, 17, 138, 139, 140, 5, 141, 25, 142, 143, 144, 145, 10, 12, 13, 14, 15, 146, 147, 148, 149, 11, 16, 130, 131, 132, 133, 129, 150, 151, 152, 153, 154, 155, 156, 157, 158, 159, 160, 161, 162, 163, 164, 165, 166, 167, 168, 169, 170, 171, 172, 173, 174, 175, 176] rfl (by decide +kernel)
set_option maxRecDepth 20000 in
theorem gX9_many_X9_kindOf : GoodIn wsX9_many (wsV RX9 197 RX9 yX9_kindOf wsX9_kindOf) := goodIn_app (goodIn_of _ (by decide +kernel)) ggX9_many_X9_kindOf
theorem dX9_many_0 : decode cX9_many 0 = .ok (.aload_n 0, 1) := by decide +kernel
theorem dX9_many_1 : decode cX9_many 1 = .ok (.invokevirtual 188, 3) := by decide +kernel
theorem dX9_many_4 : decode cX9_many 4 = .ok (.ifCond .eq 12, 3) := by decide +kernel
theorem dX9_many_7 : decode cX9_many 7 = .ok (.iload_n 1, 1) := by decide +kernel
theorem dX9_many_8 : decode cX9_many 8 = .ok (.iconst 0, 1) := by decide +kernel
theorem dX9_many_9 : decode cX9_many 9 = .ok (.iconst 3, 1) := by decide +kernel
theorem dX9_many_10 : decode cX9_many 10 = .ok (.invokestatic 61, 3) := by decide +kernel
theorem dX9_many_13 : decode cX9_many 13 = .ok (.ifCond .ne 5, 3) := by decide +kernel
theorem dX9_many_16 : decode cX9_many 16 = .ok (.iconst (-1), 1) := by decide +kernel
theorem dX9_many_17 : decode cX9_many 17 = .ok (.ireturn, 1) := by decide +kernel
theorem dX9_many_18 : decode cX9_many 18 = .ok (.iconst 0, 1) := by decide +kernel
theorem dX9_many_19 : decode cX9_many 19 = .ok (.istore_n 2, 1) := by decide +kernel
theorem dX9_many_20 : decode cX9_many 20 = .ok (.iconst 0, 1) := by decide +kernel
theorem dX9_many_21 : decode cX9_many 21 = .ok (.istore_n 3, 1) := by decide +kernel
theorem dX9_many_22 : decode cX9_many 22 = .ok (.iload_n 3, 1) := by decide +kernel
theorem dX9_many_23 : decode cX9_many 23 = .ok (.aload_n 0, 1) := by decide +kernel
theorem dX9_many_24 : decode cX9_many 24 = .ok (.getfield 113, 3) := by decide +kernel
theorem dX9_many_27 : decode cX9_many 27 = .ok (.if_icmp .ge 26, 3) := by decide +kernel
theorem dX9_many_30 : decode cX9_many 30 = .ok (.iload_n 2, 1) := by decide +kernel
theorem dX9_many_31 : decode cX9_many 31 = .ok (.aload_n 0, 1) := by decide +kernel
theorem dX9_many_32 : decode cX9_many 32 = .ok (.iload_n 3, 1) := by decide +kernel
theorem dX9_many_33 : decode cX9_many 33 = .ok (.invokevirtual 197, 3) := by decide +kernel
theorem dX9_many_36 : decode cX9_many 36 = .ok (.iload_n 1, 1) := by decide +kernel
theorem dX9_many_37 : decode cX9_many 37 = .ok (.if_icmp .ne 7, 3) := by decide +kernel
theorem dX9_many_40 : decode cX9_many 40 = .ok (.iconst 1, 1) := by decide +kernel
theorem dX9_many_41 : decode cX9_many 41 = .ok (.goto 4, 3) := by decide +kernel
theorem dX9_many_44 : decode cX9_many 44 = .ok (.iconst 0, 1) := by decide +kernel
theorem dX9_many_45 : decode cX9_many 45 = .ok (.iadd, 1) := by decide +kernel
theorem dX9_many_46 : decode cX9_many 46 = .ok (.istore_n 2, 1) := by decide +kernel
theorem dX9_many_47 : decode cX9_many 47 = .ok (.iinc 3 1, 3) := by decide +kernel
theorem dX9_many_50 : decode cX9_many 50 = .ok (.goto (-28), 3) := by decide +kernel
theorem dX9_many_53 : decode cX9_many 53 = .ok (.iload_n 2, 1) := by decide +kernel
theorem dX9_many_54 : decode cX9_many 54 = .ok (.ireturn, 1) := by decide +kernel
set_option maxRecDepth 20000 in
theorem ggX9_spans_X9_finds : GoodIn wsX9_spans wsX9_finds := goodIn_r _ [7, 8, 9, 1, 10, 11, 12, 13, 14, 15, 16, 17, 18, 2, 19, 20, 21, 6, 22, 23, 24, 25, 26, 27, 28, 29, 30, 31, 32, 33, 34, 35, 36, 37, 38, 39, 40, 41, 42, 43, 44, 45, 46, 47, 48, 49, 50, 51, 52, 53, 54, 55, 56, 57, 58, 59, 60, 61, 62, 63, 64, 65, 66, 67, 68, 69, 70, 71, 72, 73, 74, 75, 76, 77, 78, 79, 80, 81, 82, 83, 84, 85, 86, 87, 88, 89, 90, 91, 92, 93, 94, 95, 96, 97, 98, 99, 100, 101, 102, 103, 104, 105, 106, 107, 108, 109, 110, 111, 112, 113, 114, 115, 116, 117, 118, 119, 120, 121, 122, 123, 124, 125, 126, 127, 128, 129, 130, 131, 132, 133, 134, 135, 136, 137, 138, 139, 140, 141, 142, 143, 144, 145, 146, 147, 148, 149, 150, 151, 152, 153, 154, 155, 156, 157, 158, 159, 160] rfl (by decide +kernel)
set_option maxRecDepth 20000 in
theorem gX9_spans_X9_finds : GoodIn wsX9_spans (wsV RX9 188 RX9 yX9_finds wsX9_finds) := goodIn_app (goodIn_of _ (by decide +kernel)) ggX9_spans_X9_finds
theorem dX9_spans_0 : decode cX9_spans 0 = .ok (.aload_n 0, 1) := by decide +kernel
theorem dX9_spans_1 : decode cX9_spans 1 = .ok (.invokevirtual 188, 3) := by decide +kernel
theorem dX9_spans_4 : decode cX9_spans 4 = .ok (.ifCond .ne 5, 3) := by decide +kernel
theorem dX9_spans_7 : decode cX9_spans 7 = .ok (.iconst (-1), 1) := by decide +kernel
theorem dX9_spans_8 : decode cX9_spans 8 = .ok (.ireturn, 1) := by decide +kernel
theorem dX9_spans_9 : decode cX9_spans 9 = .ok (.iconst 1, 1) := by decide +kernel
theorem dX9_spans_10 : decode cX9_spans 10 = .ok (.istore_n 1, 1) := by decide +kernel
theorem dX9_spans_11 : decode cX9_spans 11 = .ok (.iconst 1, 1) := by decide +kernel
theorem dX9_spans_12 : decode cX9_spans 12 = .ok (.istore_n 2, 1) := by decide +kernel
theorem dX9_spans_13 : decode cX9_spans 13 = .ok (.iload_n 2, 1) := by decide +kernel
theorem dX9_spans_14 : decode cX9_spans 14 = .ok (.aload_n 0, 1) := by decide +kernel
theorem dX9_spans_15 : decode cX9_spans 15 = .ok (.getfield 113, 3) := by decide +kernel
theorem dX9_spans_18 : decode cX9_spans 18 = .ok (.if_icmp .ge 34, 3) := by decide +kernel
theorem dX9_spans_21 : decode cX9_spans 21 = .ok (.iload_n 1, 1) := by decide +kernel
theorem dX9_spans_22 : decode cX9_spans 22 = .ok (.aload_n 0, 1) := by decide +kernel
theorem dX9_spans_23 : decode cX9_spans 23 = .ok (.getfield 48, 3) := by decide +kernel
theorem dX9_spans_26 : decode cX9_spans 26 = .ok (.iload_n 2, 1) := by decide +kernel
theorem dX9_spans_27 : decode cX9_spans 27 = .ok (.iaload, 1) := by decide +kernel
theorem dX9_spans_28 : decode cX9_spans 28 = .ok (.aload_n 0, 1) := by decide +kernel
theorem dX9_spans_29 : decode cX9_spans 29 = .ok (.getfield 48, 3) := by decide +kernel
theorem dX9_spans_32 : decode cX9_spans 32 = .ok (.iload_n 2, 1) := by decide +kernel
theorem dX9_spans_33 : decode cX9_spans 33 = .ok (.iconst 1, 1) := by decide +kernel
theorem dX9_spans_34 : decode cX9_spans 34 = .ok (.isub, 1) := by decide +kernel
theorem dX9_spans_35 : decode cX9_spans 35 = .ok (.iaload, 1) := by decide +kernel
theorem dX9_spans_36 : decode cX9_spans 36 = .ok (.if_icmp .eq 7, 3) := by decide +kernel
theorem dX9_spans_39 : decode cX9_spans 39 = .ok (.iconst 1, 1) := by decide +kernel
theorem dX9_spans_40 : decode cX9_spans 40 = .ok (.goto 4, 3) := by decide +kernel
theorem dX9_spans_43 : decode cX9_spans 43 = .ok (.iconst 0, 1) := by decide +kernel
theorem dX9_spans_44 : decode cX9_spans 44 = .ok (.iadd, 1) := by decide +kernel
theorem dX9_spans_45 : decode cX9_spans 45 = .ok (.istore_n 1, 1) := by decide +kernel
theorem dX9_spans_46 : decode cX9_spans 46 = .ok (.iinc 2 1, 3) := by decide +kernel
theorem dX9_spans_49 : decode cX9_spans 49 = .ok (.goto (-36), 3) := by decide +kernel
theorem dX9_spans_52 : decode cX9_spans 52 = .ok (.iload_n 1, 1) := by decide +kernel
theorem dX9_spans_53 : decode cX9_spans 53 = .ok (.ireturn, 1) := by decide +kernel
theorem dX9_puts_0 : decode cX9_puts 0 = .ok (.aload_n 0, 1) := by decide +kernel
theorem dX9_puts_1 : decode cX9_puts 1 = .ok (.getfield 51, 3) := by decide +kernel
theorem dX9_puts_4 : decode cX9_puts 4 = .ok (.aload_n 0, 1) := by decide +kernel
theorem dX9_puts_5 : decode cX9_puts 5 = .ok (.getfield 200, 3) := by decide +kernel
theorem dX9_puts_8 : decode cX9_puts 8 = .ok (.iload_n 1, 1) := by decide +kernel
theorem dX9_puts_9 : decode cX9_puts 9 = .ok (.i2b, 1) := by decide +kernel
theorem dX9_puts_10 : decode cX9_puts 10 = .ok (.bastore, 1) := by decide +kernel
theorem dX9_puts_11 : decode cX9_puts 11 = .ok (.aload_n 0, 1) := by decide +kernel
theorem dX9_puts_12 : decode cX9_puts 12 = .ok (.dup, 1) := by decide +kernel
theorem dX9_puts_13 : decode cX9_puts 13 = .ok (.getfield 200, 3) := by decide +kernel
theorem dX9_puts_16 : decode cX9_puts 16 = .ok (.iconst 1, 1) := by decide +kernel
theorem dX9_puts_17 : decode cX9_puts 17 = .ok (.iadd, 1) := by decide +kernel
theorem dX9_puts_18 : decode cX9_puts 18 = .ok (.putfield 200, 3) := by decide +kernel
theorem dX9_puts_21 : decode cX9_puts 21 = .ok (.return_, 1) := by decide +kernel
set_option maxRecDepth 20000 in
theorem ggX9_figures_X9_puts : GoodIn wsX9_figures wsX9_puts := goodIn_r _ [5, 6, 7, 8, 9, 10, 11, 12, 13, 14, 15, 16, 17, 18, 19, 20, 21, 22, 23, 24, 25, 26, 27, 28, 29, 30, 31, 32, 33, 34] rfl (by decide +kernel)
set_option maxRecDepth 20000 in
theorem gX9_figures_X9_puts : GoodIn wsX9_figures (wsV RX9 203 RX9 yX9_puts wsX9_puts) := goodIn_app (goodIn_of _ (by decide +kernel)) ggX9_figures_X9_puts
theorem dX9_figures_0 : decode cX9_figures 0 = .ok (.iconst 1, 1) := by decide +kernel
theorem dX9_figures_1 : decode cX9_figures 1 = .ok (.istore_n 3, 1) := by decide +kernel
theorem dX9_figures_2 : decode cX9_figures 2 = .ok (.bipush 10, 2) := by decide +kernel
theorem dX9_figures_4 : decode cX9_figures 4 = .ok (.istore 4, 2) := by decide +kernel
theorem dX9_figures_6 : decode cX9_figures 6 = .ok (.iload_n 3, 1) := by decide +kernel
theorem dX9_figures_7 : decode cX9_figures 7 = .ok (.iload_n 2, 1) := by decide +kernel
theorem dX9_figures_8 : decode cX9_figures 8 = .ok (.if_icmp .lt 9, 3) := by decide +kernel
theorem dX9_figures_11 : decode cX9_figures 11 = .ok (.iload_n 1, 1) := by decide +kernel
theorem dX9_figures_12 : decode cX9_figures 12 = .ok (.iload 4, 2) := by decide +kernel
theorem dX9_figures_14 : decode cX9_figures 14 = .ok (.if_icmp .lt 16, 3) := by decide +kernel
theorem dX9_figures_17 : decode cX9_figures 17 = .ok (.iinc 3 1, 3) := by decide +kernel
theorem dX9_figures_20 : decode cX9_figures 20 = .ok (.iload 4, 2) := by decide +kernel
theorem dX9_figures_22 : decode cX9_figures 22 = .ok (.bipush 10, 2) := by decide +kernel
theorem dX9_figures_24 : decode cX9_figures 24 = .ok (.imul, 1) := by decide +kernel
theorem dX9_figures_25 : decode cX9_figures 25 = .ok (.istore 4, 2) := by decide +kernel
theorem dX9_figures_27 : decode cX9_figures 27 = .ok (.goto (-21), 3) := by decide +kernel
theorem dX9_figures_30 : decode cX9_figures 30 = .ok (.iload 4, 2) := by decide +kernel
theorem dX9_figures_32 : decode cX9_figures 32 = .ok (.bipush 10, 2) := by decide +kernel
theorem dX9_figures_34 : decode cX9_figures 34 = .ok (.idiv, 1) := by decide +kernel
theorem dX9_figures_35 : decode cX9_figures 35 = .ok (.istore 5, 2) := by decide +kernel
theorem dX9_figures_37 : decode cX9_figures 37 = .ok (.iload 5, 2) := by decide +kernel
theorem dX9_figures_39 : decode cX9_figures 39 = .ok (.ifCond .le 27, 3) := by decide +kernel
theorem dX9_figures_42 : decode cX9_figures 42 = .ok (.aload_n 0, 1) := by decide +kernel
theorem dX9_figures_43 : decode cX9_figures 43 = .ok (.bipush 48, 2) := by decide +kernel
theorem dX9_figures_45 : decode cX9_figures 45 = .ok (.iload_n 1, 1) := by decide +kernel
theorem dX9_figures_46 : decode cX9_figures 46 = .ok (.iload 5, 2) := by decide +kernel
theorem dX9_figures_48 : decode cX9_figures 48 = .ok (.idiv, 1) := by decide +kernel
theorem dX9_figures_49 : decode cX9_figures 49 = .ok (.bipush 10, 2) := by decide +kernel
theorem dX9_figures_51 : decode cX9_figures 51 = .ok (.irem, 1) := by decide +kernel
theorem dX9_figures_52 : decode cX9_figures 52 = .ok (.iadd, 1) := by decide +kernel
theorem dX9_figures_53 : decode cX9_figures 53 = .ok (.invokevirtual 203, 3) := by decide +kernel
theorem dX9_figures_56 : decode cX9_figures 56 = .ok (.iload 5, 2) := by decide +kernel
theorem dX9_figures_58 : decode cX9_figures 58 = .ok (.bipush 10, 2) := by decide +kernel
theorem dX9_figures_60 : decode cX9_figures 60 = .ok (.idiv, 1) := by decide +kernel
theorem dX9_figures_61 : decode cX9_figures 61 = .ok (.istore 5, 2) := by decide +kernel
theorem dX9_figures_63 : decode cX9_figures 63 = .ok (.goto (-26), 3) := by decide +kernel
theorem dX9_figures_66 : decode cX9_figures 66 = .ok (.return_, 1) := by decide +kernel
set_option maxRecDepth 20000 in
theorem ggX9_writes_X9_split : GoodIn wsX9_writes wsX9_split := goodIn_r _ [11, 6, 5, 4, 12, 13, 10, 14, 15, 16, 17, 68, 69, 70, 71, 72, 73, 74, 75, 76, 77, 78, 79, 80, 81, 82, 83, 84, 85, 86, 87, 88, 89, 90, 91, 92, 93, 94] rfl (by decide +kernel)
set_option maxRecDepth 20000 in
theorem gX9_writes_X9_split : GoodIn wsX9_writes (wsV RX9 89 RX9 yX9_split wsX9_split) := goodIn_app (goodIn_of _ (by decide +kernel)) ggX9_writes_X9_split
set_option maxRecDepth 20000 in
theorem ggX9_writes_X9_figures : GoodIn wsX9_writes wsX9_figures := goodIn_r _ [21, 22, 23, 24, 10, 25, 26, 1, 68, 69, 70, 71, 72, 73, 74, 75, 76, 77, 78, 79, 80, 81, 82, 83, 84, 85, 86, 87, 88, 89, 90, 91, 92, 93, 94] rfl (by decide +kernel)
set_option maxRecDepth 20000 in
theorem gX9_writes_X9_figures : GoodIn wsX9_writes (wsV RX9 206 RX9 yX9_figures wsX9_figures) := goodIn_app (goodIn_of _ (by decide +kernel)) ggX9_writes_X9_figures
set_option maxRecDepth 20000 in
theorem ggX9_writes_J0_charAt_5068e : GoodIn wsX9_writes wsJ0_charAt_5068e := goodIn_r _ [31, 32, 33, 34, 35, 30, 36, 37, 38, 39, 40, 41, 42, 43, 44, 45, 46, 47, 48, 49, 50, 51, 52, 53, 54, 55, 56, 57, 58, 59, 60, 61, 62, 63, 64, 65, 66, 67] rfl (by decide +kernel)
set_option maxRecDepth 20000 in
theorem gX9_writes_J0_charAt_5068e : GoodIn wsX9_writes (wsV RX9 133 RJ0 yJ0_charAt_5068e wsJ0_charAt_5068e) := goodIn_app (goodIn_of _ (by decide +kernel)) ggX9_writes_J0_charAt_5068e
set_option maxRecDepth 20000 in
theorem ggX9_writes_X9_puts : GoodIn wsX9_writes wsX9_puts := goodIn_r _ [25, 26, 1, 68, 69, 70, 71, 72, 73, 74, 75, 76, 77, 78, 79, 80, 81, 82, 83, 84, 85, 86, 87, 88, 89, 90, 91, 92, 93, 94] rfl (by decide +kernel)
set_option maxRecDepth 20000 in
theorem gX9_writes_X9_puts : GoodIn wsX9_writes (wsV RX9 203 RX9 yX9_puts wsX9_puts) := goodIn_app (goodIn_of _ (by decide +kernel)) ggX9_writes_X9_puts
theorem dX9_writes_0 : decode cX9_writes 0 = .ok (.aload_n 0, 1) := by decide +kernel
theorem dX9_writes_1 : decode cX9_writes 1 = .ok (.iload_n 1, 1) := by decide +kernel
theorem dX9_writes_2 : decode cX9_writes 2 = .ok (.invokevirtual 89, 3) := by decide +kernel
theorem dX9_writes_5 : decode cX9_writes 5 = .ok (.aload_n 0, 1) := by decide +kernel
theorem dX9_writes_6 : decode cX9_writes 6 = .ok (.iconst 0, 1) := by decide +kernel
theorem dX9_writes_7 : decode cX9_writes 7 = .ok (.putfield 200, 3) := by decide +kernel
theorem dX9_writes_10 : decode cX9_writes 10 = .ok (.iconst 0, 1) := by decide +kernel
theorem dX9_writes_11 : decode cX9_writes 11 = .ok (.istore_n 3, 1) := by decide +kernel
theorem dX9_writes_12 : decode cX9_writes 12 = .ok (.iload_n 3, 1) := by decide +kernel
theorem dX9_writes_13 : decode cX9_writes 13 = .ok (.aload_n 0, 1) := by decide +kernel
theorem dX9_writes_14 : decode cX9_writes 14 = .ok (.getfield 19, 3) := by decide +kernel
theorem dX9_writes_17 : decode cX9_writes 17 = .ok (.iload_n 2, 1) := by decide +kernel
theorem dX9_writes_18 : decode cX9_writes 18 = .ok (.iaload, 1) := by decide +kernel
theorem dX9_writes_19 : decode cX9_writes 19 = .ok (.if_icmp .ge 214, 3) := by decide +kernel
theorem dX9_writes_22 : decode cX9_writes 22 = .ok (.aload_n 0, 1) := by decide +kernel
theorem dX9_writes_23 : decode cX9_writes 23 = .ok (.getfield 13, 3) := by decide +kernel
theorem dX9_writes_26 : decode cX9_writes 26 = .ok (.bipush 24, 2) := by decide +kernel
theorem dX9_writes_28 : decode cX9_writes 28 = .ok (.iload_n 2, 1) := by decide +kernel
theorem dX9_writes_29 : decode cX9_writes 29 = .ok (.imul, 1) := by decide +kernel
theorem dX9_writes_30 : decode cX9_writes 30 = .ok (.iload_n 3, 1) := by decide +kernel
theorem dX9_writes_31 : decode cX9_writes 31 = .ok (.iadd, 1) := by decide +kernel
theorem dX9_writes_32 : decode cX9_writes 32 = .ok (.baload, 1) := by decide +kernel
theorem dX9_writes_33 : decode cX9_writes 33 = .ok (.istore 4, 2) := by decide +kernel
theorem dX9_writes_35 : decode cX9_writes 35 = .ok (.iload 4, 2) := by decide +kernel
theorem dX9_writes_37 : decode cX9_writes 37 = .ok (.lookupswitch 184 #[(68, 59), (77, 71), (78, 110), (87, 148), (89, 83), (121, 95)], 59) := by decide +kernel
theorem dX9_writes_96 : decode cX9_writes 96 = .ok (.aload_n 0, 1) := by decide +kernel
theorem dX9_writes_97 : decode cX9_writes 97 = .ok (.aload_n 0, 1) := by decide +kernel
theorem dX9_writes_98 : decode cX9_writes 98 = .ok (.getfield 82, 3) := by decide +kernel
theorem dX9_writes_101 : decode cX9_writes 101 = .ok (.iconst 1, 1) := by decide +kernel
theorem dX9_writes_102 : decode cX9_writes 102 = .ok (.invokevirtual 206, 3) := by decide +kernel
theorem dX9_writes_105 : decode cX9_writes 105 = .ok (.goto 122, 3) := by decide +kernel
theorem dX9_writes_108 : decode cX9_writes 108 = .ok (.aload_n 0, 1) := by decide +kernel
theorem dX9_writes_109 : decode cX9_writes 109 = .ok (.aload_n 0, 1) := by decide +kernel
theorem dX9_writes_110 : decode cX9_writes 110 = .ok (.getfield 79, 3) := by decide +kernel
theorem dX9_writes_113 : decode cX9_writes 113 = .ok (.iconst 1, 1) := by decide +kernel
theorem dX9_writes_114 : decode cX9_writes 114 = .ok (.invokevirtual 206, 3) := by decide +kernel
theorem dX9_writes_117 : decode cX9_writes 117 = .ok (.goto 110, 3) := by decide +kernel
theorem dX9_writes_120 : decode cX9_writes 120 = .ok (.aload_n 0, 1) := by decide +kernel
theorem dX9_writes_121 : decode cX9_writes 121 = .ok (.aload_n 0, 1) := by decide +kernel
theorem dX9_writes_122 : decode cX9_writes 122 = .ok (.getfield 76, 3) := by decide +kernel
theorem dX9_writes_125 : decode cX9_writes 125 = .ok (.iconst 4, 1) := by decide +kernel
theorem dX9_writes_126 : decode cX9_writes 126 = .ok (.invokevirtual 206, 3) := by decide +kernel
theorem dX9_writes_129 : decode cX9_writes 129 = .ok (.goto 98, 3) := by decide +kernel
theorem dX9_writes_132 : decode cX9_writes 132 = .ok (.aload_n 0, 1) := by decide +kernel
theorem dX9_writes_133 : decode cX9_writes 133 = .ok (.aload_n 0, 1) := by decide +kernel
theorem dX9_writes_134 : decode cX9_writes 134 = .ok (.getfield 76, 3) := by decide +kernel
theorem dX9_writes_137 : decode cX9_writes 137 = .ok (.bipush 100, 2) := by decide +kernel
theorem dX9_writes_139 : decode cX9_writes 139 = .ok (.irem, 1) := by decide +kernel
theorem dX9_writes_140 : decode cX9_writes 140 = .ok (.iconst 2, 1) := by decide +kernel
theorem dX9_writes_141 : decode cX9_writes 141 = .ok (.invokevirtual 206, 3) := by decide +kernel
theorem dX9_writes_144 : decode cX9_writes 144 = .ok (.goto 83, 3) := by decide +kernel
theorem dX9_writes_147 : decode cX9_writes 147 = .ok (.iconst 0, 1) := by decide +kernel
theorem dX9_writes_148 : decode cX9_writes 148 = .ok (.istore 5, 2) := by decide +kernel
theorem dX9_writes_150 : decode cX9_writes 150 = .ok (.iload 5, 2) := by decide +kernel
theorem dX9_writes_152 : decode cX9_writes 152 = .ok (.iconst 3, 1) := by decide +kernel
theorem dX9_writes_153 : decode cX9_writes 153 = .ok (.if_icmp .ge 29, 3) := by decide +kernel
theorem dX9_writes_156 : decode cX9_writes 156 = .ok (.aload_n 0, 1) := by decide +kernel
theorem dX9_writes_157 : decode cX9_writes 157 = .ok (.ldc 145, 2) := by decide +kernel
theorem dX9_writes_159 : decode cX9_writes 159 = .ok (.iconst 3, 1) := by decide +kernel
theorem dX9_writes_160 : decode cX9_writes 160 = .ok (.aload_n 0, 1) := by decide +kernel
theorem dX9_writes_161 : decode cX9_writes 161 = .ok (.getfield 79, 3) := by decide +kernel
theorem dX9_writes_164 : decode cX9_writes 164 = .ok (.imul, 1) := by decide +kernel
theorem dX9_writes_165 : decode cX9_writes 165 = .ok (.iconst 3, 1) := by decide +kernel
theorem dX9_writes_166 : decode cX9_writes 166 = .ok (.isub, 1) := by decide +kernel
theorem dX9_writes_167 : decode cX9_writes 167 = .ok (.iload 5, 2) := by decide +kernel
theorem dX9_writes_169 : decode cX9_writes 169 = .ok (.iadd, 1) := by decide +kernel
theorem dX9_writes_170 : decode cX9_writes 170 = .ok (.invokevirtual 133, 3) := by decide +kernel
theorem dX9_writes_173 : decode cX9_writes 173 = .ok (.invokevirtual 203, 3) := by decide +kernel
theorem dX9_writes_176 : decode cX9_writes 176 = .ok (.iinc 5 1, 3) := by decide +kernel
theorem dX9_writes_179 : decode cX9_writes 179 = .ok (.goto (-29), 3) := by decide +kernel
theorem dX9_writes_182 : decode cX9_writes 182 = .ok (.goto 45, 3) := by decide +kernel
theorem dX9_writes_185 : decode cX9_writes 185 = .ok (.iconst 0, 1) := by decide +kernel
theorem dX9_writes_186 : decode cX9_writes 186 = .ok (.istore 5, 2) := by decide +kernel
theorem dX9_writes_188 : decode cX9_writes 188 = .ok (.iload 5, 2) := by decide +kernel
theorem dX9_writes_190 : decode cX9_writes 190 = .ok (.iconst 3, 1) := by decide +kernel
theorem dX9_writes_191 : decode cX9_writes 191 = .ok (.if_icmp .ge 27, 3) := by decide +kernel
theorem dX9_writes_194 : decode cX9_writes 194 = .ok (.aload_n 0, 1) := by decide +kernel
theorem dX9_writes_195 : decode cX9_writes 195 = .ok (.ldc 151, 2) := by decide +kernel
theorem dX9_writes_197 : decode cX9_writes 197 = .ok (.iconst 3, 1) := by decide +kernel
theorem dX9_writes_198 : decode cX9_writes 198 = .ok (.iload_n 1, 1) := by decide +kernel
theorem dX9_writes_199 : decode cX9_writes 199 = .ok (.bipush 7, 2) := by decide +kernel
theorem dX9_writes_201 : decode cX9_writes 201 = .ok (.irem, 1) := by decide +kernel
theorem dX9_writes_202 : decode cX9_writes 202 = .ok (.imul, 1) := by decide +kernel
theorem dX9_writes_203 : decode cX9_writes 203 = .ok (.iload 5, 2) := by decide +kernel
theorem dX9_writes_205 : decode cX9_writes 205 = .ok (.iadd, 1) := by decide +kernel
theorem dX9_writes_206 : decode cX9_writes 206 = .ok (.invokevirtual 133, 3) := by decide +kernel
theorem dX9_writes_209 : decode cX9_writes 209 = .ok (.invokevirtual 203, 3) := by decide +kernel
theorem dX9_writes_212 : decode cX9_writes 212 = .ok (.iinc 5 1, 3) := by decide +kernel
theorem dX9_writes_215 : decode cX9_writes 215 = .ok (.goto (-27), 3) := by decide +kernel
theorem dX9_writes_218 : decode cX9_writes 218 = .ok (.goto 9, 3) := by decide +kernel
theorem dX9_writes_221 : decode cX9_writes 221 = .ok (.aload_n 0, 1) := by decide +kernel
theorem dX9_writes_222 : decode cX9_writes 222 = .ok (.iload 4, 2) := by decide +kernel
theorem dX9_writes_224 : decode cX9_writes 224 = .ok (.invokevirtual 203, 3) := by decide +kernel
theorem dX9_writes_227 : decode cX9_writes 227 = .ok (.iinc 3 1, 3) := by decide +kernel
theorem dX9_writes_230 : decode cX9_writes 230 = .ok (.goto (-218), 3) := by decide +kernel
theorem dX9_writes_233 : decode cX9_writes 233 = .ok (.return_, 1) := by decide +kernel
set_option maxRecDepth 20000 in
theorem ggX9_write_X9_isDay : GoodIn wsX9_write wsX9_isDay := goodIn_r _ [8, 9, 10, 11, 7, 12] rfl (by decide +kernel)
set_option maxRecDepth 20000 in
theorem gX9_write_X9_isDay : GoodIn wsX9_write (va_wsS RX9 86 yX9_isDay wsX9_isDay) := goodIn_app (goodIn_of _ (by decide +kernel)) ggX9_write_X9_isDay
set_option maxRecDepth 20000 in
theorem ggX9_write_X9_isIn : GoodIn wsX9_write wsX9_isIn := goodIn_r _ [12] rfl (by decide +kernel)
set_option maxRecDepth 20000 in
theorem gX9_write_X9_isIn : GoodIn wsX9_write (va_wsS RX9 61 yX9_isIn wsX9_isIn) := goodIn_app (goodIn_of _ (by decide +kernel)) ggX9_write_X9_isIn
set_option maxRecDepth 20000 in
theorem ggX9_write_X9_writes : GoodIn wsX9_write wsX9_writes := goodIn_r _ [16, 3, 17, 18, 19, 20, 21, 22, 23, 24, 7, 25, 26, 27, 28, 29, 30, 31, 32, 33, 34, 35, 36, 37, 38, 39, 4, 40, 41, 42, 43, 44, 45, 46, 47, 48, 49, 50, 51, 52, 53, 54, 55, 56, 57, 58, 59, 60, 61, 62, 63, 64, 65, 66, 67, 68, 69, 70, 71, 72, 73, 74, 75, 76, 77, 78, 79, 80, 81, 82, 83, 84, 85, 86, 87, 88, 89, 90, 91, 92, 93, 94, 95, 96, 97, 98, 99, 100, 101, 102, 103, 104, 105, 106, 107] rfl (by decide +kernel)
set_option maxRecDepth 20000 in
theorem gX9_write_X9_writes : GoodIn wsX9_write (wsV RX9 210 RX9 yX9_writes wsX9_writes) := goodIn_app (goodIn_of _ (by decide +kernel)) ggX9_write_X9_writes
theorem dX9_write_0 : decode cX9_write 0 = .ok (.aload_n 0, 1) := by decide +kernel
theorem dX9_write_1 : decode cX9_write 1 = .ok (.iconst 0, 1) := by decide +kernel
theorem dX9_write_2 : decode cX9_write 2 = .ok (.putfield 54, 3) := by decide +kernel
theorem dX9_write_5 : decode cX9_write 5 = .ok (.iload_n 1, 1) := by decide +kernel
theorem dX9_write_6 : decode cX9_write 6 = .ok (.invokestatic 86, 3) := by decide +kernel
theorem dX9_write_9 : decode cX9_write 9 = .ok (.ifCond .eq 17, 3) := by decide +kernel
theorem dX9_write_12 : decode cX9_write 12 = .ok (.iload_n 2, 1) := by decide +kernel
theorem dX9_write_13 : decode cX9_write 13 = .ok (.iconst 0, 1) := by decide +kernel
theorem dX9_write_14 : decode cX9_write 14 = .ok (.aload_n 0, 1) := by decide +kernel
theorem dX9_write_15 : decode cX9_write 15 = .ok (.getfield 103, 3) := by decide +kernel
theorem dX9_write_18 : decode cX9_write 18 = .ok (.iconst 1, 1) := by decide +kernel
theorem dX9_write_19 : decode cX9_write 19 = .ok (.isub, 1) := by decide +kernel
theorem dX9_write_20 : decode cX9_write 20 = .ok (.invokestatic 61, 3) := by decide +kernel
theorem dX9_write_23 : decode cX9_write 23 = .ok (.ifCond .ne 5, 3) := by decide +kernel
theorem dX9_write_26 : decode cX9_write 26 = .ok (.iconst (-1), 1) := by decide +kernel
theorem dX9_write_27 : decode cX9_write 27 = .ok (.ireturn, 1) := by decide +kernel
theorem dX9_write_28 : decode cX9_write 28 = .ok (.aload_n 0, 1) := by decide +kernel
theorem dX9_write_29 : decode cX9_write 29 = .ok (.iload_n 1, 1) := by decide +kernel
theorem dX9_write_30 : decode cX9_write 30 = .ok (.iload_n 2, 1) := by decide +kernel
theorem dX9_write_31 : decode cX9_write 31 = .ok (.invokevirtual 210, 3) := by decide +kernel
theorem dX9_write_34 : decode cX9_write 34 = .ok (.iload_n 3, 1) := by decide +kernel
theorem dX9_write_35 : decode cX9_write 35 = .ok (.ifCond .lt 20, 3) := by decide +kernel
theorem dX9_write_38 : decode cX9_write 38 = .ok (.iload_n 3, 1) := by decide +kernel
theorem dX9_write_39 : decode cX9_write 39 = .ok (.aload_n 0, 1) := by decide +kernel
theorem dX9_write_40 : decode cX9_write 40 = .ok (.getfield 200, 3) := by decide +kernel
theorem dX9_write_43 : decode cX9_write 43 = .ok (.if_icmp .ge 12, 3) := by decide +kernel
theorem dX9_write_46 : decode cX9_write 46 = .ok (.aload_n 0, 1) := by decide +kernel
theorem dX9_write_47 : decode cX9_write 47 = .ok (.getfield 51, 3) := by decide +kernel
theorem dX9_write_50 : decode cX9_write 50 = .ok (.iload_n 3, 1) := by decide +kernel
theorem dX9_write_51 : decode cX9_write 51 = .ok (.baload, 1) := by decide +kernel
theorem dX9_write_52 : decode cX9_write 52 = .ok (.goto 4, 3) := by decide +kernel
theorem dX9_write_55 : decode cX9_write 55 = .ok (.iconst (-1), 1) := by decide +kernel
theorem dX9_write_56 : decode cX9_write 56 = .ok (.ireturn, 1) := by decide +kernel
set_option maxRecDepth 20000 in
theorem ggX9_same_X9_finds : GoodIn wsX9_same wsX9_finds := goodIn_r _ [11, 12, 13, 14, 15, 16, 17, 18, 19, 20, 21, 22, 23, 2, 24, 25, 26, 10, 27, 1, 28, 29, 30, 31, 32, 33, 34, 35, 36, 37, 38, 39, 4, 40, 41, 42, 43, 44, 45, 46, 47, 48, 49, 50, 6, 51, 52, 53, 54, 55, 56, 57, 58, 59, 60, 61, 62, 63, 64, 65, 66, 67, 68, 69, 70, 71, 72, 73, 74, 75, 76, 77, 78, 79, 80, 81, 82, 83, 84, 85, 86, 87, 88, 89, 90, 91, 92, 93, 94, 95, 96, 97, 98, 99, 100, 101, 102, 103, 104, 105, 106, 107, 108, 109, 110, 111, 112, 113, 114, 115, 116, 117, 118, 119, 120, 121, 122, 123, 124, 125, 126, 127, 128, 129, 130, 131, 132, 133, 134, 135, 159, 160, 161, 162, 163, 164, 165, 166, 167, 168, 169, 170, 171, 172, 173, 174, 175, 176, 177, 178, 179, 180, 181, 182, 183, 184, 185] rfl (by decide +kernel)
set_option maxRecDepth 20000 in
theorem gX9_same_X9_finds : GoodIn wsX9_same (wsV RX9 188 RX9 yX9_finds wsX9_finds) := goodIn_app (goodIn_of _ (by decide +kernel)) ggX9_same_X9_finds
set_option maxRecDepth 20000 in
theorem ggX9_same_X9_isRow : GoodIn wsX9_same wsX9_isRow := goodIn_r _ [139, 14, 159, 160, 161, 162, 163, 164, 165, 166, 167, 168, 169, 170, 171, 172, 173, 174, 175, 176, 177, 178, 179, 180, 181, 182, 183, 184, 185] rfl (by decide +kernel)
set_option maxRecDepth 20000 in
theorem gX9_same_X9_isRow : GoodIn wsX9_same (wsV RX9 166 RX9 yX9_isRow wsX9_isRow) := goodIn_app (goodIn_of _ (by decide +kernel)) ggX9_same_X9_isRow
set_option maxRecDepth 20000 in
theorem ggX9_same_X9_writes : GoodIn wsX9_same wsX9_writes := goodIn_r _ [143, 3, 37, 38, 144, 145, 146, 147, 148, 149, 10, 150, 121, 122, 123, 118, 119, 120, 151, 152, 153, 154, 155, 156, 157, 158, 5, 78, 79, 80, 69, 81, 71, 82, 83, 84, 85, 76, 77, 86, 87, 88, 89, 90, 91, 92, 93, 94, 95, 96, 97, 98, 99, 100, 101, 102, 103, 104, 105, 106, 107, 108, 109, 110, 111, 112, 113, 114, 159, 160, 161, 162, 163, 164, 165, 166, 167, 168, 169, 170, 171, 172, 173, 174, 175, 176, 177, 178, 179, 180, 181, 182, 183, 184, 185] rfl (by decide +kernel)
set_option maxRecDepth 20000 in
theorem gX9_same_X9_writes : GoodIn wsX9_same (wsV RX9 210 RX9 yX9_writes wsX9_writes) := goodIn_app (goodIn_of _ (by decide +kernel)) ggX9_same_X9_writes
theorem dX9_same_0 : decode cX9_same 0 = .ok (.aload_n 0, 1) := by decide +kernel
theorem dX9_same_1 : decode cX9_same 1 = .ok (.invokevirtual 188, 3) := by decide +kernel
theorem dX9_same_4 : decode cX9_same 4 = .ok (.ifCond .eq 31, 3) := by decide +kernel
theorem dX9_same_7 : decode cX9_same 7 = .ok (.aload_n 0, 1) := by decide +kernel
theorem dX9_same_8 : decode cX9_same 8 = .ok (.iload_n 1, 1) := by decide +kernel
theorem dX9_same_9 : decode cX9_same 9 = .ok (.invokevirtual 166, 3) := by decide +kernel
theorem dX9_same_12 : decode cX9_same 12 = .ok (.ifCond .eq 23, 3) := by decide +kernel
theorem dX9_same_15 : decode cX9_same 15 = .ok (.aload_n 0, 1) := by decide +kernel
theorem dX9_same_16 : decode cX9_same 16 = .ok (.getfield 36, 3) := by decide +kernel
theorem dX9_same_19 : decode cX9_same 19 = .ok (.bipush 8, 2) := by decide +kernel
theorem dX9_same_21 : decode cX9_same 21 = .ok (.iload_n 1, 1) := by decide +kernel
theorem dX9_same_22 : decode cX9_same 22 = .ok (.imul, 1) := by decide +kernel
theorem dX9_same_23 : decode cX9_same 23 = .ok (.aload_n 0, 1) := by decide +kernel
theorem dX9_same_24 : decode cX9_same 24 = .ok (.getfield 48, 3) := by decide +kernel
theorem dX9_same_27 : decode cX9_same 27 = .ok (.iload_n 1, 1) := by decide +kernel
theorem dX9_same_28 : decode cX9_same 28 = .ok (.iaload, 1) := by decide +kernel
theorem dX9_same_29 : decode cX9_same 29 = .ok (.iadd, 1) := by decide +kernel
theorem dX9_same_30 : decode cX9_same 30 = .ok (.iaload, 1) := by decide +kernel
theorem dX9_same_31 : decode cX9_same 31 = .ok (.iconst (-1), 1) := by decide +kernel
theorem dX9_same_32 : decode cX9_same 32 = .ok (.if_icmp .ne 5, 3) := by decide +kernel
theorem dX9_same_35 : decode cX9_same 35 = .ok (.iconst (-1), 1) := by decide +kernel
theorem dX9_same_36 : decode cX9_same 36 = .ok (.ireturn, 1) := by decide +kernel
theorem dX9_same_37 : decode cX9_same 37 = .ok (.aload_n 0, 1) := by decide +kernel
theorem dX9_same_38 : decode cX9_same 38 = .ok (.aload_n 0, 1) := by decide +kernel
theorem dX9_same_39 : decode cX9_same 39 = .ok (.getfield 36, 3) := by decide +kernel
theorem dX9_same_42 : decode cX9_same 42 = .ok (.bipush 8, 2) := by decide +kernel
theorem dX9_same_44 : decode cX9_same 44 = .ok (.iload_n 1, 1) := by decide +kernel
theorem dX9_same_45 : decode cX9_same 45 = .ok (.imul, 1) := by decide +kernel
theorem dX9_same_46 : decode cX9_same 46 = .ok (.aload_n 0, 1) := by decide +kernel
theorem dX9_same_47 : decode cX9_same 47 = .ok (.getfield 48, 3) := by decide +kernel
theorem dX9_same_50 : decode cX9_same 50 = .ok (.iload_n 1, 1) := by decide +kernel
theorem dX9_same_51 : decode cX9_same 51 = .ok (.iaload, 1) := by decide +kernel
theorem dX9_same_52 : decode cX9_same 52 = .ok (.iadd, 1) := by decide +kernel
theorem dX9_same_53 : decode cX9_same 53 = .ok (.iaload, 1) := by decide +kernel
theorem dX9_same_54 : decode cX9_same 54 = .ok (.aload_n 0, 1) := by decide +kernel
theorem dX9_same_55 : decode cX9_same 55 = .ok (.getfield 48, 3) := by decide +kernel
theorem dX9_same_58 : decode cX9_same 58 = .ok (.iload_n 1, 1) := by decide +kernel
theorem dX9_same_59 : decode cX9_same 59 = .ok (.iaload, 1) := by decide +kernel
theorem dX9_same_60 : decode cX9_same 60 = .ok (.invokevirtual 210, 3) := by decide +kernel
theorem dX9_same_63 : decode cX9_same 63 = .ok (.aload_n 0, 1) := by decide +kernel
theorem dX9_same_64 : decode cX9_same 64 = .ok (.getfield 200, 3) := by decide +kernel
theorem dX9_same_67 : decode cX9_same 67 = .ok (.aload_n 0, 1) := by decide +kernel
theorem dX9_same_68 : decode cX9_same 68 = .ok (.getfield 26, 3) := by decide +kernel
theorem dX9_same_71 : decode cX9_same 71 = .ok (.iload_n 1, 1) := by decide +kernel
theorem dX9_same_72 : decode cX9_same 72 = .ok (.iaload, 1) := by decide +kernel
theorem dX9_same_73 : decode cX9_same 73 = .ok (.if_icmp .ne 7, 3) := by decide +kernel
theorem dX9_same_76 : decode cX9_same 76 = .ok (.iconst 1, 1) := by decide +kernel
theorem dX9_same_77 : decode cX9_same 77 = .ok (.goto 4, 3) := by decide +kernel
theorem dX9_same_80 : decode cX9_same 80 = .ok (.iconst 0, 1) := by decide +kernel
theorem dX9_same_81 : decode cX9_same 81 = .ok (.istore_n 2, 1) := by decide +kernel
theorem dX9_same_82 : decode cX9_same 82 = .ok (.iconst 0, 1) := by decide +kernel
theorem dX9_same_83 : decode cX9_same 83 = .ok (.istore_n 3, 1) := by decide +kernel
theorem dX9_same_84 : decode cX9_same 84 = .ok (.iload_n 3, 1) := by decide +kernel
theorem dX9_same_85 : decode cX9_same 85 = .ok (.aload_n 0, 1) := by decide +kernel
theorem dX9_same_86 : decode cX9_same 86 = .ok (.getfield 200, 3) := by decide +kernel
theorem dX9_same_89 : decode cX9_same 89 = .ok (.if_icmp .ge 39, 3) := by decide +kernel
theorem dX9_same_92 : decode cX9_same 92 = .ok (.iload_n 2, 1) := by decide +kernel
theorem dX9_same_93 : decode cX9_same 93 = .ok (.ifCond .eq 35, 3) := by decide +kernel
theorem dX9_same_96 : decode cX9_same 96 = .ok (.aload_n 0, 1) := by decide +kernel
theorem dX9_same_97 : decode cX9_same 97 = .ok (.getfield 51, 3) := by decide +kernel
theorem dX9_same_100 : decode cX9_same 100 = .ok (.iload_n 3, 1) := by decide +kernel
theorem dX9_same_101 : decode cX9_same 101 = .ok (.baload, 1) := by decide +kernel
theorem dX9_same_102 : decode cX9_same 102 = .ok (.aload_n 0, 1) := by decide +kernel
theorem dX9_same_103 : decode cX9_same 103 = .ok (.getfield 16, 3) := by decide +kernel
theorem dX9_same_106 : decode cX9_same 106 = .ok (.bipush 24, 2) := by decide +kernel
theorem dX9_same_108 : decode cX9_same 108 = .ok (.iload_n 1, 1) := by decide +kernel
theorem dX9_same_109 : decode cX9_same 109 = .ok (.imul, 1) := by decide +kernel
theorem dX9_same_110 : decode cX9_same 110 = .ok (.iload_n 3, 1) := by decide +kernel
theorem dX9_same_111 : decode cX9_same 111 = .ok (.iadd, 1) := by decide +kernel
theorem dX9_same_112 : decode cX9_same 112 = .ok (.baload, 1) := by decide +kernel
theorem dX9_same_113 : decode cX9_same 113 = .ok (.if_icmp .ne 7, 3) := by decide +kernel
theorem dX9_same_116 : decode cX9_same 116 = .ok (.iconst 1, 1) := by decide +kernel
theorem dX9_same_117 : decode cX9_same 117 = .ok (.goto 4, 3) := by decide +kernel
theorem dX9_same_120 : decode cX9_same 120 = .ok (.iconst 0, 1) := by decide +kernel
theorem dX9_same_121 : decode cX9_same 121 = .ok (.istore_n 2, 1) := by decide +kernel
theorem dX9_same_122 : decode cX9_same 122 = .ok (.iinc 3 1, 3) := by decide +kernel
theorem dX9_same_125 : decode cX9_same 125 = .ok (.goto (-41), 3) := by decide +kernel
theorem dX9_same_128 : decode cX9_same 128 = .ok (.iload_n 2, 1) := by decide +kernel
theorem dX9_same_129 : decode cX9_same 129 = .ok (.ifCond .eq 7, 3) := by decide +kernel
theorem dX9_same_132 : decode cX9_same 132 = .ok (.iconst 1, 1) := by decide +kernel
theorem dX9_same_133 : decode cX9_same 133 = .ok (.goto 4, 3) := by decide +kernel
theorem dX9_same_136 : decode cX9_same 136 = .ok (.iconst 0, 1) := by decide +kernel
theorem dX9_same_137 : decode cX9_same 137 = .ok (.ireturn, 1) := by decide +kernel
theorem dX9_count_0 : decode cX9_count 0 = .ok (.aload_n 0, 1) := by decide +kernel
theorem dX9_count_1 : decode cX9_count 1 = .ok (.iconst 0, 1) := by decide +kernel
theorem dX9_count_2 : decode cX9_count 2 = .ok (.putfield 54, 3) := by decide +kernel
theorem dX9_count_5 : decode cX9_count 5 = .ok (.iload_n 1, 1) := by decide +kernel
theorem dX9_count_6 : decode cX9_count 6 = .ok (.tableswitch 50 0 3 #[30, 35, 40, 45], 30) := by decide +kernel
theorem dX9_count_36 : decode cX9_count 36 = .ok (.aload_n 0, 1) := by decide +kernel
theorem dX9_count_37 : decode cX9_count 37 = .ok (.getfield 103, 3) := by decide +kernel
theorem dX9_count_40 : decode cX9_count 40 = .ok (.ireturn, 1) := by decide +kernel
theorem dX9_count_41 : decode cX9_count 41 = .ok (.aload_n 0, 1) := by decide +kernel
theorem dX9_count_42 : decode cX9_count 42 = .ok (.getfield 113, 3) := by decide +kernel
theorem dX9_count_45 : decode cX9_count 45 = .ok (.ireturn, 1) := by decide +kernel
theorem dX9_count_46 : decode cX9_count 46 = .ok (.aload_n 0, 1) := by decide +kernel
theorem dX9_count_47 : decode cX9_count 47 = .ok (.getfield 93, 3) := by decide +kernel
theorem dX9_count_50 : decode cX9_count 50 = .ok (.ireturn, 1) := by decide +kernel
theorem dX9_count_51 : decode cX9_count 51 = .ok (.aload_n 0, 1) := by decide +kernel
theorem dX9_count_52 : decode cX9_count 52 = .ok (.getfield 32, 3) := by decide +kernel
theorem dX9_count_55 : decode cX9_count 55 = .ok (.ireturn, 1) := by decide +kernel
theorem dX9_count_56 : decode cX9_count 56 = .ok (.iconst (-1), 1) := by decide +kernel
theorem dX9_count_57 : decode cX9_count 57 = .ok (.ireturn, 1) := by decide +kernel
theorem dJ9_floorMod_7cf53_0 : decode cJ9_floorMod_7cf53 0 = .ok (.iload_n 0, 1) := by decide +kernel
theorem dJ9_floorMod_7cf53_1 : decode cJ9_floorMod_7cf53 1 = .ok (.iload_n 1, 1) := by decide +kernel
theorem dJ9_floorMod_7cf53_2 : decode cJ9_floorMod_7cf53 2 = .ok (.irem, 1) := by decide +kernel
theorem dJ9_floorMod_7cf53_3 : decode cJ9_floorMod_7cf53 3 = .ok (.istore_n 2, 1) := by decide +kernel
theorem dJ9_floorMod_7cf53_4 : decode cJ9_floorMod_7cf53 4 = .ok (.iload_n 0, 1) := by decide +kernel
theorem dJ9_floorMod_7cf53_5 : decode cJ9_floorMod_7cf53 5 = .ok (.iload_n 1, 1) := by decide +kernel
theorem dJ9_floorMod_7cf53_6 : decode cJ9_floorMod_7cf53 6 = .ok (.ixor, 1) := by decide +kernel
theorem dJ9_floorMod_7cf53_7 : decode cJ9_floorMod_7cf53 7 = .ok (.ifCond .ge 11, 3) := by decide +kernel
theorem dJ9_floorMod_7cf53_10 : decode cJ9_floorMod_7cf53 10 = .ok (.iload_n 2, 1) := by decide +kernel
theorem dJ9_floorMod_7cf53_11 : decode cJ9_floorMod_7cf53 11 = .ok (.ifCond .eq 7, 3) := by decide +kernel
theorem dJ9_floorMod_7cf53_14 : decode cJ9_floorMod_7cf53 14 = .ok (.iload_n 2, 1) := by decide +kernel
theorem dJ9_floorMod_7cf53_15 : decode cJ9_floorMod_7cf53 15 = .ok (.iload_n 1, 1) := by decide +kernel
theorem dJ9_floorMod_7cf53_16 : decode cJ9_floorMod_7cf53 16 = .ok (.iadd, 1) := by decide +kernel
theorem dJ9_floorMod_7cf53_17 : decode cJ9_floorMod_7cf53 17 = .ok (.ireturn, 1) := by decide +kernel
theorem dJ9_floorMod_7cf53_18 : decode cJ9_floorMod_7cf53 18 = .ok (.iload_n 2, 1) := by decide +kernel
theorem dJ9_floorMod_7cf53_19 : decode cJ9_floorMod_7cf53 19 = .ok (.ireturn, 1) := by decide +kernel
theorem dJ9_max_7cf53_0 : decode cJ9_max_7cf53 0 = .ok (.iload_n 0, 1) := by decide +kernel
theorem dJ9_max_7cf53_1 : decode cJ9_max_7cf53 1 = .ok (.iload_n 1, 1) := by decide +kernel
theorem dJ9_max_7cf53_2 : decode cJ9_max_7cf53 2 = .ok (.if_icmp .lt 7, 3) := by decide +kernel
theorem dJ9_max_7cf53_5 : decode cJ9_max_7cf53 5 = .ok (.iload_n 0, 1) := by decide +kernel
theorem dJ9_max_7cf53_6 : decode cJ9_max_7cf53 6 = .ok (.goto 4, 3) := by decide +kernel
theorem dJ9_max_7cf53_9 : decode cJ9_max_7cf53 9 = .ok (.iload_n 1, 1) := by decide +kernel
theorem dJ9_max_7cf53_10 : decode cJ9_max_7cf53 10 = .ok (.ireturn, 1) := by decide +kernel
theorem dJ9_min_7cf53_0 : decode cJ9_min_7cf53 0 = .ok (.iload_n 0, 1) := by decide +kernel
theorem dJ9_min_7cf53_1 : decode cJ9_min_7cf53 1 = .ok (.iload_n 1, 1) := by decide +kernel
theorem dJ9_min_7cf53_2 : decode cJ9_min_7cf53 2 = .ok (.if_icmp .gt 7, 3) := by decide +kernel
theorem dJ9_min_7cf53_5 : decode cJ9_min_7cf53 5 = .ok (.iload_n 0, 1) := by decide +kernel
theorem dJ9_min_7cf53_6 : decode cJ9_min_7cf53 6 = .ok (.goto 4, 3) := by decide +kernel
theorem dJ9_min_7cf53_9 : decode cJ9_min_7cf53 9 = .ok (.iload_n 1, 1) := by decide +kernel
theorem dJ9_min_7cf53_10 : decode cJ9_min_7cf53 10 = .ok (.ireturn, 1) := by decide +kernel
set_option maxRecDepth 20000 in
theorem ggJ0_length_8abf5_J0_coder_7d493 : GoodIn wsJ0_length_8abf5 wsJ0_coder_7d493 := goodIn_r _ [6, 7, 8] rfl (by decide +kernel)
set_option maxRecDepth 20000 in
theorem gJ0_length_8abf5_J0_coder_7d493 : GoodIn wsJ0_length_8abf5 (wsV RJ0 335 RJ0 yJ0_coder_7d493 wsJ0_coder_7d493) := goodIn_app (goodIn_of _ (by decide +kernel)) ggJ0_length_8abf5_J0_coder_7d493
theorem dJ0_length_8abf5_0 : decode cJ0_length_8abf5 0 = .ok (.aload_n 0, 1) := by decide +kernel
theorem dJ0_length_8abf5_1 : decode cJ0_length_8abf5 1 = .ok (.getfield 9, 3) := by decide +kernel
theorem dJ0_length_8abf5_4 : decode cJ0_length_8abf5 4 = .ok (.arraylength, 1) := by decide +kernel
theorem dJ0_length_8abf5_5 : decode cJ0_length_8abf5 5 = .ok (.aload_n 0, 1) := by decide +kernel
theorem dJ0_length_8abf5_6 : decode cJ0_length_8abf5 6 = .ok (.invokevirtual 335, 3) := by decide +kernel
theorem dJ0_length_8abf5_9 : decode cJ0_length_8abf5 9 = .ok (.ishr, 1) := by decide +kernel
theorem dJ0_length_8abf5_10 : decode cJ0_length_8abf5 10 = .ok (.ireturn, 1) := by decide +kernel
set_option maxRecDepth 20000 in
theorem ggJ0_charAt_5068e_J0_isLatin1_aae02 : GoodIn wsJ0_charAt_5068e wsJ0_isLatin1_aae02 := goodIn_r _ [6, 7, 8] rfl (by decide +kernel)
set_option maxRecDepth 20000 in
theorem gJ0_charAt_5068e_J0_isLatin1_aae02 : GoodIn wsJ0_charAt_5068e (wsV RJ0 492 RJ0 yJ0_isLatin1_aae02 wsJ0_isLatin1_aae02) := goodIn_app (goodIn_of _ (by decide +kernel)) ggJ0_charAt_5068e_J0_isLatin1_aae02
set_option maxRecDepth 20000 in
theorem ggJ0_charAt_5068e_J1_charAt_3b067 : GoodIn wsJ0_charAt_5068e wsJ1_charAt_3b067 := goodIn_r _ [12, 13, 14, 5, 15, 16, 17, 18, 19, 20] rfl (by decide +kernel)
set_option maxRecDepth 20000 in
theorem gJ0_charAt_5068e_J1_charAt_3b067 : GoodIn wsJ0_charAt_5068e (va_wsS RJ0 495 yJ1_charAt_3b067 wsJ1_charAt_3b067) := goodIn_app (goodIn_of _ (by decide +kernel)) ggJ0_charAt_5068e_J1_charAt_3b067
set_option maxRecDepth 20000 in
theorem ggJ0_charAt_5068e_J2_charAt_3b067 : GoodIn wsJ0_charAt_5068e wsJ2_charAt_3b067 := goodIn_r _ [24, 25, 26, 23, 27, 28, 29, 30, 31, 14, 5, 15, 16, 17, 18, 19, 20, 32, 33, 34, 35, 36, 37] rfl (by decide +kernel)
set_option maxRecDepth 20000 in
theorem gJ0_charAt_5068e_J2_charAt_3b067 : GoodIn wsJ0_charAt_5068e (va_wsS RJ0 498 yJ2_charAt_3b067 wsJ2_charAt_3b067) := goodIn_app (goodIn_of _ (by decide +kernel)) ggJ0_charAt_5068e_J2_charAt_3b067
theorem dJ0_charAt_5068e_0 : decode cJ0_charAt_5068e 0 = .ok (.aload_n 0, 1) := by decide +kernel
theorem dJ0_charAt_5068e_1 : decode cJ0_charAt_5068e 1 = .ok (.invokevirtual 492, 3) := by decide +kernel
theorem dJ0_charAt_5068e_4 : decode cJ0_charAt_5068e 4 = .ok (.ifCond .eq 12, 3) := by decide +kernel
theorem dJ0_charAt_5068e_7 : decode cJ0_charAt_5068e 7 = .ok (.aload_n 0, 1) := by decide +kernel
theorem dJ0_charAt_5068e_8 : decode cJ0_charAt_5068e 8 = .ok (.getfield 9, 3) := by decide +kernel
theorem dJ0_charAt_5068e_11 : decode cJ0_charAt_5068e 11 = .ok (.iload_n 1, 1) := by decide +kernel
theorem dJ0_charAt_5068e_12 : decode cJ0_charAt_5068e 12 = .ok (.invokestatic 495, 3) := by decide +kernel
theorem dJ0_charAt_5068e_15 : decode cJ0_charAt_5068e 15 = .ok (.ireturn, 1) := by decide +kernel
theorem dJ0_charAt_5068e_16 : decode cJ0_charAt_5068e 16 = .ok (.aload_n 0, 1) := by decide +kernel
theorem dJ0_charAt_5068e_17 : decode cJ0_charAt_5068e 17 = .ok (.getfield 9, 3) := by decide +kernel
theorem dJ0_charAt_5068e_20 : decode cJ0_charAt_5068e 20 = .ok (.iload_n 1, 1) := by decide +kernel
theorem dJ0_charAt_5068e_21 : decode cJ0_charAt_5068e 21 = .ok (.invokestatic 498, 3) := by decide +kernel
theorem dJ0_charAt_5068e_24 : decode cJ0_charAt_5068e 24 = .ok (.ireturn, 1) := by decide +kernel
theorem dJ0_coder_7d493_0 : decode cJ0_coder_7d493 0 = .ok (.getstatic 38, 3) := by decide +kernel
theorem dJ0_coder_7d493_3 : decode cJ0_coder_7d493 3 = .ok (.ifCond .eq 10, 3) := by decide +kernel
theorem dJ0_coder_7d493_6 : decode cJ0_coder_7d493 6 = .ok (.aload_n 0, 1) := by decide +kernel
theorem dJ0_coder_7d493_7 : decode cJ0_coder_7d493 7 = .ok (.getfield 15, 3) := by decide +kernel
theorem dJ0_coder_7d493_10 : decode cJ0_coder_7d493 10 = .ok (.goto 4, 3) := by decide +kernel
theorem dJ0_coder_7d493_13 : decode cJ0_coder_7d493 13 = .ok (.iconst 1, 1) := by decide +kernel
theorem dJ0_coder_7d493_14 : decode cJ0_coder_7d493 14 = .ok (.ireturn, 1) := by decide +kernel
theorem dJ0_isLatin1_aae02_0 : decode cJ0_isLatin1_aae02 0 = .ok (.getstatic 38, 3) := by decide +kernel
theorem dJ0_isLatin1_aae02_3 : decode cJ0_isLatin1_aae02 3 = .ok (.ifCond .eq 14, 3) := by decide +kernel
theorem dJ0_isLatin1_aae02_6 : decode cJ0_isLatin1_aae02 6 = .ok (.aload_n 0, 1) := by decide +kernel
theorem dJ0_isLatin1_aae02_7 : decode cJ0_isLatin1_aae02 7 = .ok (.getfield 15, 3) := by decide +kernel
theorem dJ0_isLatin1_aae02_10 : decode cJ0_isLatin1_aae02 10 = .ok (.ifCond .ne 7, 3) := by decide +kernel
theorem dJ0_isLatin1_aae02_13 : decode cJ0_isLatin1_aae02 13 = .ok (.iconst 1, 1) := by decide +kernel
theorem dJ0_isLatin1_aae02_14 : decode cJ0_isLatin1_aae02 14 = .ok (.goto 4, 3) := by decide +kernel
theorem dJ0_isLatin1_aae02_17 : decode cJ0_isLatin1_aae02 17 = .ok (.iconst 0, 1) := by decide +kernel
theorem dJ0_isLatin1_aae02_18 : decode cJ0_isLatin1_aae02 18 = .ok (.ireturn, 1) := by decide +kernel
set_option maxRecDepth 20000 in
theorem ggJ0_checkIndex_df160_J3_checkIndex_8e157 : GoodIn wsJ0_checkIndex_df160 wsJ3_checkIndex_8e157 := goodIn_r _ [5] rfl (by decide +kernel)
set_option maxRecDepth 20000 in
theorem gJ0_checkIndex_df160_J3_checkIndex_8e157 : GoodIn wsJ0_checkIndex_df160 (va_wsS RJ0 1059 yJ3_checkIndex_8e157 wsJ3_checkIndex_8e157) := goodIn_app (goodIn_of _ (by decide +kernel)) ggJ0_checkIndex_df160_J3_checkIndex_8e157
theorem dJ0_checkIndex_df160_0 : decode cJ0_checkIndex_df160 0 = .ok (.iload_n 0, 1) := by decide +kernel
theorem dJ0_checkIndex_df160_1 : decode cJ0_checkIndex_df160 1 = .ok (.iload_n 1, 1) := by decide +kernel
theorem dJ0_checkIndex_df160_2 : decode cJ0_checkIndex_df160 2 = .ok (.getstatic 1053, 3) := by decide +kernel
theorem dJ0_checkIndex_df160_5 : decode cJ0_checkIndex_df160 5 = .ok (.invokestatic 1059, 3) := by decide +kernel
theorem dJ0_checkIndex_df160_8 : decode cJ0_checkIndex_df160 8 = .ok (.pop, 1) := by decide +kernel
theorem dJ0_checkIndex_df160_9 : decode cJ0_checkIndex_df160 9 = .ok (.return_, 1) := by decide +kernel
set_option maxRecDepth 20000 in
theorem ggJ1_charAt_3b067_J0_checkIndex_df160 : GoodIn wsJ1_charAt_3b067 wsJ0_checkIndex_df160 := goodIn_r _ [4, 5, 6, 7, 8, 9] rfl (by decide +kernel)
set_option maxRecDepth 20000 in
theorem gJ1_charAt_3b067_J0_checkIndex_df160 : GoodIn wsJ1_charAt_3b067 (va_wsS RJ1 9 yJ0_checkIndex_df160 wsJ0_checkIndex_df160) := goodIn_app (goodIn_of _ (by decide +kernel)) ggJ1_charAt_3b067_J0_checkIndex_df160
theorem dJ1_charAt_3b067_0 : decode cJ1_charAt_3b067 0 = .ok (.iload_n 1, 1) := by decide +kernel
theorem dJ1_charAt_3b067_1 : decode cJ1_charAt_3b067 1 = .ok (.aload_n 0, 1) := by decide +kernel
theorem dJ1_charAt_3b067_2 : decode cJ1_charAt_3b067 2 = .ok (.arraylength, 1) := by decide +kernel
theorem dJ1_charAt_3b067_3 : decode cJ1_charAt_3b067 3 = .ok (.invokestatic 9, 3) := by decide +kernel
theorem dJ1_charAt_3b067_6 : decode cJ1_charAt_3b067 6 = .ok (.aload_n 0, 1) := by decide +kernel
theorem dJ1_charAt_3b067_7 : decode cJ1_charAt_3b067 7 = .ok (.iload_n 1, 1) := by decide +kernel
theorem dJ1_charAt_3b067_8 : decode cJ1_charAt_3b067 8 = .ok (.baload, 1) := by decide +kernel
theorem dJ1_charAt_3b067_9 : decode cJ1_charAt_3b067 9 = .ok (.sipush 255, 3) := by decide +kernel
theorem dJ1_charAt_3b067_12 : decode cJ1_charAt_3b067 12 = .ok (.iand, 1) := by decide +kernel
theorem dJ1_charAt_3b067_13 : decode cJ1_charAt_3b067 13 = .ok (.i2c, 1) := by decide +kernel
theorem dJ1_charAt_3b067_14 : decode cJ1_charAt_3b067 14 = .ok (.ireturn, 1) := by decide +kernel
set_option maxRecDepth 20000 in
theorem ggJ2_getChar_3b067_J2_length_9d52b : GoodIn wsJ2_getChar_3b067 wsJ2_length_9d52b := goodIn_r _ [7] rfl (by decide +kernel)
set_option maxRecDepth 20000 in
theorem gJ2_getChar_3b067_J2_length_9d52b : GoodIn wsJ2_getChar_3b067 (va_wsS RJ2 48 yJ2_length_9d52b wsJ2_length_9d52b) := goodIn_app (goodIn_of _ (by decide +kernel)) ggJ2_getChar_3b067_J2_length_9d52b
theorem dJ2_getChar_3b067_0 : decode cJ2_getChar_3b067 0 = .ok (.getstatic 44, 3) := by decide +kernel
theorem dJ2_getChar_3b067_3 : decode cJ2_getChar_3b067 3 = .ok (.ifCond .ne 25, 3) := by decide +kernel
theorem dJ2_getChar_3b067_6 : decode cJ2_getChar_3b067 6 = .ok (.iload_n 1, 1) := by decide +kernel
theorem dJ2_getChar_3b067_7 : decode cJ2_getChar_3b067 7 = .ok (.ifCond .lt 11, 3) := by decide +kernel
theorem dJ2_getChar_3b067_10 : decode cJ2_getChar_3b067 10 = .ok (.iload_n 1, 1) := by decide +kernel
theorem dJ2_getChar_3b067_11 : decode cJ2_getChar_3b067 11 = .ok (.aload_n 0, 1) := by decide +kernel
theorem dJ2_getChar_3b067_12 : decode cJ2_getChar_3b067 12 = .ok (.invokestatic 48, 3) := by decide +kernel
theorem dJ2_getChar_3b067_15 : decode cJ2_getChar_3b067 15 = .ok (.if_icmp .lt 13, 3) := by decide +kernel
theorem dJ2_getChar_3b067_18 : decode cJ2_getChar_3b067 18 = .ok (.new 52, 3) := by decide +kernel
theorem dJ2_getChar_3b067_21 : decode cJ2_getChar_3b067 21 = .ok (.dup, 1) := by decide +kernel
theorem dJ2_getChar_3b067_22 : decode cJ2_getChar_3b067 22 = .ok (.ldc 54, 2) := by decide +kernel
theorem dJ2_getChar_3b067_24 : decode cJ2_getChar_3b067 24 = .ok (.invokespecial 56, 3) := by decide +kernel
theorem dJ2_getChar_3b067_27 : decode cJ2_getChar_3b067 27 = .ok (.athrow, 1) := by decide +kernel
theorem dJ2_getChar_3b067_28 : decode cJ2_getChar_3b067 28 = .ok (.iload_n 1, 1) := by decide +kernel
theorem dJ2_getChar_3b067_29 : decode cJ2_getChar_3b067 29 = .ok (.iconst 1, 1) := by decide +kernel
theorem dJ2_getChar_3b067_30 : decode cJ2_getChar_3b067 30 = .ok (.ishl, 1) := by decide +kernel
theorem dJ2_getChar_3b067_31 : decode cJ2_getChar_3b067 31 = .ok (.istore_n 1, 1) := by decide +kernel
theorem dJ2_getChar_3b067_32 : decode cJ2_getChar_3b067 32 = .ok (.aload_n 0, 1) := by decide +kernel
theorem dJ2_getChar_3b067_33 : decode cJ2_getChar_3b067 33 = .ok (.iload_n 1, 1) := by decide +kernel
theorem dJ2_getChar_3b067_34 : decode cJ2_getChar_3b067 34 = .ok (.iinc 1 1, 3) := by decide +kernel
theorem dJ2_getChar_3b067_37 : decode cJ2_getChar_3b067 37 = .ok (.baload, 1) := by decide +kernel
theorem dJ2_getChar_3b067_38 : decode cJ2_getChar_3b067 38 = .ok (.sipush 255, 3) := by decide +kernel
theorem dJ2_getChar_3b067_41 : decode cJ2_getChar_3b067 41 = .ok (.iand, 1) := by decide +kernel
theorem dJ2_getChar_3b067_42 : decode cJ2_getChar_3b067 42 = .ok (.getstatic 59, 3) := by decide +kernel
theorem dJ2_getChar_3b067_45 : decode cJ2_getChar_3b067 45 = .ok (.ishl, 1) := by decide +kernel
theorem dJ2_getChar_3b067_46 : decode cJ2_getChar_3b067 46 = .ok (.aload_n 0, 1) := by decide +kernel
theorem dJ2_getChar_3b067_47 : decode cJ2_getChar_3b067 47 = .ok (.iload_n 1, 1) := by decide +kernel
theorem dJ2_getChar_3b067_48 : decode cJ2_getChar_3b067 48 = .ok (.baload, 1) := by decide +kernel
theorem dJ2_getChar_3b067_49 : decode cJ2_getChar_3b067 49 = .ok (.sipush 255, 3) := by decide +kernel
theorem dJ2_getChar_3b067_52 : decode cJ2_getChar_3b067 52 = .ok (.iand, 1) := by decide +kernel
theorem dJ2_getChar_3b067_53 : decode cJ2_getChar_3b067 53 = .ok (.getstatic 63, 3) := by decide +kernel
theorem dJ2_getChar_3b067_56 : decode cJ2_getChar_3b067 56 = .ok (.ishl, 1) := by decide +kernel
theorem dJ2_getChar_3b067_57 : decode cJ2_getChar_3b067 57 = .ok (.ior, 1) := by decide +kernel
theorem dJ2_getChar_3b067_58 : decode cJ2_getChar_3b067 58 = .ok (.i2c, 1) := by decide +kernel
theorem dJ2_getChar_3b067_59 : decode cJ2_getChar_3b067 59 = .ok (.ireturn, 1) := by decide +kernel
theorem dJ2_length_9d52b_0 : decode cJ2_length_9d52b 0 = .ok (.aload_n 0, 1) := by decide +kernel
theorem dJ2_length_9d52b_1 : decode cJ2_length_9d52b 1 = .ok (.arraylength, 1) := by decide +kernel
theorem dJ2_length_9d52b_2 : decode cJ2_length_9d52b 2 = .ok (.iconst 1, 1) := by decide +kernel
theorem dJ2_length_9d52b_3 : decode cJ2_length_9d52b 3 = .ok (.ishr, 1) := by decide +kernel
theorem dJ2_length_9d52b_4 : decode cJ2_length_9d52b 4 = .ok (.ireturn, 1) := by decide +kernel
set_option maxRecDepth 20000 in
theorem ggJ2_charAt_3b067_J2_checkIndex_2214a : GoodIn wsJ2_charAt_3b067 wsJ2_checkIndex_2214a := goodIn_r _ [4, 5, 6, 3, 7, 8, 9, 10, 11, 12, 13, 14, 15, 16] rfl (by decide +kernel)
set_option maxRecDepth 20000 in
theorem gJ2_charAt_3b067_J2_checkIndex_2214a : GoodIn wsJ2_charAt_3b067 (va_wsS RJ2 67 yJ2_checkIndex_2214a wsJ2_checkIndex_2214a) := goodIn_app (goodIn_of _ (by decide +kernel)) ggJ2_charAt_3b067_J2_checkIndex_2214a
set_option maxRecDepth 20000 in
theorem ggJ2_charAt_3b067_J2_getChar_3b067 : GoodIn wsJ2_charAt_3b067 wsJ2_getChar_3b067 := goodIn_r _ [19, 20, 21, 22, 5, 6, 3, 7] rfl (by decide +kernel)
set_option maxRecDepth 20000 in
theorem gJ2_charAt_3b067_J2_getChar_3b067 : GoodIn wsJ2_charAt_3b067 (va_wsS RJ2 71 yJ2_getChar_3b067 wsJ2_getChar_3b067) := goodIn_app (goodIn_of _ (by decide +kernel)) ggJ2_charAt_3b067_J2_getChar_3b067
theorem dJ2_charAt_3b067_0 : decode cJ2_charAt_3b067 0 = .ok (.iload_n 1, 1) := by decide +kernel
theorem dJ2_charAt_3b067_1 : decode cJ2_charAt_3b067 1 = .ok (.aload_n 0, 1) := by decide +kernel
theorem dJ2_charAt_3b067_2 : decode cJ2_charAt_3b067 2 = .ok (.invokestatic 67, 3) := by decide +kernel
theorem dJ2_charAt_3b067_5 : decode cJ2_charAt_3b067 5 = .ok (.aload_n 0, 1) := by decide +kernel
theorem dJ2_charAt_3b067_6 : decode cJ2_charAt_3b067 6 = .ok (.iload_n 1, 1) := by decide +kernel
theorem dJ2_charAt_3b067_7 : decode cJ2_charAt_3b067 7 = .ok (.invokestatic 71, 3) := by decide +kernel
theorem dJ2_charAt_3b067_10 : decode cJ2_charAt_3b067 10 = .ok (.ireturn, 1) := by decide +kernel
set_option maxRecDepth 20000 in
theorem ggJ2_checkIndex_2214a_J2_length_9d52b : GoodIn wsJ2_checkIndex_2214a wsJ2_length_9d52b := goodIn_r _ [4] rfl (by decide +kernel)
set_option maxRecDepth 20000 in
theorem gJ2_checkIndex_2214a_J2_length_9d52b : GoodIn wsJ2_checkIndex_2214a (va_wsS RJ2 48 yJ2_length_9d52b wsJ2_length_9d52b) := goodIn_app (goodIn_of _ (by decide +kernel)) ggJ2_checkIndex_2214a_J2_length_9d52b
set_option maxRecDepth 20000 in
theorem ggJ2_checkIndex_2214a_J0_checkIndex_df160 : GoodIn wsJ2_checkIndex_2214a wsJ0_checkIndex_df160 := goodIn_r _ [8, 9, 10, 11, 12, 13] rfl (by decide +kernel)
set_option maxRecDepth 20000 in
theorem gJ2_checkIndex_2214a_J0_checkIndex_df160 : GoodIn wsJ2_checkIndex_2214a (va_wsS RJ2 414 yJ0_checkIndex_df160 wsJ0_checkIndex_df160) := goodIn_app (goodIn_of _ (by decide +kernel)) ggJ2_checkIndex_2214a_J0_checkIndex_df160
theorem dJ2_checkIndex_2214a_0 : decode cJ2_checkIndex_2214a 0 = .ok (.iload_n 0, 1) := by decide +kernel
theorem dJ2_checkIndex_2214a_1 : decode cJ2_checkIndex_2214a 1 = .ok (.aload_n 1, 1) := by decide +kernel
theorem dJ2_checkIndex_2214a_2 : decode cJ2_checkIndex_2214a 2 = .ok (.invokestatic 48, 3) := by decide +kernel
theorem dJ2_checkIndex_2214a_5 : decode cJ2_checkIndex_2214a 5 = .ok (.invokestatic 414, 3) := by decide +kernel
theorem dJ2_checkIndex_2214a_8 : decode cJ2_checkIndex_2214a 8 = .ok (.return_, 1) := by decide +kernel
theorem dJ3_checkIndex_8e157_0 : decode cJ3_checkIndex_8e157 0 = .ok (.iload_n 0, 1) := by decide +kernel
theorem dJ3_checkIndex_8e157_1 : decode cJ3_checkIndex_8e157 1 = .ok (.ifCond .lt 8, 3) := by decide +kernel
theorem dJ3_checkIndex_8e157_4 : decode cJ3_checkIndex_8e157 4 = .ok (.iload_n 0, 1) := by decide +kernel
theorem dJ3_checkIndex_8e157_5 : decode cJ3_checkIndex_8e157 5 = .ok (.iload_n 1, 1) := by decide +kernel
theorem dJ3_checkIndex_8e157_6 : decode cJ3_checkIndex_8e157 6 = .ok (.if_icmp .lt 10, 3) := by decide +kernel
theorem dJ3_checkIndex_8e157_9 : decode cJ3_checkIndex_8e157 9 = .ok (.aload_n 2, 1) := by decide +kernel
theorem dJ3_checkIndex_8e157_10 : decode cJ3_checkIndex_8e157 10 = .ok (.iload_n 0, 1) := by decide +kernel
theorem dJ3_checkIndex_8e157_11 : decode cJ3_checkIndex_8e157 11 = .ok (.iload_n 1, 1) := by decide +kernel
theorem dJ3_checkIndex_8e157_12 : decode cJ3_checkIndex_8e157 12 = .ok (.invokestatic 95, 3) := by decide +kernel
theorem dJ3_checkIndex_8e157_15 : decode cJ3_checkIndex_8e157 15 = .ok (.athrow, 1) := by decide +kernel
theorem dJ3_checkIndex_8e157_16 : decode cJ3_checkIndex_8e157 16 = .ok (.iload_n 0, 1) := by decide +kernel
theorem dJ3_checkIndex_8e157_17 : decode cJ3_checkIndex_8e157 17 = .ok (.ireturn, 1) := by decide +kernel
