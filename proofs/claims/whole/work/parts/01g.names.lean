theorem dX9_kindOf_53 : decode cX9_kindOf 53 = .ok (.aload_n 0, 1) := by decide +kernel
theorem dX9_kindOf_54 : decode cX9_kindOf 54 = .ok (.iload_n 1, 1) := by decide +kernel
theorem dX9_kindOf_55 : decode cX9_kindOf 55 = .ok (.iload_n 3, 1) := by decide +kernel
theorem dX9_kindOf_56 : decode cX9_kindOf 56 = .ok (.aload_n 0, 1) := by decide +kernel
theorem dX9_kindOf_57 : decode cX9_kindOf 57 = .ok (.getfield 48, 3) := by decide +kernel
theorem dX9_kindOf_60 : decode cX9_kindOf 60 = .ok (.iload_n 1, 1) := by decide +kernel
theorem dX9_kindOf_61 : decode cX9_kindOf 61 = .ok (.iaload, 1) := by decide +kernel
theorem dX9_kindOf_62 : decode cX9_kindOf 62 = .ok (.invokevirtual 172, 3) := by decide +kernel
theorem dX9_kindOf_65 : decode cX9_kindOf 65 = .ok (.ifCond .eq 7, 3) := by decide +kernel
theorem dX9_kindOf_68 : decode cX9_kindOf 68 = .ok (.iconst 1, 1) := by decide +kernel
theorem dX9_kindOf_69 : decode cX9_kindOf 69 = .ok (.goto 4, 3) := by decide +kernel
theorem dX9_kindOf_72 : decode cX9_kindOf 72 = .ok (.iconst 0, 1) := by decide +kernel
theorem dX9_kindOf_73 : decode cX9_kindOf 73 = .ok (.istore_n 2, 1) := by decide +kernel
theorem dX9_kindOf_74 : decode cX9_kindOf 74 = .ok (.iinc 3 1, 3) := by decide +kernel
theorem dX9_kindOf_77 : decode cX9_kindOf 77 = .ok (.goto (-51), 3) := by decide +kernel
theorem dX9_kindOf_80 : decode cX9_kindOf 80 = .ok (.iload_n 2, 1) := by decide +kernel
theorem dX9_kindOf_81 : decode cX9_kindOf 81 = .ok (.ifCond .eq 5, 3) := by decide +kernel
theorem dX9_kindOf_84 : decode cX9_kindOf 84 = .ok (.iconst 0, 1) := by decide +kernel
theorem dX9_kindOf_85 : decode cX9_kindOf 85 = .ok (.ireturn, 1) := by decide +kernel
theorem dX9_kindOf_86 : decode cX9_kindOf 86 = .ok (.aload_n 0, 1) := by decide +kernel
theorem dX9_kindOf_87 : decode cX9_kindOf 87 = .ok (.iload_n 1, 1) := by decide +kernel
theorem dX9_kindOf_88 : decode cX9_kindOf 88 = .ok (.invokevirtual 194, 3) := by decide +kernel
theorem dX9_kindOf_91 : decode cX9_kindOf 91 = .ok (.aload_n 0, 1) := by decide +kernel
theorem dX9_kindOf_92 : decode cX9_kindOf 92 = .ok (.getfield 185, 3) := by decide +kernel
theorem dX9_kindOf_95 : decode cX9_kindOf 95 = .ok (.if_icmp .ne 7, 3) := by decide +kernel
theorem dX9_kindOf_98 : decode cX9_kindOf 98 = .ok (.iconst 2, 1) := by decide +kernel
theorem dX9_kindOf_99 : decode cX9_kindOf 99 = .ok (.goto 4, 3) := by decide +kernel
theorem dX9_kindOf_102 : decode cX9_kindOf 102 = .ok (.iconst 1, 1) := by decide +kernel
theorem dX9_kindOf_103 : decode cX9_kindOf 103 = .ok (.ireturn, 1) := by decide +kernel
set_option maxRecDepth 20000 in
theorem ggX9_kind_X9_finds : GoodIn wsX9_kind wsX9_finds := goodIn_r _ [5, 6, 7, 8, 9, 10, 11, 12, 13, 14, 15, 16, 17, 18, 19, 20, 21, 4, 22, 23, 24, 25, 26, 27, 28, 29, 30, 31, 32, 33, 34, 35, 36, 37, 38, 39, 40, 41, 42, 43, 44, 45, 46, 47, 48, 49, 50, 51, 52, 53, 54, 55, 56, 57, 58, 59, 60, 61, 62, 63, 64, 65, 66, 67, 68, 69, 70, 71, 72, 73, 74, 75, 76, 77, 78, 79, 80, 81, 82, 83, 84, 85, 86, 87, 88, 89, 90, 91, 92, 93, 94, 95, 96, 97, 98, 99, 100, 101, 102, 103, 104, 105, 106, 107, 108, 109, 110, 111, 112, 113, 114, 115, 116, 117, 118, 119, 120, 121, 122, 123, 124, 125, 126, 127, 128, 129, 130, 131, 132, 133, 154, 155, 156, 157, 158, 159, 160, 161, 162, 163, 164, 165, 166, 167, 168, 169, 170, 171, 172, 173, 174, 175, 176, 177, 178, 179, 180] (by decide +kernel) (by decide +kernel)
set_option maxRecDepth 20000 in
theorem gX9_kind_X9_finds : GoodIn wsX9_kind (wsV RX9 188 RX9 yX9_finds wsX9_finds) := goodIn_app (goodIn_of _ (by decide +kernel)) ggX9_kind_X9_finds
set_option maxRecDepth 20000 in
theorem ggX9_kind_X9_isRow : GoodIn wsX9_kind wsX9_isRow := goodIn_r _ [137, 8, 154, 155, 156, 157, 158, 159, 160, 161, 162, 163, 164, 165, 166, 167, 168, 169, 170, 171, 172, 173, 174, 175, 176, 177, 178, 179, 180] (by decide +kernel) (by decide +kernel)
set_option maxRecDepth 20000 in
theorem gX9_kind_X9_isRow : GoodIn wsX9_kind (wsV RX9 166 RX9 yX9_isRow wsX9_isRow) := goodIn_app (goodIn_of _ (by decide +kernel)) ggX9_kind_X9_isRow
set_option maxRecDepth 20000 in
theorem ggX9_kind_X9_kindOf : GoodIn wsX9_kind wsX9_kindOf := goodIn_r _ [141, 23, 18, 7, 17, 142, 143, 144, 4, 145, 25, 146, 147, 148, 149, 10, 12, 13, 14, 15, 150, 151, 152, 153, 11, 16, 130, 131, 132, 133, 129, 154, 155, 156, 157, 158, 159, 160, 161, 162, 163, 164, 165, 166, 167, 168, 169, 170, 171, 172, 173, 174, 175, 176, 177, 178, 179, 180] (by decide +kernel) (by decide +kernel)
set_option maxRecDepth 20000 in
theorem gX9_kind_X9_kindOf : GoodIn wsX9_kind (wsV RX9 197 RX9 yX9_kindOf wsX9_kindOf) := goodIn_app (goodIn_of _ (by decide +kernel)) ggX9_kind_X9_kindOf
theorem dX9_kind_0 : decode cX9_kind 0 = .ok (.aload_n 0, 1) := by decide +kernel
theorem dX9_kind_1 : decode cX9_kind 1 = .ok (.invokevirtual 188, 3) := by decide +kernel
theorem dX9_kind_4 : decode cX9_kind 4 = .ok (.ifCond .eq 19, 3) := by decide +kernel
theorem dX9_kind_7 : decode cX9_kind 7 = .ok (.aload_n 0, 1) := by decide +kernel
theorem dX9_kind_8 : decode cX9_kind 8 = .ok (.iload_n 1, 1) := by decide +kernel
theorem dX9_kind_9 : decode cX9_kind 9 = .ok (.invokevirtual 166, 3) := by decide +kernel
theorem dX9_kind_12 : decode cX9_kind 12 = .ok (.ifCond .eq 11, 3) := by decide +kernel
theorem dX9_kind_15 : decode cX9_kind 15 = .ok (.aload_n 0, 1) := by decide +kernel
theorem dX9_kind_16 : decode cX9_kind 16 = .ok (.iload_n 1, 1) := by decide +kernel
theorem dX9_kind_17 : decode cX9_kind 17 = .ok (.invokevirtual 197, 3) := by decide +kernel
theorem dX9_kind_20 : decode cX9_kind 20 = .ok (.goto 4, 3) := by decide +kernel
theorem dX9_kind_23 : decode cX9_kind 23 = .ok (.iconst (-1), 1) := by decide +kernel
theorem dX9_kind_24 : decode cX9_kind 24 = .ok (.ireturn, 1) := by decide +kernel
set_option maxRecDepth 20000 in
theorem ggX9_second_X9_finds : GoodIn wsX9_second wsX9_finds := goodIn_r _ [6, 7, 8, 9, 10, 1, 11, 12, 13, 14, 15, 16, 17, 18, 19, 20, 21, 5, 22, 23, 24, 25, 26, 27, 28, 29, 30, 31, 32, 33, 34, 35, 36, 37, 38, 39, 40, 41, 42, 43, 44, 45, 46, 47, 48, 49, 50, 51, 52, 53, 54, 55, 56, 57, 58, 59, 60, 61, 62, 63, 64, 65, 66, 67, 68, 69, 70, 71, 72, 73, 74, 75, 76, 77, 78, 79, 80, 81, 82, 83, 84, 85, 86, 87, 88, 89, 90, 91, 92, 93, 94, 95, 96, 97, 98, 99, 100, 101, 102, 103, 104, 105, 106, 107, 108, 109, 110, 111, 112, 113, 114, 115, 116, 117, 118, 119, 120, 121, 122, 123, 124, 125, 126, 127, 128, 129, 130, 131, 132, 133, 154, 155, 156, 157, 158, 159, 160, 161, 162, 163, 164, 165, 166, 167, 168, 169, 170, 171, 172, 173, 174, 175, 176, 177, 178, 179, 180] (by decide +kernel) (by decide +kernel)
set_option maxRecDepth 20000 in
theorem gX9_second_X9_finds : GoodIn wsX9_second (wsV RX9 188 RX9 yX9_finds wsX9_finds) := goodIn_app (goodIn_of _ (by decide +kernel)) ggX9_second_X9_finds
set_option maxRecDepth 20000 in
theorem ggX9_second_X9_isRow : GoodIn wsX9_second wsX9_isRow := goodIn_r _ [137, 9, 154, 155, 156, 157, 158, 159, 160, 161, 162, 163, 164, 165, 166, 167, 168, 169, 170, 171, 172, 173, 174, 175, 176, 177, 178, 179, 180] (by decide +kernel) (by decide +kernel)
set_option maxRecDepth 20000 in
theorem gX9_second_X9_isRow : GoodIn wsX9_second (wsV RX9 166 RX9 yX9_isRow wsX9_isRow) := goodIn_app (goodIn_of _ (by decide +kernel)) ggX9_second_X9_isRow
set_option maxRecDepth 20000 in
theorem ggX9_second_X9_kindOf : GoodIn wsX9_second wsX9_kindOf := goodIn_r _ [141, 23, 18, 8, 17, 142, 143, 144, 5, 145, 25, 146, 147, 148, 149, 1, 12, 13, 14, 15, 150, 151, 152, 153, 11, 16, 130, 131, 132, 133, 129, 154, 155, 156, 157, 158, 159, 160, 161, 162, 163, 164, 165, 166, 167, 168, 169, 170, 171, 172, 173, 174, 175, 176, 177, 178, 179, 180] (by decide +kernel) (by decide +kernel)
set_option maxRecDepth 20000 in
theorem gX9_second_X9_kindOf : GoodIn wsX9_second (wsV RX9 197 RX9 yX9_kindOf wsX9_kindOf) := goodIn_app (goodIn_of _ (by decide +kernel)) ggX9_second_X9_kindOf
set_option maxRecDepth 20000 in
theorem ggX9_second_X9_other : GoodIn wsX9_second wsX9_other := goodIn_r _ [149, 1, 8, 18, 12, 13, 14, 15, 142, 143, 144, 5, 145, 23, 25, 150, 151, 152, 153, 11, 16, 130, 131, 132, 133, 129, 154, 155, 156, 157, 158, 159, 160, 161, 162, 163, 164, 165, 166, 167, 168, 169, 170, 171, 172, 173, 174, 175, 176, 177, 178, 179, 180] (by decide +kernel) (by decide +kernel)
set_option maxRecDepth 20000 in
theorem gX9_second_X9_other : GoodIn wsX9_second (wsV RX9 194 RX9 yX9_other wsX9_other) := goodIn_app (goodIn_of _ (by decide +kernel)) ggX9_second_X9_other
theorem dX9_second_0 : decode cX9_second 0 = .ok (.aload_n 0, 1) := by decide +kernel
theorem dX9_second_1 : decode cX9_second 1 = .ok (.invokevirtual 188, 3) := by decide +kernel
theorem dX9_second_4 : decode cX9_second 4 = .ok (.ifCond .eq 20, 3) := by decide +kernel
theorem dX9_second_7 : decode cX9_second 7 = .ok (.aload_n 0, 1) := by decide +kernel
theorem dX9_second_8 : decode cX9_second 8 = .ok (.iload_n 1, 1) := by decide +kernel
theorem dX9_second_9 : decode cX9_second 9 = .ok (.invokevirtual 166, 3) := by decide +kernel
theorem dX9_second_12 : decode cX9_second 12 = .ok (.ifCond .eq 12, 3) := by decide +kernel
theorem dX9_second_15 : decode cX9_second 15 = .ok (.aload_n 0, 1) := by decide +kernel
theorem dX9_second_16 : decode cX9_second 16 = .ok (.iload_n 1, 1) := by decide +kernel
theorem dX9_second_17 : decode cX9_second 17 = .ok (.invokevirtual 197, 3) := by decide +kernel
theorem dX9_second_20 : decode cX9_second 20 = .ok (.iconst 3, 1) := by decide +kernel
theorem dX9_second_21 : decode cX9_second 21 = .ok (.if_icmp .ne 5, 3) := by decide +kernel
theorem dX9_second_24 : decode cX9_second 24 = .ok (.iconst (-1), 1) := by decide +kernel
theorem dX9_second_25 : decode cX9_second 25 = .ok (.ireturn, 1) := by decide +kernel
theorem dX9_second_26 : decode cX9_second 26 = .ok (.aload_n 0, 1) := by decide +kernel
theorem dX9_second_27 : decode cX9_second 27 = .ok (.iload_n 1, 1) := by decide +kernel
theorem dX9_second_28 : decode cX9_second 28 = .ok (.invokevirtual 194, 3) := by decide +kernel
theorem dX9_second_31 : decode cX9_second 31 = .ok (.istore_n 2, 1) := by decide +kernel
theorem dX9_second_32 : decode cX9_second 32 = .ok (.iload_n 2, 1) := by decide +kernel
theorem dX9_second_33 : decode cX9_second 33 = .ok (.ldc 175, 2) := by decide +kernel
theorem dX9_second_35 : decode cX9_second 35 = .ok (.if_icmp .ne 7, 3) := by decide +kernel
theorem dX9_second_38 : decode cX9_second 38 = .ok (.iconst (-1), 1) := by decide +kernel
theorem dX9_second_39 : decode cX9_second 39 = .ok (.goto 4, 3) := by decide +kernel
theorem dX9_second_42 : decode cX9_second 42 = .ok (.iload_n 2, 1) := by decide +kernel
theorem dX9_second_43 : decode cX9_second 43 = .ok (.ireturn, 1) := by decide +kernel
set_option maxRecDepth 20000 in
theorem ggX9_many_X9_finds : GoodIn wsX9_many wsX9_finds := goodIn_r _ [6, 7, 8, 1, 9, 10, 11, 12, 13, 14, 15, 16, 17, 18, 19, 20, 21, 5, 22, 23, 24, 25, 26, 27, 28, 29, 30, 31, 32, 33, 34, 35, 36, 37, 38, 39, 40, 41, 42, 43, 44, 45, 46, 47, 48, 49, 50, 51, 52, 53, 54, 55, 56, 57, 58, 59, 60, 61, 62, 63, 64, 65, 66, 67, 68, 69, 70, 71, 72, 73, 74, 75, 76, 77, 78, 79, 80, 81, 82, 83, 84, 85, 86, 87, 88, 89, 90, 91, 92, 93, 94, 95, 96, 97, 98, 99, 100, 101, 102, 103, 104, 105, 106, 107, 108, 109, 110, 111, 112, 113, 114, 115, 116, 117, 118, 119, 120, 121, 122, 123, 124, 125, 126, 127, 128, 129, 130, 131, 132, 133, 150, 151, 152, 153, 154, 155, 156, 157, 158, 159, 160, 161, 162, 163, 164, 165, 166, 167, 168, 169, 170, 171, 172, 173, 174, 175, 176] (by decide +kernel) (by decide +kernel)
set_option maxRecDepth 20000 in
theorem gX9_many_X9_finds : GoodIn wsX9_many (wsV RX9 188 RX9 yX9_finds wsX9_finds) := goodIn_app (goodIn_of _ (by decide +kernel)) ggX9_many_X9_finds
set_option maxRecDepth 20000 in
theorem ggX9_many_X9_isIn : GoodIn wsX9_many wsX9_isIn := goodIn_r _ [51] (by decide +kernel) (by decide +kernel)
set_option maxRecDepth 20000 in
theorem gX9_many_X9_isIn : GoodIn wsX9_many (va_wsS RX9 61 yX9_isIn wsX9_isIn) := goodIn_app (goodIn_of _ (by decide +kernel)) ggX9_many_X9_isIn
set_option maxRecDepth 20000 in
theorem ggX9_many_X9_kindOf : GoodIn wsX9_many wsX9_kindOf := goodIn_r _ [137, 23, 18, 8, 17, 138, 139, 140, 5, 141, 25, 142, 143, 144, 145, 10, 12, 13, 14, 15, 146, 147, 148, 149, 11, 16, 130, 131, 132, 133, 129, 150, 151, 152, 153, 154, 155, 156, 157, 158, 159, 160, 161, 162, 163, 164, 165, 166, 167, 168, 169, 170, 171, 172, 173, 174, 175, 176] (by decide +kernel) (by decide +kernel)
set_option maxRecDepth 20000 in
theorem gX9_many_X9_kindOf : GoodIn wsX9_many (wsV RX9 197 RX9 yX9_kindOf wsX9_kindOf) := goodIn_app (goodIn_of _ (by decide +kernel)) ggX9_many_X9_kindOf
theorem dX9_many_0 : decode cX9_many 0 = .ok (.aload_n 0, 1) := by decide +kernel
theorem dX9_many_1 : decode cX9_many 1 = .ok (.invokevirtual 188, 3) := by decide +kernel
theorem dX9_many_4 : decode cX9_many 4 = .ok (.ifCond .eq 12, 3) := by decide +kernel
theorem dX9_many_7 : decode cX9_many 7 = .ok (.iload_n 1, 1) := by decide +kernel
theorem dX9_many_8 : decode cX9_many 8 = .ok (.iconst 0, 1) := by decide +kernel
theorem dX9_many_9 : decode cX9_many 9 = .ok (.iconst 3, 1) := by decide +kernel
theorem dX9_many_10 : decode cX9_many 10 = .ok (.invokestatic 61, 3) := by decide +kernel
theorem dX9_many_13 : decode cX9_many 13 = .ok (.ifCond .ne 5, 3) := by decide +kernel
theorem dX9_many_16 : decode cX9_many 16 = .ok (.iconst (-1), 1) := by decide +kernel
theorem dX9_many_17 : decode cX9_many 17 = .ok (.ireturn, 1) := by decide +kernel
theorem dX9_many_18 : decode cX9_many 18 = .ok (.iconst 0, 1) := by decide +kernel
theorem dX9_many_19 : decode cX9_many 19 = .ok (.istore_n 2, 1) := by decide +kernel
theorem dX9_many_20 : decode cX9_many 20 = .ok (.iconst 0, 1) := by decide +kernel
theorem dX9_many_21 : decode cX9_many 21 = .ok (.istore_n 3, 1) := by decide +kernel
theorem dX9_many_22 : decode cX9_many 22 = .ok (.iload_n 3, 1) := by decide +kernel
theorem dX9_many_23 : decode cX9_many 23 = .ok (.aload_n 0, 1) := by decide +kernel
theorem dX9_many_24 : decode cX9_many 24 = .ok (.getfield 113, 3) := by decide +kernel
theorem dX9_many_27 : decode cX9_many 27 = .ok (.if_icmp .ge 26, 3) := by decide +kernel
theorem dX9_many_30 : decode cX9_many 30 = .ok (.iload_n 2, 1) := by decide +kernel
theorem dX9_many_31 : decode cX9_many 31 = .ok (.aload_n 0, 1) := by decide +kernel
theorem dX9_many_32 : decode cX9_many 32 = .ok (.iload_n 3, 1) := by decide +kernel
theorem dX9_many_33 : decode cX9_many 33 = .ok (.invokevirtual 197, 3) := by decide +kernel
theorem dX9_many_36 : decode cX9_many 36 = .ok (.iload_n 1, 1) := by decide +kernel
theorem dX9_many_37 : decode cX9_many 37 = .ok (.if_icmp .ne 7, 3) := by decide +kernel
theorem dX9_many_40 : decode cX9_many 40 = .ok (.iconst 1, 1) := by decide +kernel
theorem dX9_many_41 : decode cX9_many 41 = .ok (.goto 4, 3) := by decide +kernel
theorem dX9_many_44 : decode cX9_many 44 = .ok (.iconst 0, 1) := by decide +kernel
theorem dX9_many_45 : decode cX9_many 45 = .ok (.iadd, 1) := by decide +kernel
theorem dX9_many_46 : decode cX9_many 46 = .ok (.istore_n 2, 1) := by decide +kernel
theorem dX9_many_47 : decode cX9_many 47 = .ok (.iinc 3 1, 3) := by decide +kernel
theorem dX9_many_50 : decode cX9_many 50 = .ok (.goto (-28), 3) := by decide +kernel
theorem dX9_many_53 : decode cX9_many 53 = .ok (.iload_n 2, 1) := by decide +kernel
theorem dX9_many_54 : decode cX9_many 54 = .ok (.ireturn, 1) := by decide +kernel
set_option maxRecDepth 20000 in
theorem ggX9_spans_X9_finds : GoodIn wsX9_spans wsX9_finds := goodIn_r _ [7, 8, 9, 1, 10, 11, 12, 13, 14, 15, 16, 17, 18, 2, 19, 20, 21, 6, 22, 23, 24, 25, 26, 27, 28, 29, 30, 31, 32, 33, 34, 35, 36, 37, 38, 39, 40, 41, 42, 43, 44, 45, 46, 47, 48, 49, 50, 51, 52, 53, 54, 55, 56, 57, 58, 59, 60, 61, 62, 63, 64, 65, 66, 67, 68, 69, 70, 71, 72, 73, 74, 75, 76, 77, 78, 79, 80, 81, 82, 83, 84, 85, 86, 87, 88, 89, 90, 91, 92, 93, 94, 95, 96, 97, 98, 99, 100, 101, 102, 103, 104, 105, 106, 107, 108, 109, 110, 111, 112, 113, 114, 115, 116, 117, 118, 119, 120, 121, 122, 123, 124, 125, 126, 127, 128, 129, 130, 131, 132, 133, 134, 135, 136, 137, 138, 139, 140, 141, 142, 143, 144, 145, 146, 147, 148, 149, 150, 151, 152, 153, 154, 155, 156, 157, 158, 159, 160] (by decide +kernel) (by decide +kernel)
set_option maxRecDepth 20000 in
theorem gX9_spans_X9_finds : GoodIn wsX9_spans (wsV RX9 188 RX9 yX9_finds wsX9_finds) := goodIn_app (goodIn_of _ (by decide +kernel)) ggX9_spans_X9_finds
theorem dX9_spans_0 : decode cX9_spans 0 = .ok (.aload_n 0, 1) := by decide +kernel
theorem dX9_spans_1 : decode cX9_spans 1 = .ok (.invokevirtual 188, 3) := by decide +kernel
theorem dX9_spans_4 : decode cX9_spans 4 = .ok (.ifCond .ne 5, 3) := by decide +kernel
theorem dX9_spans_7 : decode cX9_spans 7 = .ok (.iconst (-1), 1) := by decide +kernel
theorem dX9_spans_8 : decode cX9_spans 8 = .ok (.ireturn, 1) := by decide +kernel
theorem dX9_spans_9 : decode cX9_spans 9 = .ok (.iconst 1, 1) := by decide +kernel
theorem dX9_spans_10 : decode cX9_spans 10 = .ok (.istore_n 1, 1) := by decide +kernel
theorem dX9_spans_11 : decode cX9_spans 11 = .ok (.iconst 1, 1) := by decide +kernel
theorem dX9_spans_12 : decode cX9_spans 12 = .ok (.istore_n 2, 1) := by decide +kernel
theorem dX9_spans_13 : decode cX9_spans 13 = .ok (.iload_n 2, 1) := by decide +kernel
theorem dX9_spans_14 : decode cX9_spans 14 = .ok (.aload_n 0, 1) := by decide +kernel
theorem dX9_spans_15 : decode cX9_spans 15 = .ok (.getfield 113, 3) := by decide +kernel
theorem dX9_spans_18 : decode cX9_spans 18 = .ok (.if_icmp .ge 34, 3) := by decide +kernel
theorem dX9_spans_21 : decode cX9_spans 21 = .ok (.iload_n 1, 1) := by decide +kernel
theorem dX9_spans_22 : decode cX9_spans 22 = .ok (.aload_n 0, 1) := by decide +kernel
theorem dX9_spans_23 : decode cX9_spans 23 = .ok (.getfield 48, 3) := by decide +kernel
theorem dX9_spans_26 : decode cX9_spans 26 = .ok (.iload_n 2, 1) := by decide +kernel
theorem dX9_spans_27 : decode cX9_spans 27 = .ok (.iaload, 1) := by decide +kernel
theorem dX9_spans_28 : decode cX9_spans 28 = .ok (.aload_n 0, 1) := by decide +kernel
theorem dX9_spans_29 : decode cX9_spans 29 = .ok (.getfield 48, 3) := by decide +kernel
theorem dX9_spans_32 : decode cX9_spans 32 = .ok (.iload_n 2, 1) := by decide +kernel
theorem dX9_spans_33 : decode cX9_spans 33 = .ok (.iconst 1, 1) := by decide +kernel
theorem dX9_spans_34 : decode cX9_spans 34 = .ok (.isub, 1) := by decide +kernel
theorem dX9_spans_35 : decode cX9_spans 35 = .ok (.iaload, 1) := by decide +kernel
theorem dX9_spans_36 : decode cX9_spans 36 = .ok (.if_icmp .eq 7, 3) := by decide +kernel
theorem dX9_spans_39 : decode cX9_spans 39 = .ok (.iconst 1, 1) := by decide +kernel
theorem dX9_spans_40 : decode cX9_spans 40 = .ok (.goto 4, 3) := by decide +kernel
theorem dX9_spans_43 : decode cX9_spans 43 = .ok (.iconst 0, 1) := by decide +kernel
theorem dX9_spans_44 : decode cX9_spans 44 = .ok (.iadd, 1) := by decide +kernel
theorem dX9_spans_45 : decode cX9_spans 45 = .ok (.istore_n 1, 1) := by decide +kernel
theorem dX9_spans_46 : decode cX9_spans 46 = .ok (.iinc 2 1, 3) := by decide +kernel
theorem dX9_spans_49 : decode cX9_spans 49 = .ok (.goto (-36), 3) := by decide +kernel
theorem dX9_spans_52 : decode cX9_spans 52 = .ok (.iload_n 1, 1) := by decide +kernel
theorem dX9_spans_53 : decode cX9_spans 53 = .ok (.ireturn, 1) := by decide +kernel
theorem dX9_puts_0 : decode cX9_puts 0 = .ok (.aload_n 0, 1) := by decide +kernel
theorem dX9_puts_1 : decode cX9_puts 1 = .ok (.getfield 51, 3) := by decide +kernel
theorem dX9_puts_4 : decode cX9_puts 4 = .ok (.aload_n 0, 1) := by decide +kernel
theorem dX9_puts_5 : decode cX9_puts 5 = .ok (.getfield 200, 3) := by decide +kernel
theorem dX9_puts_8 : decode cX9_puts 8 = .ok (.iload_n 1, 1) := by decide +kernel
theorem dX9_puts_9 : decode cX9_puts 9 = .ok (.i2b, 1) := by decide +kernel
theorem dX9_puts_10 : decode cX9_puts 10 = .ok (.bastore, 1) := by decide +kernel
theorem dX9_puts_11 : decode cX9_puts 11 = .ok (.aload_n 0, 1) := by decide +kernel
theorem dX9_puts_12 : decode cX9_puts 12 = .ok (.dup, 1) := by decide +kernel
theorem dX9_puts_13 : decode cX9_puts 13 = .ok (.getfield 200, 3) := by decide +kernel
theorem dX9_puts_16 : decode cX9_puts 16 = .ok (.iconst 1, 1) := by decide +kernel
theorem dX9_puts_17 : decode cX9_puts 17 = .ok (.iadd, 1) := by decide +kernel
theorem dX9_puts_18 : decode cX9_puts 18 = .ok (.putfield 200, 3) := by decide +kernel
theorem dX9_puts_21 : decode cX9_puts 21 = .ok (.return_, 1) := by decide +kernel
set_option maxRecDepth 20000 in
theorem ggX9_figures_X9_puts : GoodIn wsX9_figures wsX9_puts := goodIn_r _ [5, 6, 7, 8, 9, 10, 11, 12, 13, 14, 15, 16, 17, 18, 19, 20, 21, 22, 23, 24, 25, 26, 27, 28, 29, 30, 31, 32, 33, 34] (by decide +kernel) (by decide +kernel)
set_option maxRecDepth 20000 in
theorem gX9_figures_X9_puts : GoodIn wsX9_figures (wsV RX9 203 RX9 yX9_puts wsX9_puts) := goodIn_app (goodIn_of _ (by decide +kernel)) ggX9_figures_X9_puts
theorem dX9_figures_0 : decode cX9_figures 0 = .ok (.iconst 1, 1) := by decide +kernel
theorem dX9_figures_1 : decode cX9_figures 1 = .ok (.istore_n 3, 1) := by decide +kernel
theorem dX9_figures_2 : decode cX9_figures 2 = .ok (.bipush 10, 2) := by decide +kernel
theorem dX9_figures_4 : decode cX9_figures 4 = .ok (.istore 4, 2) := by decide +kernel
theorem dX9_figures_6 : decode cX9_figures 6 = .ok (.iload_n 3, 1) := by decide +kernel
theorem dX9_figures_7 : decode cX9_figures 7 = .ok (.iload_n 2, 1) := by decide +kernel
theorem dX9_figures_8 : decode cX9_figures 8 = .ok (.if_icmp .lt 9, 3) := by decide +kernel
theorem dX9_figures_11 : decode cX9_figures 11 = .ok (.iload_n 1, 1) := by decide +kernel
theorem dX9_figures_12 : decode cX9_figures 12 = .ok (.iload 4, 2) := by decide +kernel
theorem dX9_figures_14 : decode cX9_figures 14 = .ok (.if_icmp .lt 16, 3) := by decide +kernel
theorem dX9_figures_17 : decode cX9_figures 17 = .ok (.iinc 3 1, 3) := by decide +kernel
theorem dX9_figures_20 : decode cX9_figures 20 = .ok (.iload 4, 2) := by decide +kernel
theorem dX9_figures_22 : decode cX9_figures 22 = .ok (.bipush 10, 2) := by decide +kernel
theorem dX9_figures_24 : decode cX9_figures 24 = .ok (.imul, 1) := by decide +kernel
theorem dX9_figures_25 : decode cX9_figures 25 = .ok (.istore 4, 2) := by decide +kernel
theorem dX9_figures_27 : decode cX9_figures 27 = .ok (.goto (-21), 3) := by decide +kernel
theorem dX9_figures_30 : decode cX9_figures 30 = .ok (.iload 4, 2) := by decide +kernel
theorem dX9_figures_32 : decode cX9_figures 32 = .ok (.bipush 10, 2) := by decide +kernel
theorem dX9_figures_34 : decode cX9_figures 34 = .ok (.idiv, 1) := by decide +kernel
theorem dX9_figures_35 : decode cX9_figures 35 = .ok (.istore 5, 2) := by decide +kernel
theorem dX9_figures_37 : decode cX9_figures 37 = .ok (.iload 5, 2) := by decide +kernel
theorem dX9_figures_39 : decode cX9_figures 39 = .ok (.ifCond .le 27, 3) := by decide +kernel
theorem dX9_figures_42 : decode cX9_figures 42 = .ok (.aload_n 0, 1) := by decide +kernel
theorem dX9_figures_43 : decode cX9_figures 43 = .ok (.bipush 48, 2) := by decide +kernel
theorem dX9_figures_45 : decode cX9_figures 45 = .ok (.iload_n 1, 1) := by decide +kernel
theorem dX9_figures_46 : decode cX9_figures 46 = .ok (.iload 5, 2) := by decide +kernel
theorem dX9_figures_48 : decode cX9_figures 48 = .ok (.idiv, 1) := by decide +kernel
theorem dX9_figures_49 : decode cX9_figures 49 = .ok (.bipush 10, 2) := by decide +kernel
theorem dX9_figures_51 : decode cX9_figures 51 = .ok (.irem, 1) := by decide +kernel
theorem dX9_figures_52 : decode cX9_figures 52 = .ok (.iadd, 1) := by decide +kernel
theorem dX9_figures_53 : decode cX9_figures 53 = .ok (.invokevirtual 203, 3) := by decide +kernel
theorem dX9_figures_56 : decode cX9_figures 56 = .ok (.iload 5, 2) := by decide +kernel
theorem dX9_figures_58 : decode cX9_figures 58 = .ok (.bipush 10, 2) := by decide +kernel
theorem dX9_figures_60 : decode cX9_figures 60 = .ok (.idiv, 1) := by decide +kernel
theorem dX9_figures_61 : decode cX9_figures 61 = .ok (.istore 5, 2) := by decide +kernel
theorem dX9_figures_63 : decode cX9_figures 63 = .ok (.goto (-26), 3) := by decide +kernel
theorem dX9_figures_66 : decode cX9_figures 66 = .ok (.return_, 1) := by decide +kernel
set_option maxRecDepth 20000 in
theorem ggX9_writes_X9_split : GoodIn wsX9_writes wsX9_split := goodIn_r _ [11, 6, 5, 4, 12, 13, 10, 14, 15, 16, 17, 68, 69, 70, 71, 72, 73, 74, 75, 76, 77, 78, 79, 80, 81, 82, 83, 84, 85, 86, 87, 88, 89, 90, 91, 92, 93, 94] (by decide +kernel) (by decide +kernel)
set_option maxRecDepth 20000 in
theorem gX9_writes_X9_split : GoodIn wsX9_writes (wsV RX9 89 RX9 yX9_split wsX9_split) := goodIn_app (goodIn_of _ (by decide +kernel)) ggX9_writes_X9_split
set_option maxRecDepth 20000 in
theorem ggX9_writes_X9_figures : GoodIn wsX9_writes wsX9_figures := goodIn_r _ [21, 22, 23, 24, 10, 25, 26, 1, 68, 69, 70, 71, 72, 73, 74, 75, 76, 77, 78, 79, 80, 81, 82, 83, 84, 85, 86, 87, 88, 89, 90, 91, 92, 93, 94] (by decide +kernel) (by decide +kernel)
set_option maxRecDepth 20000 in
theorem gX9_writes_X9_figures : GoodIn wsX9_writes (wsV RX9 206 RX9 yX9_figures wsX9_figures) := goodIn_app (goodIn_of _ (by decide +kernel)) ggX9_writes_X9_figures
set_option maxRecDepth 20000 in
theorem ggX9_writes_J0_charAt_5068e : GoodIn wsX9_writes wsJ0_charAt_5068e := goodIn_r _ [31, 32, 33, 34, 35, 30, 36, 37, 38, 39, 40, 41, 42, 43, 44, 45, 46, 47, 48, 49, 50, 51, 52, 53, 54, 55, 56, 57, 58, 59, 60, 61, 62, 63, 64, 65, 66, 67] (by decide +kernel) (by decide +kernel)
set_option maxRecDepth 20000 in
theorem gX9_writes_J0_charAt_5068e : GoodIn wsX9_writes (wsV RX9 133 RJ0 yJ0_charAt_5068e wsJ0_charAt_5068e) := goodIn_app (goodIn_of _ (by decide +kernel)) ggX9_writes_J0_charAt_5068e
set_option maxRecDepth 20000 in
theorem ggX9_writes_X9_puts : GoodIn wsX9_writes wsX9_puts := goodIn_r _ [25, 26, 1, 68, 69, 70, 71, 72, 73, 74, 75, 76, 77, 78, 79, 80, 81, 82, 83, 84, 85, 86, 87, 88, 89, 90, 91, 92, 93, 94] (by decide +kernel) (by decide +kernel)
set_option maxRecDepth 20000 in
theorem gX9_writes_X9_puts : GoodIn wsX9_writes (wsV RX9 203 RX9 yX9_puts wsX9_puts) := goodIn_app (goodIn_of _ (by decide +kernel)) ggX9_writes_X9_puts
theorem dX9_writes_0 : decode cX9_writes 0 = .ok (.aload_n 0, 1) := by decide +kernel
theorem dX9_writes_1 : decode cX9_writes 1 = .ok (.iload_n 1, 1) := by decide +kernel
theorem dX9_writes_2 : decode cX9_writes 2 = .ok (.invokevirtual 89, 3) := by decide +kernel
theorem dX9_writes_5 : decode cX9_writes 5 = .ok (.aload_n 0, 1) := by decide +kernel
theorem dX9_writes_6 : decode cX9_writes 6 = .ok (.iconst 0, 1) := by decide +kernel
theorem dX9_writes_7 : decode cX9_writes 7 = .ok (.putfield 200, 3) := by decide +kernel
theorem dX9_writes_10 : decode cX9_writes 10 = .ok (.iconst 0, 1) := by decide +kernel
theorem dX9_writes_11 : decode cX9_writes 11 = .ok (.istore_n 3, 1) := by decide +kernel
theorem dX9_writes_12 : decode cX9_writes 12 = .ok (.iload_n 3, 1) := by decide +kernel
theorem dX9_writes_13 : decode cX9_writes 13 = .ok (.aload_n 0, 1) := by decide +kernel
theorem dX9_writes_14 : decode cX9_writes 14 = .ok (.getfield 19, 3) := by decide +kernel
theorem dX9_writes_17 : decode cX9_writes 17 = .ok (.iload_n 2, 1) := by decide +kernel
theorem dX9_writes_18 : decode cX9_writes 18 = .ok (.iaload, 1) := by decide +kernel
theorem dX9_writes_19 : decode cX9_writes 19 = .ok (.if_icmp .ge 214, 3) := by decide +kernel
theorem dX9_writes_22 : decode cX9_writes 22 = .ok (.aload_n 0, 1) := by decide +kernel
theorem dX9_writes_23 : decode cX9_writes 23 = .ok (.getfield 13, 3) := by decide +kernel
theorem dX9_writes_26 : decode cX9_writes 26 = .ok (.bipush 24, 2) := by decide +kernel
theorem dX9_writes_28 : decode cX9_writes 28 = .ok (.iload_n 2, 1) := by decide +kernel
theorem dX9_writes_29 : decode cX9_writes 29 = .ok (.imul, 1) := by decide +kernel
theorem dX9_writes_30 : decode cX9_writes 30 = .ok (.iload_n 3, 1) := by decide +kernel
theorem dX9_writes_31 : decode cX9_writes 31 = .ok (.iadd, 1) := by decide +kernel
theorem dX9_writes_32 : decode cX9_writes 32 = .ok (.baload, 1) := by decide +kernel
theorem dX9_writes_33 : decode cX9_writes 33 = .ok (.istore 4, 2) := by decide +kernel
theorem dX9_writes_35 : decode cX9_writes 35 = .ok (.iload 4, 2) := by decide +kernel
theorem dX9_writes_37 : decode cX9_writes 37 = .ok (.lookupswitch 184 #[(68, 59), (77, 71), (78, 110), (87, 148), (89, 83), (121, 95)], 59) := by decide +kernel
theorem dX9_writes_96 : decode cX9_writes 96 = .ok (.aload_n 0, 1) := by decide +kernel
theorem dX9_writes_97 : decode cX9_writes 97 = .ok (.aload_n 0, 1) := by decide +kernel
theorem dX9_writes_98 : decode cX9_writes 98 = .ok (.getfield 82, 3) := by decide +kernel
theorem dX9_writes_101 : decode cX9_writes 101 = .ok (.iconst 1, 1) := by decide +kernel
theorem dX9_writes_102 : decode cX9_writes 102 = .ok (.invokevirtual 206, 3) := by decide +kernel
theorem dX9_writes_105 : decode cX9_writes 105 = .ok (.goto 122, 3) := by decide +kernel
theorem dX9_writes_108 : decode cX9_writes 108 = .ok (.aload_n 0, 1) := by decide +kernel
theorem dX9_writes_109 : decode cX9_writes 109 = .ok (.aload_n 0, 1) := by decide +kernel
theorem dX9_writes_110 : decode cX9_writes 110 = .ok (.getfield 79, 3) := by decide +kernel
theorem dX9_writes_113 : decode cX9_writes 113 = .ok (.iconst 1, 1) := by decide +kernel
theorem dX9_writes_114 : decode cX9_writes 114 = .ok (.invokevirtual 206, 3) := by decide +kernel
theorem dX9_writes_117 : decode cX9_writes 117 = .ok (.goto 110, 3) := by decide +kernel
theorem dX9_writes_120 : decode cX9_writes 120 = .ok (.aload_n 0, 1) := by decide +kernel
theorem dX9_writes_121 : decode cX9_writes 121 = .ok (.aload_n 0, 1) := by decide +kernel
theorem dX9_writes_122 : decode cX9_writes 122 = .ok (.getfield 76, 3) := by decide +kernel
theorem dX9_writes_125 : decode cX9_writes 125 = .ok (.iconst 4, 1) := by decide +kernel
theorem dX9_writes_126 : decode cX9_writes 126 = .ok (.invokevirtual 206, 3) := by decide +kernel
theorem dX9_writes_129 : decode cX9_writes 129 = .ok (.goto 98, 3) := by decide +kernel
theorem dX9_writes_132 : decode cX9_writes 132 = .ok (.aload_n 0, 1) := by decide +kernel
theorem dX9_writes_133 : decode cX9_writes 133 = .ok (.aload_n 0, 1) := by decide +kernel
theorem dX9_writes_134 : decode cX9_writes 134 = .ok (.getfield 76, 3) := by decide +kernel
theorem dX9_writes_137 : decode cX9_writes 137 = .ok (.bipush 100, 2) := by decide +kernel
theorem dX9_writes_139 : decode cX9_writes 139 = .ok (.irem, 1) := by decide +kernel
theorem dX9_writes_140 : decode cX9_writes 140 = .ok (.iconst 2, 1) := by decide +kernel
theorem dX9_writes_141 : decode cX9_writes 141 = .ok (.invokevirtual 206, 3) := by decide +kernel
theorem dX9_writes_144 : decode cX9_writes 144 = .ok (.goto 83, 3) := by decide +kernel
theorem dX9_writes_147 : decode cX9_writes 147 = .ok (.iconst 0, 1) := by decide +kernel
theorem dX9_writes_148 : decode cX9_writes 148 = .ok (.istore 5, 2) := by decide +kernel
theorem dX9_writes_150 : decode cX9_writes 150 = .ok (.iload 5, 2) := by decide +kernel
theorem dX9_writes_152 : decode cX9_writes 152 = .ok (.iconst 3, 1) := by decide +kernel
theorem dX9_writes_153 : decode cX9_writes 153 = .ok (.if_icmp .ge 29, 3) := by decide +kernel
theorem dX9_writes_156 : decode cX9_writes 156 = .ok (.aload_n 0, 1) := by decide +kernel
theorem dX9_writes_157 : decode cX9_writes 157 = .ok (.ldc 145, 2) := by decide +kernel
theorem dX9_writes_159 : decode cX9_writes 159 = .ok (.iconst 3, 1) := by decide +kernel
theorem dX9_writes_160 : decode cX9_writes 160 = .ok (.aload_n 0, 1) := by decide +kernel
theorem dX9_writes_161 : decode cX9_writes 161 = .ok (.getfield 79, 3) := by decide +kernel
theorem dX9_writes_164 : decode cX9_writes 164 = .ok (.imul, 1) := by decide +kernel
theorem dX9_writes_165 : decode cX9_writes 165 = .ok (.iconst 3, 1) := by decide +kernel
theorem dX9_writes_166 : decode cX9_writes 166 = .ok (.isub, 1) := by decide +kernel
theorem dX9_writes_167 : decode cX9_writes 167 = .ok (.iload 5, 2) := by decide +kernel
theorem dX9_writes_169 : decode cX9_writes 169 = .ok (.iadd, 1) := by decide +kernel
theorem dX9_writes_170 : decode cX9_writes 170 = .ok (.invokevirtual 133, 3) := by decide +kernel
theorem dX9_writes_173 : decode cX9_writes 173 = .ok (.invokevirtual 203, 3) := by decide +kernel
theorem dX9_writes_176 : decode cX9_writes 176 = .ok (.iinc 5 1, 3) := by decide +kernel
theorem dX9_writes_179 : decode cX9_writes 179 = .ok (.goto (-29), 3) := by decide +kernel
theorem dX9_writes_182 : decode cX9_writes 182 = .ok (.goto 45, 3) := by decide +kernel
theorem dX9_writes_185 : decode cX9_writes 185 = .ok (.iconst 0, 1) := by decide +kernel
theorem dX9_writes_186 : decode cX9_writes 186 = .ok (.istore 5, 2) := by decide +kernel
theorem dX9_writes_188 : decode cX9_writes 188 = .ok (.iload 5, 2) := by decide +kernel
theorem dX9_writes_190 : decode cX9_writes 190 = .ok (.iconst 3, 1) := by decide +kernel
theorem dX9_writes_191 : decode cX9_writes 191 = .ok (.if_icmp .ge 27, 3) := by decide +kernel
theorem dX9_writes_194 : decode cX9_writes 194 = .ok (.aload_n 0, 1) := by decide +kernel
theorem dX9_writes_195 : decode cX9_writes 195 = .ok (.ldc 151, 2) := by decide +kernel
theorem dX9_writes_197 : decode cX9_writes 197 = .ok (.iconst 3, 1) := by decide +kernel
theorem dX9_writes_198 : decode cX9_writes 198 = .ok (.iload_n 1, 1) := by decide +kernel
theorem dX9_writes_199 : decode cX9_writes 199 = .ok (.bipush 7, 2) := by decide +kernel
theorem dX9_writes_201 : decode cX9_writes 201 = .ok (.irem, 1) := by decide +kernel
theorem dX9_writes_202 : decode cX9_writes 202 = .ok (.imul, 1) := by decide +kernel
theorem dX9_writes_203 : decode cX9_writes 203 = .ok (.iload 5, 2) := by decide +kernel
theorem dX9_writes_205 : decode cX9_writes 205 = .ok (.iadd, 1) := by decide +kernel
theorem dX9_writes_206 : decode cX9_writes 206 = .ok (.invokevirtual 133, 3) := by decide +kernel
theorem dX9_writes_209 : decode cX9_writes 209 = .ok (.invokevirtual 203, 3) := by decide +kernel
theorem dX9_writes_212 : decode cX9_writes 212 = .ok (.iinc 5 1, 3) := by decide +kernel
theorem dX9_writes_215 : decode cX9_writes 215 = .ok (.goto (-27), 3) := by decide +kernel
theorem dX9_writes_218 : decode cX9_writes 218 = .ok (.goto 9, 3) := by decide +kernel
theorem dX9_writes_221 : decode cX9_writes 221 = .ok (.aload_n 0, 1) := by decide +kernel
theorem dX9_writes_222 : decode cX9_writes 222 = .ok (.iload 4, 2) := by decide +kernel
theorem dX9_writes_224 : decode cX9_writes 224 = .ok (.invokevirtual 203, 3) := by decide +kernel
theorem dX9_writes_227 : decode cX9_writes 227 = .ok (.iinc 3 1, 3) := by decide +kernel
theorem dX9_writes_230 : decode cX9_writes 230 = .ok (.goto (-218), 3) := by decide +kernel
theorem dX9_writes_233 : decode cX9_writes 233 = .ok (.return_, 1) := by decide +kernel
set_option maxRecDepth 20000 in
theorem ggX9_write_X9_isDay : GoodIn wsX9_write wsX9_isDay := goodIn_r _ [8, 9, 10, 11, 7, 12] (by decide +kernel) (by decide +kernel)
set_option maxRecDepth 20000 in
theorem gX9_write_X9_isDay : GoodIn wsX9_write (va_wsS RX9 86 yX9_isDay wsX9_isDay) := goodIn_app (goodIn_of _ (by decide +kernel)) ggX9_write_X9_isDay
set_option maxRecDepth 20000 in
theorem ggX9_write_X9_isIn : GoodIn wsX9_write wsX9_isIn := goodIn_r _ [12] (by decide +kernel) (by decide +kernel)
set_option maxRecDepth 20000 in
theorem gX9_write_X9_isIn : GoodIn wsX9_write (va_wsS RX9 61 yX9_isIn wsX9_isIn) := goodIn_app (goodIn_of _ (by decide +kernel)) ggX9_write_X9_isIn
set_option maxRecDepth 20000 in
theorem ggX9_write_X9_writes : GoodIn wsX9_write wsX9_writes := goodIn_r _ [16, 3, 17, 18, 19, 20, 21, 22, 23, 24, 7, 25, 26, 27, 28, 29, 30, 31, 32, 33, 34, 35, 36, 37, 38, 39, 4, 40, 41, 42, 43, 44, 45, 46, 47, 48, 49, 50, 51, 52, 53, 54, 55, 56, 57, 58, 59, 60, 61, 62, 63, 64, 65, 66, 67, 68, 69, 70, 71, 72, 73, 74, 75, 76, 77, 78, 79, 80, 81, 82, 83, 84, 85, 86, 87, 88, 89, 90, 91, 92, 93, 94, 95, 96, 97, 98, 99, 100, 101, 102, 103, 104, 105, 106, 107] (by decide +kernel) (by decide +kernel)
set_option maxRecDepth 20000 in
theorem gX9_write_X9_writes : GoodIn wsX9_write (wsV RX9 210 RX9 yX9_writes wsX9_writes) := goodIn_app (goodIn_of _ (by decide +kernel)) ggX9_write_X9_writes
theorem dX9_write_0 : decode cX9_write 0 = .ok (.aload_n 0, 1) := by decide +kernel
theorem dX9_write_1 : decode cX9_write 1 = .ok (.iconst 0, 1) := by decide +kernel
theorem dX9_write_2 : decode cX9_write 2 = .ok (.putfield 54, 3) := by decide +kernel
theorem dX9_write_5 : decode cX9_write 5 = .ok (.iload_n 1, 1) := by decide +kernel
theorem dX9_write_6 : decode cX9_write 6 = .ok (.invokestatic 86, 3) := by decide +kernel
theorem dX9_write_9 : decode cX9_write 9 = .ok (.ifCond .eq 17, 3) := by decide +kernel
theorem dX9_write_12 : decode cX9_write 12 = .ok (.iload_n 2, 1) := by decide +kernel
theorem dX9_write_13 : decode cX9_write 13 = .ok (.iconst 0, 1) := by decide +kernel
theorem dX9_write_14 : decode cX9_write 14 = .ok (.aload_n 0, 1) := by decide +kernel
theorem dX9_write_15 : decode cX9_write 15 = .ok (.getfield 103, 3) := by decide +kernel
theorem dX9_write_18 : decode cX9_write 18 = .ok (.iconst 1, 1) := by decide +kernel
theorem dX9_write_19 : decode cX9_write 19 = .ok (.isub, 1) := by decide +kernel
theorem dX9_write_20 : decode cX9_write 20 = .ok (.invokestatic 61, 3) := by decide +kernel
theorem dX9_write_23 : decode cX9_write 23 = .ok (.ifCond .ne 5, 3) := by decide +kernel
theorem dX9_write_26 : decode cX9_write 26 = .ok (.iconst (-1), 1) := by decide +kernel
theorem dX9_write_27 : decode cX9_write 27 = .ok (.ireturn, 1) := by decide +kernel
theorem dX9_write_28 : decode cX9_write 28 = .ok (.aload_n 0, 1) := by decide +kernel
theorem dX9_write_29 : decode cX9_write 29 = .ok (.iload_n 1, 1) := by decide +kernel
theorem dX9_write_30 : decode cX9_write 30 = .ok (.iload_n 2, 1) := by decide +kernel
theorem dX9_write_31 : decode cX9_write 31 = .ok (.invokevirtual 210, 3) := by decide +kernel
theorem dX9_write_34 : decode cX9_write 34 = .ok (.iload_n 3, 1) := by decide +kernel
theorem dX9_write_35 : decode cX9_write 35 = .ok (.ifCond .lt 20, 3) := by decide +kernel
theorem dX9_write_38 : decode cX9_write 38 = .ok (.iload_n 3, 1) := by decide +kernel
theorem dX9_write_39 : decode cX9_write 39 = .ok (.aload_n 0, 1) := by decide +kernel
theorem dX9_write_40 : decode cX9_write 40 = .ok (.getfield 200, 3) := by decide +kernel
theorem dX9_write_43 : decode cX9_write 43 = .ok (.if_icmp .ge 12, 3) := by decide +kernel
theorem dX9_write_46 : decode cX9_write 46 = .ok (.aload_n 0, 1) := by decide +kernel
theorem dX9_write_47 : decode cX9_write 47 = .ok (.getfield 51, 3) := by decide +kernel
theorem dX9_write_50 : decode cX9_write 50 = .ok (.iload_n 3, 1) := by decide +kernel
theorem dX9_write_51 : decode cX9_write 51 = .ok (.baload, 1) := by decide +kernel
theorem dX9_write_52 : decode cX9_write 52 = .ok (.goto 4, 3) := by decide +kernel
theorem dX9_write_55 : decode cX9_write 55 = .ok (.iconst (-1), 1) := by decide +kernel
theorem dX9_write_56 : decode cX9_write 56 = .ok (.ireturn, 1) := by decide +kernel
set_option maxRecDepth 20000 in
theorem ggX9_same_X9_finds : GoodIn wsX9_same wsX9_finds := goodIn_r _ [11, 12, 13, 14, 15, 16, 17, 18, 19, 20, 21, 22, 23, 2, 24, 25, 26, 10, 27, 1, 28, 29, 30, 31, 32, 33, 34, 35, 36, 37, 38, 39, 4, 40, 41, 42, 43, 44, 45, 46, 47, 48, 49, 50, 6, 51, 52, 53, 54, 55, 56, 57, 58, 59, 60, 61, 62, 63, 64, 65, 66, 67, 68, 69, 70, 71, 72, 73, 74, 75, 76, 77, 78, 79, 80, 81, 82, 83, 84, 85, 86, 87, 88, 89, 90, 91, 92, 93, 94, 95, 96, 97, 98, 99, 100, 101, 102, 103, 104, 105, 106, 107, 108, 109, 110, 111, 112, 113, 114, 115, 116, 117, 118, 119, 120, 121, 122, 123, 124, 125, 126, 127, 128, 129, 130, 131, 132, 133, 134, 135, 159, 160, 161, 162, 163, 164, 165, 166, 167, 168, 169, 170, 171, 172, 173, 174, 175, 176, 177, 178, 179, 180, 181, 182, 183, 184, 185] (by decide +kernel) (by decide +kernel)
set_option maxRecDepth 20000 in
theorem gX9_same_X9_finds : GoodIn wsX9_same (wsV RX9 188 RX9 yX9_finds wsX9_finds) := goodIn_app (goodIn_of _ (by decide +kernel)) ggX9_same_X9_finds
set_option maxRecDepth 20000 in
theorem ggX9_same_X9_isRow : GoodIn wsX9_same wsX9_isRow := goodIn_r _ [139, 14, 159, 160, 161, 162, 163, 164, 165, 166, 167, 168, 169, 170, 171, 172, 173, 174, 175, 176, 177, 178, 179, 180, 181, 182, 183, 184, 185] (by decide +kernel) (by decide +kernel)
set_option maxRecDepth 20000 in
theorem gX9_same_X9_isRow : GoodIn wsX9_same (wsV RX9 166 RX9 yX9_isRow wsX9_isRow) := goodIn_app (goodIn_of _ (by decide +kernel)) ggX9_same_X9_isRow
set_option maxRecDepth 20000 in
theorem ggX9_same_X9_writes : GoodIn wsX9_same wsX9_writes := goodIn_r _ [143, 3, 37, 38, 144, 145, 146, 147, 148, 149, 10, 150, 121, 122, 123, 118, 119, 120, 151, 152, 153, 154, 155, 156, 157, 158, 5, 78, 79, 80, 69, 81, 71, 82, 83, 84, 85, 76, 77, 86, 87, 88, 89, 90, 91, 92, 93, 94, 95, 96, 97, 98, 99, 100, 101, 102, 103, 104, 105, 106, 107, 108, 109, 110, 111, 112, 113, 114, 159, 160, 161, 162, 163, 164, 165, 166, 167, 168, 169, 170, 171, 172, 173, 174, 175, 176, 177, 178, 179, 180, 181, 182, 183, 184, 185] (by decide +kernel) (by decide +kernel)
set_option maxRecDepth 20000 in
theorem gX9_same_X9_writes : GoodIn wsX9_same (wsV RX9 210 RX9 yX9_writes wsX9_writes) := goodIn_app (goodIn_of _ (by decide +kernel)) ggX9_same_X9_writes
theorem dX9_same_0 : decode cX9_same 0 = .ok (.aload_n 0, 1) := by decide +kernel
theorem dX9_same_1 : decode cX9_same 1 = .ok (.invokevirtual 188, 3) := by decide +kernel
theorem dX9_same_4 : decode cX9_same 4 = .ok (.ifCond .eq 31, 3) := by decide +kernel
theorem dX9_same_7 : decode cX9_same 7 = .ok (.aload_n 0, 1) := by decide +kernel
theorem dX9_same_8 : decode cX9_same 8 = .ok (.iload_n 1, 1) := by decide +kernel
theorem dX9_same_9 : decode cX9_same 9 = .ok (.invokevirtual 166, 3) := by decide +kernel
theorem dX9_same_12 : decode cX9_same 12 = .ok (.ifCond .eq 23, 3) := by decide +kernel
theorem dX9_same_15 : decode cX9_same 15 = .ok (.aload_n 0, 1) := by decide +kernel
theorem dX9_same_16 : decode cX9_same 16 = .ok (.getfield 36, 3) := by decide +kernel
theorem dX9_same_19 : decode cX9_same 19 = .ok (.bipush 8, 2) := by decide +kernel
theorem dX9_same_21 : decode cX9_same 21 = .ok (.iload_n 1, 1) := by decide +kernel
theorem dX9_same_22 : decode cX9_same 22 = .ok (.imul, 1) := by decide +kernel
theorem dX9_same_23 : decode cX9_same 23 = .ok (.aload_n 0, 1) := by decide +kernel
theorem dX9_same_24 : decode cX9_same 24 = .ok (.getfield 48, 3) := by decide +kernel
theorem dX9_same_27 : decode cX9_same 27 = .ok (.iload_n 1, 1) := by decide +kernel
theorem dX9_same_28 : decode cX9_same 28 = .ok (.iaload, 1) := by decide +kernel
theorem dX9_same_29 : decode cX9_same 29 = .ok (.iadd, 1) := by decide +kernel
theorem dX9_same_30 : decode cX9_same 30 = .ok (.iaload, 1) := by decide +kernel
theorem dX9_same_31 : decode cX9_same 31 = .ok (.iconst (-1), 1) := by decide +kernel
theorem dX9_same_32 : decode cX9_same 32 = .ok (.if_icmp .ne 5, 3) := by decide +kernel
theorem dX9_same_35 : decode cX9_same 35 = .ok (.iconst (-1), 1) := by decide +kernel
theorem dX9_same_36 : decode cX9_same 36 = .ok (.ireturn, 1) := by decide +kernel
theorem dX9_same_37 : decode cX9_same 37 = .ok (.aload_n 0, 1) := by decide +kernel
theorem dX9_same_38 : decode cX9_same 38 = .ok (.aload_n 0, 1) := by decide +kernel
theorem dX9_same_39 : decode cX9_same 39 = .ok (.getfield 36, 3) := by decide +kernel
theorem dX9_same_42 : decode cX9_same 42 = .ok (.bipush 8, 2) := by decide +kernel
theorem dX9_same_44 : decode cX9_same 44 = .ok (.iload_n 1, 1) := by decide +kernel
theorem dX9_same_45 : decode cX9_same 45 = .ok (.imul, 1) := by decide +kernel
theorem dX9_same_46 : decode cX9_same 46 = .ok (.aload_n 0, 1) := by decide +kernel
theorem dX9_same_47 : decode cX9_same 47 = .ok (.getfield 48, 3) := by decide +kernel
theorem dX9_same_50 : decode cX9_same 50 = .ok (.iload_n 1, 1) := by decide +kernel
theorem dX9_same_51 : decode cX9_same 51 = .ok (.iaload, 1) := by decide +kernel
theorem dX9_same_52 : decode cX9_same 52 = .ok (.iadd, 1) := by decide +kernel
theorem dX9_same_53 : decode cX9_same 53 = .ok (.iaload, 1) := by decide +kernel
theorem dX9_same_54 : decode cX9_same 54 = .ok (.aload_n 0, 1) := by decide +kernel
theorem dX9_same_55 : decode cX9_same 55 = .ok (.getfield 48, 3) := by decide +kernel
theorem dX9_same_58 : decode cX9_same 58 = .ok (.iload_n 1, 1) := by decide +kernel
theorem dX9_same_59 : decode cX9_same 59 = .ok (.iaload, 1) := by decide +kernel
theorem dX9_same_60 : decode cX9_same 60 = .ok (.invokevirtual 210, 3) := by decide +kernel
theorem dX9_same_63 : decode cX9_same 63 = .ok (.aload_n 0, 1) := by decide +kernel
theorem dX9_same_64 : decode cX9_same 64 = .ok (.getfield 200, 3) := by decide +kernel
theorem dX9_same_67 : decode cX9_same 67 = .ok (.aload_n 0, 1) := by decide +kernel
theorem dX9_same_68 : decode cX9_same 68 = .ok (.getfield 26, 3) := by decide +kernel
theorem dX9_same_71 : decode cX9_same 71 = .ok (.iload_n 1, 1) := by decide +kernel
theorem dX9_same_72 : decode cX9_same 72 = .ok (.iaload, 1) := by decide +kernel
theorem dX9_same_73 : decode cX9_same 73 = .ok (.if_icmp .ne 7, 3) := by decide +kernel
theorem dX9_same_76 : decode cX9_same 76 = .ok (.iconst 1, 1) := by decide +kernel
theorem dX9_same_77 : decode cX9_same 77 = .ok (.goto 4, 3) := by decide +kernel
theorem dX9_same_80 : decode cX9_same 80 = .ok (.iconst 0, 1) := by decide +kernel
theorem dX9_same_81 : decode cX9_same 81 = .ok (.istore_n 2, 1) := by decide +kernel
theorem dX9_same_82 : decode cX9_same 82 = .ok (.iconst 0, 1) := by decide +kernel
theorem dX9_same_83 : decode cX9_same 83 = .ok (.istore_n 3, 1) := by decide +kernel
theorem dX9_same_84 : decode cX9_same 84 = .ok (.iload_n 3, 1) := by decide +kernel
theorem dX9_same_85 : decode cX9_same 85 = .ok (.aload_n 0, 1) := by decide +kernel
theorem dX9_same_86 : decode cX9_same 86 = .ok (.getfield 200, 3) := by decide +kernel
theorem dX9_same_89 : decode cX9_same 89 = .ok (.if_icmp .ge 39, 3) := by decide +kernel
theorem dX9_same_92 : decode cX9_same 92 = .ok (.iload_n 2, 1) := by decide +kernel
theorem dX9_same_93 : decode cX9_same 93 = .ok (.ifCond .eq 35, 3) := by decide +kernel
theorem dX9_same_96 : decode cX9_same 96 = .ok (.aload_n 0, 1) := by decide +kernel
theorem dX9_same_97 : decode cX9_same 97 = .ok (.getfield 51, 3) := by decide +kernel
theorem dX9_same_100 : decode cX9_same 100 = .ok (.iload_n 3, 1) := by decide +kernel
theorem dX9_same_101 : decode cX9_same 101 = .ok (.baload, 1) := by decide +kernel
theorem dX9_same_102 : decode cX9_same 102 = .ok (.aload_n 0, 1) := by decide +kernel
theorem dX9_same_103 : decode cX9_same 103 = .ok (.getfield 16, 3) := by decide +kernel
theorem dX9_same_106 : decode cX9_same 106 = .ok (.bipush 24, 2) := by decide +kernel
theorem dX9_same_108 : decode cX9_same 108 = .ok (.iload_n 1, 1) := by decide +kernel
theorem dX9_same_109 : decode cX9_same 109 = .ok (.imul, 1) := by decide +kernel
theorem dX9_same_110 : decode cX9_same 110 = .ok (.iload_n 3, 1) := by decide +kernel
theorem dX9_same_111 : decode cX9_same 111 = .ok (.iadd, 1) := by decide +kernel
theorem dX9_same_112 : decode cX9_same 112 = .ok (.baload, 1) := by decide +kernel
theorem dX9_same_113 : decode cX9_same 113 = .ok (.if_icmp .ne 7, 3) := by decide +kernel
theorem dX9_same_116 : decode cX9_same 116 = .ok (.iconst 1, 1) := by decide +kernel
theorem dX9_same_117 : decode cX9_same 117 = .ok (.goto 4, 3) := by decide +kernel
theorem dX9_same_120 : decode cX9_same 120 = .ok (.iconst 0, 1) := by decide +kernel
theorem dX9_same_121 : decode cX9_same 121 = .ok (.istore_n 2, 1) := by decide +kernel
theorem dX9_same_122 : decode cX9_same 122 = .ok (.iinc 3 1, 3) := by decide +kernel
theorem dX9_same_125 : decode cX9_same 125 = .ok (.goto (-41), 3) := by decide +kernel
theorem dX9_same_128 : decode cX9_same 128 = .ok (.iload_n 2, 1) := by decide +kernel
theorem dX9_same_129 : decode cX9_same 129 = .ok (.ifCond .eq 7, 3) := by decide +kernel
theorem dX9_same_132 : decode cX9_same 132 = .ok (.iconst 1, 1) := by decide +kernel
theorem dX9_same_133 : decode cX9_same 133 = .ok (.goto 4, 3) := by decide +kernel
theorem dX9_same_136 : decode cX9_same 136 = .ok (.iconst 0, 1) := by decide +kernel
theorem dX9_same_137 : decode cX9_same 137 = .ok (.ireturn, 1) := by decide +kernel
theorem dX9_count_0 : decode cX9_count 0 = .ok (.aload_n 0, 1) := by decide +kernel
theorem dX9_count_1 : decode cX9_count 1 = .ok (.iconst 0, 1) := by decide +kernel
theorem dX9_count_2 : decode cX9_count 2 = .ok (.putfield 54, 3) := by decide +kernel
theorem dX9_count_5 : decode cX9_count 5 = .ok (.iload_n 1, 1) := by decide +kernel
theorem dX9_count_6 : decode cX9_count 6 = .ok (.tableswitch 50 0 3 #[30, 35, 40, 45], 30) := by decide +kernel
theorem dX9_count_36 : decode cX9_count 36 = .ok (.aload_n 0, 1) := by decide +kernel
theorem dX9_count_37 : decode cX9_count 37 = .ok (.getfield 103, 3) := by decide +kernel
theorem dX9_count_40 : decode cX9_count 40 = .ok (.ireturn, 1) := by decide +kernel
theorem dX9_count_41 : decode cX9_count 41 = .ok (.aload_n 0, 1) := by decide +kernel
theorem dX9_count_42 : decode cX9_count 42 = .ok (.getfield 113, 3) := by decide +kernel
theorem dX9_count_45 : decode cX9_count 45 = .ok (.ireturn, 1) := by decide +kernel
theorem dX9_count_46 : decode cX9_count 46 = .ok (.aload_n 0, 1) := by decide +kernel
theorem dX9_count_47 : decode cX9_count 47 = .ok (.getfield 93, 3) := by decide +kernel
theorem dX9_count_50 : decode cX9_count 50 = .ok (.ireturn, 1) := by decide +kernel
theorem dX9_count_51 : decode cX9_count 51 = .ok (.aload_n 0, 1) := by decide +kernel
theorem dX9_count_52 : decode cX9_count 52 = .ok (.getfield 32, 3) := by decide +kernel
theorem dX9_count_55 : decode cX9_count 55 = .ok (.ireturn, 1) := by decide +kernel
theorem dX9_count_56 : decode cX9_count 56 = .ok (.iconst (-1), 1) := by decide +kernel
theorem dX9_count_57 : decode cX9_count 57 = .ok (.ireturn, 1) := by decide +kernel
theorem dJ9_floorMod_7cf53_0 : decode cJ9_floorMod_7cf53 0 = .ok (.iload_n 0, 1) := by decide +kernel
theorem dJ9_floorMod_7cf53_1 : decode cJ9_floorMod_7cf53 1 = .ok (.iload_n 1, 1) := by decide +kernel
theorem dJ9_floorMod_7cf53_2 : decode cJ9_floorMod_7cf53 2 = .ok (.irem, 1) := by decide +kernel
theorem dJ9_floorMod_7cf53_3 : decode cJ9_floorMod_7cf53 3 = .ok (.istore_n 2, 1) := by decide +kernel
theorem dJ9_floorMod_7cf53_4 : decode cJ9_floorMod_7cf53 4 = .ok (.iload_n 0, 1) := by decide +kernel
theorem dJ9_floorMod_7cf53_5 : decode cJ9_floorMod_7cf53 5 = .ok (.iload_n 1, 1) := by decide +kernel
theorem dJ9_floorMod_7cf53_6 : decode cJ9_floorMod_7cf53 6 = .ok (.ixor, 1) := by decide +kernel
theorem dJ9_floorMod_7cf53_7 : decode cJ9_floorMod_7cf53 7 = .ok (.ifCond .ge 11, 3) := by decide +kernel
theorem dJ9_floorMod_7cf53_10 : decode cJ9_floorMod_7cf53 10 = .ok (.iload_n 2, 1) := by decide +kernel
theorem dJ9_floorMod_7cf53_11 : decode cJ9_floorMod_7cf53 11 = .ok (.ifCond .eq 7, 3) := by decide +kernel
theorem dJ9_floorMod_7cf53_14 : decode cJ9_floorMod_7cf53 14 = .ok (.iload_n 2, 1) := by decide +kernel
theorem dJ9_floorMod_7cf53_15 : decode cJ9_floorMod_7cf53 15 = .ok (.iload_n 1, 1) := by decide +kernel
theorem dJ9_floorMod_7cf53_16 : decode cJ9_floorMod_7cf53 16 = .ok (.iadd, 1) := by decide +kernel
theorem dJ9_floorMod_7cf53_17 : decode cJ9_floorMod_7cf53 17 = .ok (.ireturn, 1) := by decide +kernel
theorem dJ9_floorMod_7cf53_18 : decode cJ9_floorMod_7cf53 18 = .ok (.iload_n 2, 1) := by decide +kernel
theorem dJ9_floorMod_7cf53_19 : decode cJ9_floorMod_7cf53 19 = .ok (.ireturn, 1) := by decide +kernel
theorem dJ9_max_7cf53_0 : decode cJ9_max_7cf53 0 = .ok (.iload_n 0, 1) := by decide +kernel
theorem dJ9_max_7cf53_1 : decode cJ9_max_7cf53 1 = .ok (.iload_n 1, 1) := by decide +kernel
theorem dJ9_max_7cf53_2 : decode cJ9_max_7cf53 2 = .ok (.if_icmp .lt 7, 3) := by decide +kernel
theorem dJ9_max_7cf53_5 : decode cJ9_max_7cf53 5 = .ok (.iload_n 0, 1) := by decide +kernel
theorem dJ9_max_7cf53_6 : decode cJ9_max_7cf53 6 = .ok (.goto 4, 3) := by decide +kernel
theorem dJ9_max_7cf53_9 : decode cJ9_max_7cf53 9 = .ok (.iload_n 1, 1) := by decide +kernel
theorem dJ9_max_7cf53_10 : decode cJ9_max_7cf53 10 = .ok (.ireturn, 1) := by decide +kernel
theorem dJ9_min_7cf53_0 : decode cJ9_min_7cf53 0 = .ok (.iload_n 0, 1) := by decide +kernel
theorem dJ9_min_7cf53_1 : decode cJ9_min_7cf53 1 = .ok (.iload_n 1, 1) := by decide +kernel
theorem dJ9_min_7cf53_2 : decode cJ9_min_7cf53 2 = .ok (.if_icmp .gt 7, 3) := by decide +kernel
theorem dJ9_min_7cf53_5 : decode cJ9_min_7cf53 5 = .ok (.iload_n 0, 1) := by decide +kernel
theorem dJ9_min_7cf53_6 : decode cJ9_min_7cf53 6 = .ok (.goto 4, 3) := by decide +kernel
theorem dJ9_min_7cf53_9 : decode cJ9_min_7cf53 9 = .ok (.iload_n 1, 1) := by decide +kernel
theorem dJ9_min_7cf53_10 : decode cJ9_min_7cf53 10 = .ok (.ireturn, 1) := by decide +kernel
set_option maxRecDepth 20000 in
theorem ggJ0_length_8abf5_J0_coder_7d493 : GoodIn wsJ0_length_8abf5 wsJ0_coder_7d493 := goodIn_r _ [6, 7, 8] (by decide +kernel) (by decide +kernel)
set_option maxRecDepth 20000 in
theorem gJ0_length_8abf5_J0_coder_7d493 : GoodIn wsJ0_length_8abf5 (wsV RJ0 335 RJ0 yJ0_coder_7d493 wsJ0_coder_7d493) := goodIn_app (goodIn_of _ (by decide +kernel)) ggJ0_length_8abf5_J0_coder_7d493
theorem dJ0_length_8abf5_0 : decode cJ0_length_8abf5 0 = .ok (.aload_n 0, 1) := by decide +kernel
theorem dJ0_length_8abf5_1 : decode cJ0_length_8abf5 1 = .ok (.getfield 9, 3) := by decide +kernel
theorem dJ0_length_8abf5_4 : decode cJ0_length_8abf5 4 = .ok (.arraylength, 1) := by decide +kernel
theorem dJ0_length_8abf5_5 : decode cJ0_length_8abf5 5 = .ok (.aload_n 0, 1) := by decide +kernel
theorem dJ0_length_8abf5_6 : decode cJ0_length_8abf5 6 = .ok (.invokevirtual 335, 3) := by decide +kernel
theorem dJ0_length_8abf5_9 : decode cJ0_length_8abf5 9 = .ok (.ishr, 1) := by decide +kernel
theorem dJ0_length_8abf5_10 : decode cJ0_length_8abf5 10 = .ok (.ireturn, 1) := by decide +kernel
set_option maxRecDepth 20000 in
theorem ggJ0_charAt_5068e_J0_isLatin1_aae02 : GoodIn wsJ0_charAt_5068e wsJ0_isLatin1_aae02 := goodIn_r _ [6, 7, 8] (by decide +kernel) (by decide +kernel)
set_option maxRecDepth 20000 in
theorem gJ0_charAt_5068e_J0_isLatin1_aae02 : GoodIn wsJ0_charAt_5068e (wsV RJ0 492 RJ0 yJ0_isLatin1_aae02 wsJ0_isLatin1_aae02) := goodIn_app (goodIn_of _ (by decide +kernel)) ggJ0_charAt_5068e_J0_isLatin1_aae02
set_option maxRecDepth 20000 in
theorem ggJ0_charAt_5068e_J1_charAt_3b067 : GoodIn wsJ0_charAt_5068e wsJ1_charAt_3b067 := goodIn_r _ [12, 13, 14, 5, 15, 16, 17, 18, 19, 20] (by decide +kernel) (by decide +kernel)
set_option maxRecDepth 20000 in
theorem gJ0_charAt_5068e_J1_charAt_3b067 : GoodIn wsJ0_charAt_5068e (va_wsS RJ0 495 yJ1_charAt_3b067 wsJ1_charAt_3b067) := goodIn_app (goodIn_of _ (by decide +kernel)) ggJ0_charAt_5068e_J1_charAt_3b067
set_option maxRecDepth 20000 in
theorem ggJ0_charAt_5068e_J2_charAt_3b067 : GoodIn wsJ0_charAt_5068e wsJ2_charAt_3b067 := goodIn_r _ [24, 25, 26, 23, 27, 28, 29, 30, 31, 14, 5, 15, 16, 17, 18, 19, 20, 32, 33, 34, 35, 36, 37] (by decide +kernel) (by decide +kernel)
set_option maxRecDepth 20000 in
theorem gJ0_charAt_5068e_J2_charAt_3b067 : GoodIn wsJ0_charAt_5068e (va_wsS RJ0 498 yJ2_charAt_3b067 wsJ2_charAt_3b067) := goodIn_app (goodIn_of _ (by decide +kernel)) ggJ0_charAt_5068e_J2_charAt_3b067
theorem dJ0_charAt_5068e_0 : decode cJ0_charAt_5068e 0 = .ok (.aload_n 0, 1) := by decide +kernel
theorem dJ0_charAt_5068e_1 : decode cJ0_charAt_5068e 1 = .ok (.invokevirtual 492, 3) := by decide +kernel
theorem dJ0_charAt_5068e_4 : decode cJ0_charAt_5068e 4 = .ok (.ifCond .eq 12, 3) := by decide +kernel
theorem dJ0_charAt_5068e_7 : decode cJ0_charAt_5068e 7 = .ok (.aload_n 0, 1) := by decide +kernel
theorem dJ0_charAt_5068e_8 : decode cJ0_charAt_5068e 8 = .ok (.getfield 9, 3) := by decide +kernel
theorem dJ0_charAt_5068e_11 : decode cJ0_charAt_5068e 11 = .ok (.iload_n 1, 1) := by decide +kernel
theorem dJ0_charAt_5068e_12 : decode cJ0_charAt_5068e 12 = .ok (.invokestatic 495, 3) := by decide +kernel
theorem dJ0_charAt_5068e_15 : decode cJ0_charAt_5068e 15 = .ok (.ireturn, 1) := by decide +kernel
theorem dJ0_charAt_5068e_16 : decode cJ0_charAt_5068e 16 = .ok (.aload_n 0, 1) := by decide +kernel
theorem dJ0_charAt_5068e_17 : decode cJ0_charAt_5068e 17 = .ok (.getfield 9, 3) := by decide +kernel
theorem dJ0_charAt_5068e_20 : decode cJ0_charAt_5068e 20 = .ok (.iload_n 1, 1) := by decide +kernel
theorem dJ0_charAt_5068e_21 : decode cJ0_charAt_5068e 21 = .ok (.invokestatic 498, 3) := by decide +kernel
theorem dJ0_charAt_5068e_24 : decode cJ0_charAt_5068e 24 = .ok (.ireturn, 1) := by decide +kernel
theorem dJ0_coder_7d493_0 : decode cJ0_coder_7d493 0 = .ok (.getstatic 38, 3) := by decide +kernel
theorem dJ0_coder_7d493_3 : decode cJ0_coder_7d493 3 = .ok (.ifCond .eq 10, 3) := by decide +kernel
theorem dJ0_coder_7d493_6 : decode cJ0_coder_7d493 6 = .ok (.aload_n 0, 1) := by decide +kernel
theorem dJ0_coder_7d493_7 : decode cJ0_coder_7d493 7 = .ok (.getfield 15, 3) := by decide +kernel
theorem dJ0_coder_7d493_10 : decode cJ0_coder_7d493 10 = .ok (.goto 4, 3) := by decide +kernel
theorem dJ0_coder_7d493_13 : decode cJ0_coder_7d493 13 = .ok (.iconst 1, 1) := by decide +kernel
theorem dJ0_coder_7d493_14 : decode cJ0_coder_7d493 14 = .ok (.ireturn, 1) := by decide +kernel
theorem dJ0_isLatin1_aae02_0 : decode cJ0_isLatin1_aae02 0 = .ok (.getstatic 38, 3) := by decide +kernel
theorem dJ0_isLatin1_aae02_3 : decode cJ0_isLatin1_aae02 3 = .ok (.ifCond .eq 14, 3) := by decide +kernel
theorem dJ0_isLatin1_aae02_6 : decode cJ0_isLatin1_aae02 6 = .ok (.aload_n 0, 1) := by decide +kernel
theorem dJ0_isLatin1_aae02_7 : decode cJ0_isLatin1_aae02 7 = .ok (.getfield 15, 3) := by decide +kernel
theorem dJ0_isLatin1_aae02_10 : decode cJ0_isLatin1_aae02 10 = .ok (.ifCond .ne 7, 3) := by decide +kernel
theorem dJ0_isLatin1_aae02_13 : decode cJ0_isLatin1_aae02 13 = .ok (.iconst 1, 1) := by decide +kernel
theorem dJ0_isLatin1_aae02_14 : decode cJ0_isLatin1_aae02 14 = .ok (.goto 4, 3) := by decide +kernel
theorem dJ0_isLatin1_aae02_17 : decode cJ0_isLatin1_aae02 17 = .ok (.iconst 0, 1) := by decide +kernel
theorem dJ0_isLatin1_aae02_18 : decode cJ0_isLatin1_aae02 18 = .ok (.ireturn, 1) := by decide +kernel
set_option maxRecDepth 20000 in
theorem ggJ0_checkIndex_df160_J3_checkIndex_8e157 : GoodIn wsJ0_checkIndex_df160 wsJ3_checkIndex_8e157 := goodIn_r _ [5] (by decide +kernel) (by decide +kernel)
set_option maxRecDepth 20000 in
theorem gJ0_checkIndex_df160_J3_checkIndex_8e157 : GoodIn wsJ0_checkIndex_df160 (va_wsS RJ0 1059 yJ3_checkIndex_8e157 wsJ3_checkIndex_8e157) := goodIn_app (goodIn_of _ (by decide +kernel)) ggJ0_checkIndex_df160_J3_checkIndex_8e157
theorem dJ0_checkIndex_df160_0 : decode cJ0_checkIndex_df160 0 = .ok (.iload_n 0, 1) := by decide +kernel
theorem dJ0_checkIndex_df160_1 : decode cJ0_checkIndex_df160 1 = .ok (.iload_n 1, 1) := by decide +kernel
theorem dJ0_checkIndex_df160_2 : decode cJ0_checkIndex_df160 2 = .ok (.getstatic 1053, 3) := by decide +kernel
theorem dJ0_checkIndex_df160_5 : decode cJ0_checkIndex_df160 5 = .ok (.invokestatic 1059, 3) := by decide +kernel
theorem dJ0_checkIndex_df160_8 : decode cJ0_checkIndex_df160 8 = .ok (.pop, 1) := by decide +kernel
theorem dJ0_checkIndex_df160_9 : decode cJ0_checkIndex_df160 9 = .ok (.return_, 1) := by decide +kernel
set_option maxRecDepth 20000 in
theorem ggJ1_charAt_3b067_J0_checkIndex_df160 : GoodIn wsJ1_charAt_3b067 wsJ0_checkIndex_df160 := goodIn_r _ [4, 5, 6, 7, 8, 9] (by decide +kernel) (by decide +kernel)
set_option maxRecDepth 20000 in
theorem gJ1_charAt_3b067_J0_checkIndex_df160 : GoodIn wsJ1_charAt_3b067 (va_wsS RJ1 9 yJ0_checkIndex_df160 wsJ0_checkIndex_df160) := goodIn_app (goodIn_of _ (by decide +kernel)) ggJ1_charAt_3b067_J0_checkIndex_df160
theorem dJ1_charAt_3b067_0 : decode cJ1_charAt_3b067 0 = .ok (.iload_n 1, 1) := by decide +kernel
theorem dJ1_charAt_3b067_1 : decode cJ1_charAt_3b067 1 = .ok (.aload_n 0, 1) := by decide +kernel
theorem dJ1_charAt_3b067_2 : decode cJ1_charAt_3b067 2 = .ok (.arraylength, 1) := by decide +kernel
theorem dJ1_charAt_3b067_3 : decode cJ1_charAt_3b067 3 = .ok (.invokestatic 9, 3) := by decide +kernel
theorem dJ1_charAt_3b067_6 : decode cJ1_charAt_3b067 6 = .ok (.aload_n 0, 1) := by decide +kernel
theorem dJ1_charAt_3b067_7 : decode cJ1_charAt_3b067 7 = .ok (.iload_n 1, 1) := by decide +kernel
theorem dJ1_charAt_3b067_8 : decode cJ1_charAt_3b067 8 = .ok (.baload, 1) := by decide +kernel
theorem dJ1_charAt_3b067_9 : decode cJ1_charAt_3b067 9 = .ok (.sipush 255, 3) := by decide +kernel
theorem dJ1_charAt_3b067_12 : decode cJ1_charAt_3b067 12 = .ok (.iand, 1) := by decide +kernel
theorem dJ1_charAt_3b067_13 : decode cJ1_charAt_3b067 13 = .ok (.i2c, 1) := by decide +kernel
theorem dJ1_charAt_3b067_14 : decode cJ1_charAt_3b067 14 = .ok (.ireturn, 1) := by decide +kernel
set_option maxRecDepth 20000 in
theorem ggJ2_getChar_3b067_J2_length_9d52b : GoodIn wsJ2_getChar_3b067 wsJ2_length_9d52b := goodIn_r _ [7] (by decide +kernel) (by decide +kernel)
set_option maxRecDepth 20000 in
theorem gJ2_getChar_3b067_J2_length_9d52b : GoodIn wsJ2_getChar_3b067 (va_wsS RJ2 48 yJ2_length_9d52b wsJ2_length_9d52b) := goodIn_app (goodIn_of _ (by decide +kernel)) ggJ2_getChar_3b067_J2_length_9d52b
theorem dJ2_getChar_3b067_0 : decode cJ2_getChar_3b067 0 = .ok (.getstatic 44, 3) := by decide +kernel
theorem dJ2_getChar_3b067_3 : decode cJ2_getChar_3b067 3 = .ok (.ifCond .ne 25, 3) := by decide +kernel
theorem dJ2_getChar_3b067_6 : decode cJ2_getChar_3b067 6 = .ok (.iload_n 1, 1) := by decide +kernel
theorem dJ2_getChar_3b067_7 : decode cJ2_getChar_3b067 7 = .ok (.ifCond .lt 11, 3) := by decide +kernel
theorem dJ2_getChar_3b067_10 : decode cJ2_getChar_3b067 10 = .ok (.iload_n 1, 1) := by decide +kernel
theorem dJ2_getChar_3b067_11 : decode cJ2_getChar_3b067 11 = .ok (.aload_n 0, 1) := by decide +kernel
theorem dJ2_getChar_3b067_12 : decode cJ2_getChar_3b067 12 = .ok (.invokestatic 48, 3) := by decide +kernel
theorem dJ2_getChar_3b067_15 : decode cJ2_getChar_3b067 15 = .ok (.if_icmp .lt 13, 3) := by decide +kernel
theorem dJ2_getChar_3b067_18 : decode cJ2_getChar_3b067 18 = .ok (.new 52, 3) := by decide +kernel
theorem dJ2_getChar_3b067_21 : decode cJ2_getChar_3b067 21 = .ok (.dup, 1) := by decide +kernel
theorem dJ2_getChar_3b067_22 : decode cJ2_getChar_3b067 22 = .ok (.ldc 54, 2) := by decide +kernel
theorem dJ2_getChar_3b067_24 : decode cJ2_getChar_3b067 24 = .ok (.invokespecial 56, 3) := by decide +kernel
theorem dJ2_getChar_3b067_27 : decode cJ2_getChar_3b067 27 = .ok (.athrow, 1) := by decide +kernel
theorem dJ2_getChar_3b067_28 : decode cJ2_getChar_3b067 28 = .ok (.iload_n 1, 1) := by decide +kernel
theorem dJ2_getChar_3b067_29 : decode cJ2_getChar_3b067 29 = .ok (.iconst 1, 1) := by decide +kernel
theorem dJ2_getChar_3b067_30 : decode cJ2_getChar_3b067 30 = .ok (.ishl, 1) := by decide +kernel
theorem dJ2_getChar_3b067_31 : decode cJ2_getChar_3b067 31 = .ok (.istore_n 1, 1) := by decide +kernel
theorem dJ2_getChar_3b067_32 : decode cJ2_getChar_3b067 32 = .ok (.aload_n 0, 1) := by decide +kernel
theorem dJ2_getChar_3b067_33 : decode cJ2_getChar_3b067 33 = .ok (.iload_n 1, 1) := by decide +kernel
theorem dJ2_getChar_3b067_34 : decode cJ2_getChar_3b067 34 = .ok (.iinc 1 1, 3) := by decide +kernel
theorem dJ2_getChar_3b067_37 : decode cJ2_getChar_3b067 37 = .ok (.baload, 1) := by decide +kernel
theorem dJ2_getChar_3b067_38 : decode cJ2_getChar_3b067 38 = .ok (.sipush 255, 3) := by decide +kernel
theorem dJ2_getChar_3b067_41 : decode cJ2_getChar_3b067 41 = .ok (.iand, 1) := by decide +kernel
theorem dJ2_getChar_3b067_42 : decode cJ2_getChar_3b067 42 = .ok (.getstatic 59, 3) := by decide +kernel
theorem dJ2_getChar_3b067_45 : decode cJ2_getChar_3b067 45 = .ok (.ishl, 1) := by decide +kernel
theorem dJ2_getChar_3b067_46 : decode cJ2_getChar_3b067 46 = .ok (.aload_n 0, 1) := by decide +kernel
theorem dJ2_getChar_3b067_47 : decode cJ2_getChar_3b067 47 = .ok (.iload_n 1, 1) := by decide +kernel
theorem dJ2_getChar_3b067_48 : decode cJ2_getChar_3b067 48 = .ok (.baload, 1) := by decide +kernel
theorem dJ2_getChar_3b067_49 : decode cJ2_getChar_3b067 49 = .ok (.sipush 255, 3) := by decide +kernel
theorem dJ2_getChar_3b067_52 : decode cJ2_getChar_3b067 52 = .ok (.iand, 1) := by decide +kernel
theorem dJ2_getChar_3b067_53 : decode cJ2_getChar_3b067 53 = .ok (.getstatic 63, 3) := by decide +kernel
theorem dJ2_getChar_3b067_56 : decode cJ2_getChar_3b067 56 = .ok (.ishl, 1) := by decide +kernel
theorem dJ2_getChar_3b067_57 : decode cJ2_getChar_3b067 57 = .ok (.ior, 1) := by decide +kernel
theorem dJ2_getChar_3b067_58 : decode cJ2_getChar_3b067 58 = .ok (.i2c, 1) := by decide +kernel
theorem dJ2_getChar_3b067_59 : decode cJ2_getChar_3b067 59 = .ok (.ireturn, 1) := by decide +kernel
theorem dJ2_length_9d52b_0 : decode cJ2_length_9d52b 0 = .ok (.aload_n 0, 1) := by decide +kernel
theorem dJ2_length_9d52b_1 : decode cJ2_length_9d52b 1 = .ok (.arraylength, 1) := by decide +kernel
theorem dJ2_length_9d52b_2 : decode cJ2_length_9d52b 2 = .ok (.iconst 1, 1) := by decide +kernel
theorem dJ2_length_9d52b_3 : decode cJ2_length_9d52b 3 = .ok (.ishr, 1) := by decide +kernel
theorem dJ2_length_9d52b_4 : decode cJ2_length_9d52b 4 = .ok (.ireturn, 1) := by decide +kernel
set_option maxRecDepth 20000 in
theorem ggJ2_charAt_3b067_J2_checkIndex_2214a : GoodIn wsJ2_charAt_3b067 wsJ2_checkIndex_2214a := goodIn_r _ [4, 5, 6, 3, 7, 8, 9, 10, 11, 12, 13, 14, 15, 16] (by decide +kernel) (by decide +kernel)
set_option maxRecDepth 20000 in
theorem gJ2_charAt_3b067_J2_checkIndex_2214a : GoodIn wsJ2_charAt_3b067 (va_wsS RJ2 67 yJ2_checkIndex_2214a wsJ2_checkIndex_2214a) := goodIn_app (goodIn_of _ (by decide +kernel)) ggJ2_charAt_3b067_J2_checkIndex_2214a
set_option maxRecDepth 20000 in
theorem ggJ2_charAt_3b067_J2_getChar_3b067 : GoodIn wsJ2_charAt_3b067 wsJ2_getChar_3b067 := goodIn_r _ [19, 20, 21, 22, 5, 6, 3, 7] (by decide +kernel) (by decide +kernel)
set_option maxRecDepth 20000 in
theorem gJ2_charAt_3b067_J2_getChar_3b067 : GoodIn wsJ2_charAt_3b067 (va_wsS RJ2 71 yJ2_getChar_3b067 wsJ2_getChar_3b067) := goodIn_app (goodIn_of _ (by decide +kernel)) ggJ2_charAt_3b067_J2_getChar_3b067
theorem dJ2_charAt_3b067_0 : decode cJ2_charAt_3b067 0 = .ok (.iload_n 1, 1) := by decide +kernel
theorem dJ2_charAt_3b067_1 : decode cJ2_charAt_3b067 1 = .ok (.aload_n 0, 1) := by decide +kernel
theorem dJ2_charAt_3b067_2 : decode cJ2_charAt_3b067 2 = .ok (.invokestatic 67, 3) := by decide +kernel
theorem dJ2_charAt_3b067_5 : decode cJ2_charAt_3b067 5 = .ok (.aload_n 0, 1) := by decide +kernel
theorem dJ2_charAt_3b067_6 : decode cJ2_charAt_3b067 6 = .ok (.iload_n 1, 1) := by decide +kernel
theorem dJ2_charAt_3b067_7 : decode cJ2_charAt_3b067 7 = .ok (.invokestatic 71, 3) := by decide +kernel
theorem dJ2_charAt_3b067_10 : decode cJ2_charAt_3b067 10 = .ok (.ireturn, 1) := by decide +kernel
set_option maxRecDepth 20000 in
theorem ggJ2_checkIndex_2214a_J2_length_9d52b : GoodIn wsJ2_checkIndex_2214a wsJ2_length_9d52b := goodIn_r _ [4] (by decide +kernel) (by decide +kernel)
set_option maxRecDepth 20000 in
theorem gJ2_checkIndex_2214a_J2_length_9d52b : GoodIn wsJ2_checkIndex_2214a (va_wsS RJ2 48 yJ2_length_9d52b wsJ2_length_9d52b) := goodIn_app (goodIn_of _ (by decide +kernel)) ggJ2_checkIndex_2214a_J2_length_9d52b
set_option maxRecDepth 20000 in
theorem ggJ2_checkIndex_2214a_J0_checkIndex_df160 : GoodIn wsJ2_checkIndex_2214a wsJ0_checkIndex_df160 := goodIn_r _ [8, 9, 10, 11, 12, 13] (by decide +kernel) (by decide +kernel)
set_option maxRecDepth 20000 in
theorem gJ2_checkIndex_2214a_J0_checkIndex_df160 : GoodIn wsJ2_checkIndex_2214a (va_wsS RJ2 414 yJ0_checkIndex_df160 wsJ0_checkIndex_df160) := goodIn_app (goodIn_of _ (by decide +kernel)) ggJ2_checkIndex_2214a_J0_checkIndex_df160
theorem dJ2_checkIndex_2214a_0 : decode cJ2_checkIndex_2214a 0 = .ok (.iload_n 0, 1) := by decide +kernel
theorem dJ2_checkIndex_2214a_1 : decode cJ2_checkIndex_2214a 1 = .ok (.aload_n 1, 1) := by decide +kernel
theorem dJ2_checkIndex_2214a_2 : decode cJ2_checkIndex_2214a 2 = .ok (.invokestatic 48, 3) := by decide +kernel
theorem dJ2_checkIndex_2214a_5 : decode cJ2_checkIndex_2214a 5 = .ok (.invokestatic 414, 3) := by decide +kernel
theorem dJ2_checkIndex_2214a_8 : decode cJ2_checkIndex_2214a 8 = .ok (.return_, 1) := by decide +kernel
theorem dJ3_checkIndex_8e157_0 : decode cJ3_checkIndex_8e157 0 = .ok (.iload_n 0, 1) := by decide +kernel
theorem dJ3_checkIndex_8e157_1 : decode cJ3_checkIndex_8e157 1 = .ok (.ifCond .lt 8, 3) := by decide +kernel
theorem dJ3_checkIndex_8e157_4 : decode cJ3_checkIndex_8e157 4 = .ok (.iload_n 0, 1) := by decide +kernel
theorem dJ3_checkIndex_8e157_5 : decode cJ3_checkIndex_8e157 5 = .ok (.iload_n 1, 1) := by decide +kernel
theorem dJ3_checkIndex_8e157_6 : decode cJ3_checkIndex_8e157 6 = .ok (.if_icmp .lt 10, 3) := by decide +kernel
theorem dJ3_checkIndex_8e157_9 : decode cJ3_checkIndex_8e157 9 = .ok (.aload_n 2, 1) := by decide +kernel
theorem dJ3_checkIndex_8e157_10 : decode cJ3_checkIndex_8e157 10 = .ok (.iload_n 0, 1) := by decide +kernel
theorem dJ3_checkIndex_8e157_11 : decode cJ3_checkIndex_8e157 11 = .ok (.iload_n 1, 1) := by decide +kernel
theorem dJ3_checkIndex_8e157_12 : decode cJ3_checkIndex_8e157 12 = .ok (.invokestatic 95, 3) := by decide +kernel
theorem dJ3_checkIndex_8e157_15 : decode cJ3_checkIndex_8e157 15 = .ok (.athrow, 1) := by decide +kernel
theorem dJ3_checkIndex_8e157_16 : decode cJ3_checkIndex_8e157 16 = .ok (.iload_n 0, 1) := by decide +kernel
theorem dJ3_checkIndex_8e157_17 : decode cJ3_checkIndex_8e157 17 = .ok (.ireturn, 1) := by decide +kernel
set_option maxRecDepth 20000 in
theorem ggL_part_X8_part : GoodIn wsL_part wsX8_part := goodIn_ca (goodIn_r _ [6, 7, 8, 9, 10, 11, 12, 13, 14, 15, 16, 17, 18, 19, 20, 21, 22, 23, 24, 25, 26, 27, 28, 29, 30, 31, 32, 33, 34, 35, 36, 37] (by decide +kernel) (by decide +kernel)) (goodIn_sub (fun _ h => List.mem_cons_of_mem _ (List.mem_append_right _ h)) (by decide +kernel))
set_option maxRecDepth 20000 in
theorem gL_part_X8_part : GoodIn wsL_part (wsV RL 7 RX8 yX8_part wsX8_part) := goodIn_app (goodIn_of _ (by decide +kernel)) ggL_part_X8_part
theorem dL_part_0 : decode cL_part 0 = .ok (.aload_n 3, 1) := by decide +kernel
theorem dL_part_1 : decode cL_part 1 = .ok (.iconst 0, 1) := by decide +kernel
theorem dL_part_2 : decode cL_part 2 = .ok (.aload_n 0, 1) := by decide +kernel
theorem dL_part_3 : decode cL_part 3 = .ok (.iload_n 1, 1) := by decide +kernel
theorem dL_part_4 : decode cL_part 4 = .ok (.iload_n 2, 1) := by decide +kernel
theorem dL_part_5 : decode cL_part 5 = .ok (.invokevirtual 7, 3) := by decide +kernel
theorem dL_part_8 : decode cL_part 8 = .ok (.i2l, 1) := by decide +kernel
theorem dL_part_9 : decode cL_part 9 = .ok (.lastore, 1) := by decide +kernel
theorem dL_part_10 : decode cL_part 10 = .ok (.goto 7, 3) := by decide +kernel
theorem dL_part_13 : decode cL_part 13 = .ok (.astore 4, 2) := by decide +kernel
theorem dL_part_15 : decode cL_part 15 = .ok (.iconst 1, 1) := by decide +kernel
theorem dL_part_16 : decode cL_part 16 = .ok (.ireturn, 1) := by decide +kernel
theorem dL_part_17 : decode cL_part 17 = .ok (.iconst 0, 1) := by decide +kernel
theorem dL_part_18 : decode cL_part 18 = .ok (.ireturn, 1) := by decide +kernel
set_option maxRecDepth 20000 in
theorem ggL_law_X8_init : GoodIn wsL_law wsX8_init := goodIn_r _ [9, 10, 11, 12, 13, 14, 15, 16, 17, 18, 19, 20, 21, 22, 23, 24, 25, 26, 27, 28, 29, 30, 31, 32, 33, 34, 35, 36, 37, 38, 39, 40, 41, 42, 43, 44, 45, 46, 47, 48, 49, 50, 51, 52, 53, 54, 55, 56, 57, 58, 59, 60, 61, 62, 63, 64, 65, 66, 67, 68, 69, 70, 71, 72, 73, 74, 75, 76, 77, 78, 79, 80, 81, 82, 83, 84, 85, 86, 87, 88, 89, 90, 91, 92, 93, 94, 809, 810, 774, 775, 776, 777, 778, 779, 780, 781, 811, 812, 813, 814, 815, 816, 817, 818, 819, 820, 821, 822, 823, 824, 825, 826, 827, 828, 829, 830, 831, 832, 833, 834, 835, 836, 837, 838, 839] (by decide +kernel) (by decide +kernel)
set_option maxRecDepth 20000 in
theorem gL_law_X8_init : GoodIn wsL_law (wsX8_init) := ggL_law_X8_init
set_option maxRecDepth 20000 in
theorem ggL_law_X9_init : GoodIn wsL_law wsX9_init := goodIn_r _ [97, 98, 11, 12, 99, 100, 101, 102, 40, 103, 104, 105, 106, 107, 108, 109, 110, 111, 112, 113, 782, 783, 784, 785, 786, 787, 788, 789, 790, 791, 792, 793, 794, 795, 796, 797, 798, 799, 800, 801, 802, 803, 804, 805, 806, 807, 808] (by decide +kernel) (by decide +kernel)
set_option maxRecDepth 20000 in
theorem gL_law_X9_init : GoodIn wsL_law (wsX9_init) := ggL_law_X9_init
set_option maxRecDepth 20000 in
theorem ggL_law_X8_feed : GoodIn wsL_law wsX8_feed := goodIn_r _ [117, 16, 118, 119, 15, 120, 121, 122, 123, 124, 42, 125, 126, 127, 128, 41, 774, 775, 776, 777, 778, 779, 780, 781, 809, 810] (by decide +kernel) (by decide +kernel)
set_option maxRecDepth 20000 in
theorem gL_law_X8_feed : GoodIn wsL_law (wsV RL 19 RX8 yX8_feed wsX8_feed) := goodIn_app (goodIn_of _ (by decide +kernel)) ggL_law_X8_feed
set_option maxRecDepth 20000 in
theorem ggL_law_X9_feed : GoodIn wsL_law wsX9_feed := goodIn_r _ [132, 133, 134, 135, 136, 5, 137, 138, 139, 140, 141, 100, 782, 783, 784, 785, 786, 787, 788, 789, 790, 791, 792, 793, 794, 795, 796, 797, 798, 799, 800, 801, 802, 803, 804, 805, 806, 807, 808] (by decide +kernel) (by decide +kernel)
set_option maxRecDepth 20000 in
theorem gL_law_X9_feed : GoodIn wsL_law (wsV RL 22 RX9 yX9_feed wsX9_feed) := goodIn_app (goodIn_of _ (by decide +kernel)) ggL_law_X9_feed
set_option maxRecDepth 20000 in
theorem ggL_law_X8_end : GoodIn wsL_law wsX8_end := goodIn_r _ [145, 16, 146, 147, 148, 15, 149, 42, 774, 775, 776, 777, 778, 779, 780, 781, 809, 810] (by decide +kernel) (by decide +kernel)
set_option maxRecDepth 20000 in
theorem gL_law_X8_end : GoodIn wsL_law (wsV RL 23 RX8 yX8_end wsX8_end) := goodIn_app (goodIn_of _ (by decide +kernel)) ggL_law_X8_end
set_option maxRecDepth 20000 in
theorem ggL_law_X9_end : GoodIn wsL_law wsX9_end := goodIn_r _ [153, 133, 134, 782, 783, 784, 785, 786, 787, 788, 789, 790, 791, 792, 793, 794, 795, 796, 797, 798, 799, 800, 801, 802, 803, 804, 805, 806, 807, 808] (by decide +kernel) (by decide +kernel)
set_option maxRecDepth 20000 in
theorem gL_law_X9_end : GoodIn wsL_law (wsV RL 27 RX9 yX9_end wsX9_end) := goodIn_app (goodIn_of _ (by decide +kernel)) ggL_law_X9_end
set_option maxRecDepth 20000 in
theorem ggL_law_X8_style : GoodIn wsL_law wsX8_style := goodIn_r _ [157, 20, 16, 29, 35, 158, 159, 2, 160, 161, 162, 163, 19, 164, 56, 55, 165, 166, 167, 15, 168, 169, 170, 171, 172, 42, 41, 173, 174, 175, 176, 177, 178, 179, 180, 54, 181, 182, 122, 123, 124, 183, 184, 185, 186, 187, 147, 148, 149, 188, 189, 190, 28, 191, 82, 774, 775, 776, 777, 778, 779, 780, 781, 811, 812, 813, 809, 810, 821, 822, 823, 824, 825, 826, 827, 828] (by decide +kernel) (by decide +kernel)
set_option maxRecDepth 20000 in
theorem gL_law_X8_style : GoodIn wsL_law (wsV RL 28 RX8 yX8_style wsX8_style) := goodIn_app (goodIn_of _ (by decide +kernel)) ggL_law_X8_style
set_option maxRecDepth 20000 in
theorem ggL_law_X9_style : GoodIn wsL_law wsX9_style := goodIn_r _ [195, 133, 196, 134, 101, 100, 103, 104, 197, 198, 5, 199, 200, 201, 202, 203, 204, 205, 206, 207, 782, 783, 784, 785, 786, 787, 788, 789, 790, 791, 792, 793, 794, 795, 796, 797, 798, 799, 800, 801, 802, 803, 804, 805, 806, 807, 808] (by decide +kernel) (by decide +kernel)
set_option maxRecDepth 20000 in
theorem gL_law_X9_style : GoodIn wsL_law (wsV RL 32 RX9 yX9_style wsX9_style) := goodIn_app (goodIn_of _ (by decide +kernel)) ggL_law_X9_style
set_option maxRecDepth 20000 in
theorem ggL_law_X8_row : GoodIn wsL_law wsX8_row := goodIn_r _ [211, 21, 16, 25, 35, 161, 162, 163, 19, 164, 56, 55, 212, 174, 175, 15, 176, 42, 41, 177, 178, 179, 180, 54, 181, 182, 122, 123, 124, 183, 184, 185, 186, 187, 147, 148, 149, 213, 214, 215, 24, 216, 69, 774, 775, 776, 777, 778, 779, 780, 781, 811, 812, 813, 809, 810, 814, 815, 816, 817, 818, 819, 820] (by decide +kernel) (by decide +kernel)
set_option maxRecDepth 20000 in
theorem gL_law_X8_row : GoodIn wsL_law (wsV RL 33 RX8 yX8_row wsX8_row) := goodIn_app (goodIn_of _ (by decide +kernel)) ggL_law_X8_row
set_option maxRecDepth 20000 in
theorem ggL_law_X9_row : GoodIn wsL_law wsX9_row := goodIn_r _ [220, 133, 221, 134, 102, 100, 105, 200, 201, 202, 5, 203, 197, 198, 199, 782, 783, 784, 785, 786, 787, 788, 789, 790, 791, 792, 793, 794, 795, 796, 797, 798, 799, 800, 801, 802, 803, 804, 805, 806, 807, 808] (by decide +kernel) (by decide +kernel)
set_option maxRecDepth 20000 in
theorem gL_law_X9_row : GoodIn wsL_law (wsV RL 37 RX9 yX9_row wsX9_row) := goodIn_app (goodIn_of _ (by decide +kernel)) ggL_law_X9_row
set_option maxRecDepth 20000 in
theorem ggL_law_X8_clear : GoodIn wsL_law wsX8_clear := goodIn_r _ [225, 21, 35, 226, 227, 228, 19, 229, 56, 774, 775, 776, 777, 778, 779, 780, 781, 811, 812, 813] (by decide +kernel) (by decide +kernel)
set_option maxRecDepth 20000 in
theorem gL_law_X8_clear : GoodIn wsL_law (wsV RL 38 RX8 yX8_clear wsX8_clear) := goodIn_app (goodIn_of _ (by decide +kernel)) ggL_law_X8_clear
set_option maxRecDepth 20000 in
theorem ggL_law_X9_clear : GoodIn wsL_law wsX9_clear := goodIn_r _ [233, 133, 221, 782, 783, 784, 785, 786, 787, 788, 789, 790, 791, 792, 793, 794, 795, 796, 797, 798, 799, 800, 801, 802, 803, 804, 805, 806, 807, 808] (by decide +kernel) (by decide +kernel)
set_option maxRecDepth 20000 in
theorem gL_law_X9_clear : GoodIn wsL_law (wsV RL 41 RX9 yX9_clear wsX9_clear) := goodIn_app (goodIn_of _ (by decide +kernel)) ggL_law_X9_clear
set_option maxRecDepth 20000 in
theorem ggL_law_X8_window : GoodIn wsL_law wsX8_window := goodIn_r _ [237, 34, 35, 774, 775, 776, 777, 778, 779, 780, 781] (by decide +kernel) (by decide +kernel)
set_option maxRecDepth 20000 in
theorem gL_law_X8_window : GoodIn wsL_law (wsV RL 42 RX8 yX8_window wsX8_window) := goodIn_app (goodIn_of _ (by decide +kernel)) ggL_law_X8_window
set_option maxRecDepth 20000 in
theorem ggL_law_X9_window : GoodIn wsL_law wsX9_window := goodIn_r _ [241, 133, 107, 197, 198, 5, 199, 782, 783, 784, 785, 786, 787, 788, 789, 790, 791, 792, 793, 794, 795, 796, 797, 798, 799, 800, 801, 802, 803, 804, 805, 806, 807, 808] (by decide +kernel) (by decide +kernel)
set_option maxRecDepth 20000 in
theorem gL_law_X9_window : GoodIn wsL_law (wsV RL 45 RX9 yX9_window wsX9_window) := goodIn_app (goodIn_of _ (by decide +kernel)) ggL_law_X9_window
set_option maxRecDepth 20000 in
theorem ggL_law_X8_price : GoodIn wsL_law wsX8_price := goodIn_r _ [245, 29, 35, 158, 159, 2, 160, 246, 247, 248, 28, 249, 83, 774, 775, 776, 777, 778, 779, 780, 781, 821, 822, 823, 824, 825, 826, 827, 828] (by decide +kernel) (by decide +kernel)
set_option maxRecDepth 20000 in
theorem gL_law_X8_price : GoodIn wsL_law (wsV RL 46 RX8 yX8_price wsX8_price) := goodIn_app (goodIn_of _ (by decide +kernel)) ggL_law_X8_price
set_option maxRecDepth 20000 in
theorem ggL_law_X9_price : GoodIn wsL_law wsX9_price := goodIn_r _ [253, 133, 106, 197, 198, 5, 199, 782, 783, 784, 785, 786, 787, 788, 789, 790, 791, 792, 793, 794, 795, 796, 797, 798, 799, 800, 801, 802, 803, 804, 805, 806, 807, 808] (by decide +kernel) (by decide +kernel)
set_option maxRecDepth 20000 in
theorem gL_law_X9_price : GoodIn wsL_law (wsV RL 50 RX9 yX9_price wsX9_price) := goodIn_app (goodIn_of _ (by decide +kernel)) ggL_law_X9_price
set_option maxRecDepth 20000 in
theorem ggL_law_X8_read : GoodIn wsL_law wsX8_read := goodIn_r _ [257, 21, 20, 25, 34, 258, 259, 260, 19, 261, 56, 262, 263, 264, 24, 265, 61, 266, 48, 49, 50, 70, 69, 66, 62, 67, 68, 267, 268, 269, 270, 271, 272, 273, 65, 274, 275, 76, 75, 276, 277, 278, 279, 55, 280, 281, 282, 283, 284, 54, 285, 286, 287, 288, 289, 290, 291, 292, 293, 294, 295, 296, 297, 298, 299, 300, 301, 302, 303, 304, 305, 306, 307, 308, 309, 310, 311, 312, 313, 314, 315, 316, 317, 318, 319, 320, 321, 322, 323, 324, 325, 326, 327, 328, 329, 330, 331, 332, 333, 334, 335, 336, 337, 338, 339, 340, 341, 342, 343, 344, 345, 346, 347, 348, 349, 350, 351, 352, 353, 354, 355, 356, 357, 358, 359, 360, 361, 362, 363, 364, 365, 774, 775, 776, 777, 778, 779, 780, 781, 811, 812, 813, 814, 815, 816, 817, 818, 819, 820, 831, 832, 833, 834, 835, 836, 837, 838, 839] (by decide +kernel) (by decide +kernel)
set_option maxRecDepth 20000 in
theorem gL_law_X8_read : GoodIn wsL_law (wsV RL 51 RX8 yX8_read wsX8_read) := goodIn_app (goodIn_of _ (by decide +kernel)) ggL_law_X8_read
set_option maxRecDepth 20000 in
theorem ggL_law_X9_read : GoodIn wsL_law wsX9_read := goodIn_r _ [369, 133, 196, 370, 371, 372, 373, 374, 5, 375, 221, 197, 198, 199, 376, 377, 378, 379, 380, 381, 103, 101, 107, 105, 382, 52, 49, 53, 383, 384, 385, 386, 387, 388, 389, 390, 102, 391, 392, 393, 394, 395, 324, 325, 326, 396, 397, 398, 399, 400, 401, 402, 403, 404, 405, 406, 407, 408, 409, 410, 411, 412, 413, 414, 415, 416, 417, 418, 419, 420, 421, 422, 423, 424, 425, 426, 427, 428, 429, 430, 431, 432, 433, 434, 435, 436, 437, 438, 439, 440, 441, 442, 443, 444, 445, 446, 447, 448, 449, 450, 451, 452, 453, 454, 455, 456, 457, 458, 459, 460, 782, 783, 784, 785, 786, 787, 788, 789, 790, 791, 792, 793, 794, 795, 796, 797, 798, 799, 800, 801, 802, 803, 804, 805, 806, 807, 808] (by decide +kernel) (by decide +kernel)
set_option maxRecDepth 20000 in
theorem gL_law_X9_read : GoodIn wsL_law (wsV RL 55 RX9 yX9_read wsX9_read) := goodIn_app (goodIn_of _ (by decide +kernel)) ggL_law_X9_read
set_option maxRecDepth 20000 in
theorem ggL_law_X8_readings : GoodIn wsL_law wsX8_readings := goodIn_r _ [464, 21, 25, 34, 258, 259, 260, 19, 261, 56, 262, 263, 264, 24, 265, 61, 266, 48, 49, 50, 70, 69, 66, 62, 67, 68, 267, 268, 269, 270, 271, 272, 273, 65, 274, 275, 76, 75, 276, 277, 278, 279, 55, 280, 281, 282, 283, 284, 54, 285, 286, 287, 288, 289, 290, 291, 292, 293, 294, 295, 296, 297, 298, 299, 300, 301, 302, 303, 304, 305, 306, 307, 308, 309, 310, 311, 312, 313, 314, 315, 316, 317, 318, 319, 320, 321, 322, 323, 324, 325, 326, 327, 328, 329, 330, 331, 332, 333, 334, 335, 336, 337, 338, 339, 340, 341, 342, 343, 344, 345, 346, 347, 348, 349, 350, 351, 352, 353, 354, 355, 356, 357, 358, 359, 360, 361, 465, 466, 467, 468, 469, 470, 471, 472, 473, 363, 364, 365, 474, 475, 476, 477, 478, 479, 480, 481, 774, 775, 776, 777, 778, 779, 780, 781, 811, 812, 813, 814, 815, 816, 817, 818, 819, 820, 831, 832, 833, 834, 835, 836, 837, 838, 839] (by decide +kernel) (by decide +kernel)
set_option maxRecDepth 20000 in
theorem gL_law_X8_readings : GoodIn wsL_law (wsV RL 56 RX8 yX8_readings wsX8_readings) := goodIn_app (goodIn_of _ (by decide +kernel)) ggL_law_X8_readings
set_option maxRecDepth 20000 in
theorem ggL_law_X9_readings : GoodIn wsL_law wsX9_readings := goodIn_r _ [485, 133, 196, 108, 372, 373, 374, 5, 375, 221, 486, 487, 488, 489, 370, 109, 371, 376, 377, 378, 379, 380, 381, 103, 101, 107, 105, 382, 52, 49, 53, 383, 384, 385, 386, 387, 388, 389, 390, 102, 197, 198, 199, 391, 392, 393, 394, 395, 324, 325, 326, 396, 397, 398, 399, 400, 401, 402, 403, 404, 405, 406, 407, 408, 409, 410, 411, 412, 413, 414, 415, 416, 417, 418, 419, 420, 421, 422, 423, 424, 425, 426, 427, 428, 429, 430, 431, 432, 433, 434, 435, 436, 437, 438, 439, 440, 441, 442, 443, 444, 445, 446, 447, 448, 449, 450, 451, 452, 453, 454, 455, 456, 457, 458, 459, 460, 490, 491, 492, 493, 782, 783, 784, 785, 786, 787, 788, 789, 790, 791, 792, 793, 794, 795, 796, 797, 798, 799, 800, 801, 802, 803, 804, 805, 806, 807, 808] (by decide +kernel) (by decide +kernel)
set_option maxRecDepth 20000 in
theorem gL_law_X9_readings : GoodIn wsL_law (wsV RL 59 RX9 yX9_readings wsX9_readings) := goodIn_app (goodIn_of _ (by decide +kernel)) ggL_law_X9_readings
set_option maxRecDepth 20000 in
theorem ggL_law_X8_cost : GoodIn wsL_law wsX8_cost := goodIn_r _ [497, 29, 498, 499, 500, 2, 501, 20, 21, 35, 25, 34, 502, 268, 269, 19, 270, 56, 262, 263, 264, 24, 265, 61, 266, 48, 49, 50, 70, 69, 66, 62, 67, 68, 267, 271, 272, 273, 65, 274, 275, 76, 75, 276, 277, 278, 279, 55, 280, 259, 260, 261, 281, 282, 283, 284, 54, 285, 286, 287, 288, 289, 290, 291, 292, 293, 294, 295, 296, 297, 298, 299, 300, 301, 302, 303, 304, 305, 306, 307, 308, 309, 310, 311, 312, 313, 314, 315, 316, 317, 318, 319, 320, 321, 322, 323, 324, 325, 326, 327, 328, 329, 330, 331, 332, 333, 334, 335, 336, 337, 338, 339, 340, 341, 342, 343, 344, 345, 346, 347, 348, 349, 350, 351, 352, 353, 354, 355, 356, 357, 358, 359, 360, 361, 503, 504, 505, 28, 506, 507, 508, 52, 53, 87, 88, 86, 509, 510, 511, 512, 82, 84, 513, 514, 515, 516, 81, 83, 517, 363, 364, 365, 518, 519, 520, 521, 522, 523, 524, 525, 526, 527, 528, 529, 85, 530, 531, 532, 533, 534, 535, 536, 537, 538, 539, 540, 541, 542, 543, 544, 545, 774, 775, 776, 777, 778, 779, 780, 781, 811, 812, 813, 814, 815, 816, 817, 818, 819, 820, 831, 832, 833, 834, 835, 836, 837, 838, 839, 821, 822, 823, 824, 825, 826, 827, 828] (by decide +kernel) (by decide +kernel)
set_option maxRecDepth 20000 in
theorem gL_law_X8_cost : GoodIn wsL_law (wsV RL 60 RX8 yX8_cost wsX8_cost) := goodIn_app (goodIn_of _ (by decide +kernel)) ggL_law_X8_cost
set_option maxRecDepth 20000 in
theorem ggL_law_X9_cost : GoodIn wsL_law wsX9_cost := goodIn_r _ [549, 550, 551, 552, 553, 5, 554, 133, 196, 221, 104, 555, 110, 556, 48, 49, 50, 111, 112, 486, 487, 488, 489, 108, 370, 109, 371, 376, 377, 378, 379, 380, 381, 103, 101, 107, 105, 382, 52, 53, 383, 384, 385, 386, 387, 388, 389, 390, 102, 197, 198, 199, 391, 392, 393, 394, 395, 324, 325, 326, 396, 397, 398, 399, 400, 401, 402, 403, 404, 405, 406, 407, 408, 409, 410, 411, 412, 413, 414, 415, 416, 417, 418, 419, 420, 421, 422, 423, 424, 425, 426, 427, 428, 429, 430, 431, 432, 433, 434, 435, 436, 437, 438, 439, 440, 441, 442, 443, 444, 445, 446, 447, 448, 449, 450, 451, 452, 453, 454, 455, 456, 457, 458, 459, 460, 557, 558, 559, 560, 106, 561, 562, 563, 564, 782, 783, 784, 785, 786, 787, 788, 789, 790, 791, 792, 793, 794, 795, 796, 797, 798, 799, 800, 801, 802, 803, 804, 805, 806, 807, 808] (by decide +kernel) (by decide +kernel)
set_option maxRecDepth 20000 in
theorem gL_law_X9_cost : GoodIn wsL_law (wsV RL 63 RX9 yX9_cost wsX9_cost) := goodIn_app (goodIn_of _ (by decide +kernel)) ggL_law_X9_cost
set_option maxRecDepth 20000 in
theorem ggL_law_X8_told : GoodIn wsL_law wsX8_told := goodIn_r _ [568, 21, 29, 498, 499, 500, 2, 501, 20, 35, 25, 34, 502, 268, 269, 19, 270, 56, 262, 263, 264, 24, 265, 61, 266, 48, 49, 50, 70, 69, 66, 62, 67, 68, 267, 271, 272, 273, 65, 274, 275, 76, 75, 276, 277, 278, 279, 55, 280, 259, 260, 261, 281, 282, 283, 284, 54, 285, 286, 287, 288, 289, 290, 291, 292, 293, 294, 295, 296, 297, 298, 299, 300, 301, 302, 303, 304, 305, 306, 307, 308, 309, 310, 311, 312, 313, 314, 315, 316, 317, 318, 319, 320, 321, 322, 323, 324, 325, 326, 327, 328, 329, 330, 331, 332, 333, 334, 335, 336, 337, 338, 339, 340, 341, 342, 343, 344, 345, 346, 347, 348, 349, 350, 351, 352, 353, 354, 355, 356, 357, 358, 359, 360, 361, 503, 504, 505, 28, 506, 507, 508, 52, 53, 87, 88, 86, 509, 510, 511, 512, 82, 84, 513, 514, 515, 516, 81, 83, 517, 363, 364, 365, 518, 519, 520, 521, 522, 523, 524, 525, 526, 527, 528, 529, 85, 530, 531, 532, 533, 258, 569, 539, 540, 541, 774, 775, 776, 777, 778, 779, 780, 781, 811, 812, 813, 814, 815, 816, 817, 818, 819, 820, 831, 832, 833, 834, 835, 836, 837, 838, 839, 821, 822, 823, 824, 825, 826, 827, 828] (by decide +kernel) (by decide +kernel)
set_option maxRecDepth 20000 in
theorem gL_law_X8_told : GoodIn wsL_law (wsV RL 64 RX8 yX8_told wsX8_told) := goodIn_app (goodIn_of _ (by decide +kernel)) ggL_law_X8_told
set_option maxRecDepth 20000 in
theorem ggL_law_X9_told : GoodIn wsL_law wsX9_told := goodIn_r _ [573, 112, 551, 552, 553, 5, 554, 133, 196, 221, 104, 555, 110, 556, 48, 49, 50, 111, 550, 486, 487, 488, 489, 108, 370, 109, 371, 376, 377, 378, 379, 380, 381, 103, 101, 107, 105, 382, 52, 53, 383, 384, 385, 386, 387, 388, 389, 390, 102, 197, 198, 199, 391, 392, 393, 394, 395, 324, 325, 326, 396, 397, 398, 399, 400, 401, 402, 403, 404, 405, 406, 407, 408, 409, 410, 411, 412, 413, 414, 415, 416, 417, 418, 419, 420, 421, 422, 423, 424, 425, 426, 427, 428, 429, 430, 431, 432, 433, 434, 435, 436, 437, 438, 439, 440, 441, 442, 443, 444, 445, 446, 447, 448, 449, 450, 451, 452, 453, 454, 455, 456, 457, 458, 459, 460, 557, 558, 559, 560, 106, 561, 562, 563, 564, 372, 373, 374, 375, 782, 783, 784, 785, 786, 787, 788, 789, 790, 791, 792, 793, 794, 795, 796, 797, 798, 799, 800, 801, 802, 803, 804, 805, 806, 807, 808] (by decide +kernel) (by decide +kernel)
set_option maxRecDepth 20000 in
theorem gL_law_X9_told : GoodIn wsL_law (wsV RL 67 RX9 yX9_told wsX9_told) := goodIn_app (goodIn_of _ (by decide +kernel)) ggL_law_X9_told
set_option maxRecDepth 20000 in
theorem ggL_law_X8_day : GoodIn wsL_law wsX8_day := goodIn_r _ [577, 21, 25, 29, 498, 499, 500, 2, 501, 20, 35, 34, 502, 268, 269, 19, 270, 56, 262, 263, 264, 24, 265, 61, 266, 48, 49, 50, 70, 69, 66, 62, 67, 68, 267, 271, 272, 273, 65, 274, 275, 76, 75, 276, 277, 278, 279, 55, 280, 259, 260, 261, 281, 282, 283, 284, 54, 285, 286, 287, 288, 289, 290, 291, 292, 293, 294, 295, 296, 297, 298, 299, 300, 301, 302, 303, 304, 305, 306, 307, 308, 309, 310, 311, 312, 313, 314, 315, 316, 317, 318, 319, 320, 321, 322, 323, 324, 325, 326, 327, 328, 329, 330, 331, 332, 333, 334, 335, 336, 337, 338, 339, 340, 341, 342, 343, 344, 345, 346, 347, 348, 349, 350, 351, 352, 353, 354, 355, 356, 357, 358, 359, 360, 361, 503, 504, 505, 28, 506, 507, 508, 52, 53, 87, 88, 86, 509, 510, 511, 512, 82, 84, 513, 514, 515, 516, 81, 83, 517, 363, 364, 365, 518, 519, 520, 521, 522, 523, 524, 525, 526, 527, 528, 529, 85, 530, 531, 532, 533, 258, 569, 539, 540, 541, 362, 774, 775, 776, 777, 778, 779, 780, 781, 811, 812, 813, 814, 815, 816, 817, 818, 819, 820, 831, 832, 833, 834, 835, 836, 837, 838, 839, 821, 822, 823, 824, 825, 826, 827, 828] (by decide +kernel) (by decide +kernel)
set_option maxRecDepth 20000 in
theorem gL_law_X8_day : GoodIn wsL_law (wsV RL 68 RX8 yX8_day wsX8_day) := goodIn_app (goodIn_of _ (by decide +kernel)) ggL_law_X8_day
set_option maxRecDepth 20000 in
theorem ggL_law_X9_day : GoodIn wsL_law wsX9_day := goodIn_r _ [581, 108, 112, 109, 551, 552, 553, 5, 554, 133, 196, 221, 104, 555, 110, 556, 48, 49, 50, 111, 550, 486, 487, 488, 489, 370, 371, 376, 377, 378, 379, 380, 381, 103, 101, 107, 105, 382, 52, 53, 383, 384, 385, 386, 387, 388, 389, 390, 102, 197, 198, 199, 391, 392, 393, 394, 395, 324, 325, 326, 396, 397, 398, 399, 400, 401, 402, 403, 404, 405, 406, 407, 408, 409, 410, 411, 412, 413, 414, 415, 416, 417, 418, 419, 420, 421, 422, 423, 424, 425, 426, 427, 428, 429, 430, 431, 432, 433, 434, 435, 436, 437, 438, 439, 440, 441, 442, 443, 444, 445, 446, 447, 448, 449, 450, 451, 452, 453, 454, 455, 456, 457, 458, 459, 460, 557, 558, 559, 560, 106, 561, 562, 563, 564, 372, 373, 374, 375, 782, 783, 784, 785, 786, 787, 788, 789, 790, 791, 792, 793, 794, 795, 796, 797, 798, 799, 800, 801, 802, 803, 804, 805, 806, 807, 808] (by decide +kernel) (by decide +kernel)
set_option maxRecDepth 20000 in
theorem gL_law_X9_day : GoodIn wsL_law (wsV RL 71 RX9 yX9_day wsX9_day) := goodIn_app (goodIn_of _ (by decide +kernel)) ggL_law_X9_day
set_option maxRecDepth 20000 in
theorem ggL_law_X8_kind : GoodIn wsL_law wsX8_kind := goodIn_r _ [585, 21, 498, 499, 500, 2, 501, 20, 35, 25, 34, 29, 502, 268, 269, 19, 270, 56, 262, 263, 264, 24, 265, 61, 266, 48, 49, 50, 70, 69, 66, 62, 67, 68, 267, 271, 272, 273, 65, 274, 275, 76, 75, 276, 277, 278, 279, 55, 280, 259, 260, 261, 281, 282, 283, 284, 54, 285, 286, 287, 288, 289, 290, 291, 292, 293, 294, 295, 296, 297, 298, 299, 300, 301, 302, 303, 304, 305, 306, 307, 308, 309, 310, 311, 312, 313, 314, 315, 316, 317, 318, 319, 320, 321, 322, 323, 324, 325, 326, 327, 328, 329, 330, 331, 332, 333, 334, 335, 336, 337, 338, 339, 340, 341, 342, 343, 344, 345, 346, 347, 348, 349, 350, 351, 352, 353, 354, 355, 356, 357, 358, 359, 360, 361, 503, 504, 505, 28, 506, 507, 508, 52, 53, 87, 88, 86, 509, 510, 511, 512, 82, 84, 513, 514, 515, 516, 81, 83, 517, 363, 364, 365, 518, 519, 520, 521, 522, 523, 524, 525, 526, 527, 528, 529, 85, 530, 531, 532, 533, 258, 586, 587, 588, 589, 590, 591, 592, 593, 569, 539, 540, 541, 594, 470, 471, 472, 473, 465, 466, 467, 468, 469, 474, 475, 476, 477, 478, 479, 480, 481, 595, 596, 597, 598, 538, 599, 542, 543, 544, 545, 534, 535, 536, 537, 774, 775, 776, 777, 778, 779, 780, 781, 811, 812, 813, 814, 815, 816, 817, 818, 819, 820, 831, 832, 833, 834, 835, 836, 837, 838, 839, 821, 822, 823, 824, 825, 826, 827, 828] (by decide +kernel) (by decide +kernel)
set_option maxRecDepth 20000 in
theorem gL_law_X8_kind : GoodIn wsL_law (wsV RL 72 RX8 yX8_kind wsX8_kind) := goodIn_app (goodIn_of _ (by decide +kernel)) ggL_law_X8_kind
set_option maxRecDepth 20000 in
theorem ggL_law_X9_kind : GoodIn wsL_law wsX9_kind := goodIn_r _ [603, 551, 552, 553, 5, 554, 133, 196, 221, 104, 555, 110, 556, 48, 49, 50, 111, 550, 112, 486, 487, 488, 489, 108, 370, 109, 371, 376, 377, 378, 379, 380, 381, 103, 101, 107, 105, 382, 52, 53, 383, 384, 385, 386, 387, 388, 389, 390, 102, 197, 198, 199, 391, 392, 393, 394, 395, 324, 325, 326, 396, 397, 398, 399, 400, 401, 402, 403, 404, 405, 406, 407, 408, 409, 410, 411, 412, 413, 414, 415, 416, 417, 418, 419, 420, 421, 422, 423, 424, 425, 426, 427, 428, 429, 430, 431, 432, 433, 434, 435, 436, 437, 438, 439, 440, 441, 442, 443, 444, 445, 446, 447, 448, 449, 450, 451, 452, 453, 454, 455, 456, 457, 458, 459, 460, 557, 558, 559, 560, 106, 561, 562, 563, 564, 372, 373, 374, 375, 604, 605, 606, 607, 490, 491, 492, 493, 608, 609, 610, 611, 612, 613, 614, 615, 782, 783, 784, 785, 786, 787, 788, 789, 790, 791, 792, 793, 794, 795, 796, 797, 798, 799, 800, 801, 802, 803, 804, 805, 806, 807, 808] (by decide +kernel) (by decide +kernel)
set_option maxRecDepth 20000 in
theorem gL_law_X9_kind : GoodIn wsL_law (wsV RL 75 RX9 yX9_kind wsX9_kind) := goodIn_app (goodIn_of _ (by decide +kernel)) ggL_law_X9_kind
set_option maxRecDepth 20000 in
theorem ggL_law_X8_second : GoodIn wsL_law wsX8_second := goodIn_r _ [619, 21, 29, 498, 499, 500, 2, 501, 20, 35, 25, 34, 502, 268, 269, 19, 270, 56, 262, 263, 264, 24, 265, 61, 266, 48, 49, 50, 70, 69, 66, 62, 67, 68, 267, 271, 272, 273, 65, 274, 275, 76, 75, 276, 277, 278, 279, 55, 280, 259, 260, 261, 281, 282, 283, 284, 54, 285, 286, 287, 288, 289, 290, 291, 292, 293, 294, 295, 296, 297, 298, 299, 300, 301, 302, 303, 304, 305, 306, 307, 308, 309, 310, 311, 312, 313, 314, 315, 316, 317, 318, 319, 320, 321, 322, 323, 324, 325, 326, 327, 328, 329, 330, 331, 332, 333, 334, 335, 336, 337, 338, 339, 340, 341, 342, 343, 344, 345, 346, 347, 348, 349, 350, 351, 352, 353, 354, 355, 356, 357, 358, 359, 360, 361, 503, 504, 505, 28, 506, 507, 508, 52, 53, 87, 88, 86, 509, 510, 511, 512, 82, 84, 513, 514, 515, 516, 81, 83, 517, 363, 364, 365, 518, 519, 520, 521, 522, 523, 524, 525, 526, 527, 528, 529, 85, 530, 531, 532, 533, 258, 590, 591, 592, 593, 569, 539, 540, 541, 594, 470, 471, 472, 473, 595, 596, 597, 598, 538, 599, 479, 480, 481, 542, 543, 544, 545, 774, 775, 776, 777, 778, 779, 780, 781, 811, 812, 813, 814, 815, 816, 817, 818, 819, 820, 831, 832, 833, 834, 835, 836, 837, 838, 839, 821, 822, 823, 824, 825, 826, 827, 828] (by decide +kernel) (by decide +kernel)
set_option maxRecDepth 20000 in
theorem gL_law_X8_second : GoodIn wsL_law (wsV RL 76 RX8 yX8_second wsX8_second) := goodIn_app (goodIn_of _ (by decide +kernel)) ggL_law_X8_second
set_option maxRecDepth 20000 in
theorem ggL_law_X9_second : GoodIn wsL_law wsX9_second := goodIn_r _ [623, 555, 551, 552, 553, 5, 554, 133, 196, 221, 104, 110, 556, 48, 49, 50, 111, 550, 112, 486, 487, 488, 489, 108, 370, 109, 371, 376, 377, 378, 379, 380, 381, 103, 101, 107, 105, 382, 52, 53, 383, 384, 385, 386, 387, 388, 389, 390, 102, 197, 198, 199, 391, 392, 393, 394, 395, 324, 325, 326, 396, 397, 398, 399, 400, 401, 402, 403, 404, 405, 406, 407, 408, 409, 410, 411, 412, 413, 414, 415, 416, 417, 418, 419, 420, 421, 422, 423, 424, 425, 426, 427, 428, 429, 430, 431, 432, 433, 434, 435, 436, 437, 438, 439, 440, 441, 442, 443, 444, 445, 446, 447, 448, 449, 450, 451, 452, 453, 454, 455, 456, 457, 458, 459, 460, 557, 558, 559, 560, 106, 561, 562, 563, 564, 372, 373, 374, 375, 604, 605, 606, 607, 490, 491, 492, 493, 608, 609, 610, 611, 612, 613, 614, 615, 782, 783, 784, 785, 786, 787, 788, 789, 790, 791, 792, 793, 794, 795, 796, 797, 798, 799, 800, 801, 802, 803, 804, 805, 806, 807, 808] (by decide +kernel) (by decide +kernel)
set_option maxRecDepth 20000 in
theorem gL_law_X9_second : GoodIn wsL_law (wsV RL 79 RX9 yX9_second wsX9_second) := goodIn_app (goodIn_of _ (by decide +kernel)) ggL_law_X9_second
set_option maxRecDepth 20000 in
theorem ggL_law_X8_many : GoodIn wsL_law wsX8_many := goodIn_r _ [627, 21, 498, 499, 500, 2, 501, 20, 35, 25, 34, 29, 502, 268, 269, 19, 270, 56, 262, 263, 264, 24, 265, 61, 266, 48, 49, 50, 70, 69, 66, 62, 67, 68, 267, 271, 272, 273, 65, 274, 275, 76, 75, 276, 277, 278, 279, 55, 280, 259, 260, 261, 281, 282, 283, 284, 54, 285, 286, 287, 288, 289, 290, 291, 292, 293, 294, 295, 296, 297, 298, 299, 300, 301, 302, 303, 304, 305, 306, 307, 308, 309, 310, 311, 312, 313, 314, 315, 316, 317, 318, 319, 320, 321, 322, 323, 324, 325, 326, 327, 328, 329, 330, 331, 332, 333, 334, 335, 336, 337, 338, 339, 340, 341, 342, 343, 344, 345, 346, 347, 348, 349, 350, 351, 352, 353, 354, 355, 356, 357, 358, 359, 360, 361, 503, 504, 505, 28, 506, 507, 508, 52, 53, 87, 88, 86, 509, 510, 511, 512, 82, 84, 513, 514, 515, 516, 81, 83, 517, 363, 364, 365, 518, 519, 520, 521, 522, 523, 524, 525, 526, 527, 528, 529, 85, 530, 531, 532, 533, 586, 587, 588, 589, 590, 591, 592, 593, 569, 539, 540, 541, 594, 470, 471, 472, 473, 465, 466, 467, 468, 469, 474, 475, 476, 477, 478, 479, 480, 481, 595, 596, 597, 598, 538, 599, 542, 543, 544, 545, 534, 535, 536, 537, 774, 775, 776, 777, 778, 779, 780, 781, 811, 812, 813, 814, 815, 816, 817, 818, 819, 820, 831, 832, 833, 834, 835, 836, 837, 838, 839, 821, 822, 823, 824, 825, 826, 827, 828] (by decide +kernel) (by decide +kernel)
set_option maxRecDepth 20000 in
theorem gL_law_X8_many : GoodIn wsL_law (wsV RL 80 RX8 yX8_many wsX8_many) := goodIn_app (goodIn_of _ (by decide +kernel)) ggL_law_X8_many
set_option maxRecDepth 20000 in
theorem ggL_law_X9_many : GoodIn wsL_law wsX9_many := goodIn_r _ [631, 221, 551, 552, 553, 5, 554, 133, 196, 104, 555, 110, 556, 48, 49, 50, 111, 550, 112, 486, 487, 488, 489, 108, 370, 109, 371, 376, 377, 378, 379, 380, 381, 103, 101, 107, 105, 382, 52, 53, 383, 384, 385, 386, 387, 388, 389, 390, 102, 197, 198, 199, 391, 392, 393, 394, 395, 324, 325, 326, 396, 397, 398, 399, 400, 401, 402, 403, 404, 405, 406, 407, 408, 409, 410, 411, 412, 413, 414, 415, 416, 417, 418, 419, 420, 421, 422, 423, 424, 425, 426, 427, 428, 429, 430, 431, 432, 433, 434, 435, 436, 437, 438, 439, 440, 441, 442, 443, 444, 445, 446, 447, 448, 449, 450, 451, 452, 453, 454, 455, 456, 457, 458, 459, 460, 557, 558, 559, 560, 106, 561, 562, 563, 564, 604, 605, 606, 607, 490, 491, 492, 493, 608, 609, 610, 611, 612, 613, 614, 615, 782, 783, 784, 785, 786, 787, 788, 789, 790, 791, 792, 793, 794, 795, 796, 797, 798, 799, 800, 801, 802, 803, 804, 805, 806, 807, 808] (by decide +kernel) (by decide +kernel)
set_option maxRecDepth 20000 in
theorem gL_law_X9_many : GoodIn wsL_law (wsV RL 83 RX9 yX9_many wsX9_many) := goodIn_app (goodIn_of _ (by decide +kernel)) ggL_law_X9_many
set_option maxRecDepth 20000 in
theorem ggL_law_X8_spans : GoodIn wsL_law wsX8_spans := goodIn_r _ [635, 21, 29, 498, 499, 500, 2, 501, 20, 35, 25, 34, 502, 268, 269, 19, 270, 56, 262, 263, 264, 24, 265, 61, 266, 48, 49, 50, 70, 69, 66, 62, 67, 68, 267, 271, 272, 273, 65, 274, 275, 76, 75, 276, 277, 278, 279, 55, 280, 259, 260, 261, 281, 282, 283, 284, 54, 285, 286, 287, 288, 289, 290, 291, 292, 293, 294, 295, 296, 297, 298, 299, 300, 301, 302, 303, 304, 305, 306, 307, 308, 309, 310, 311, 312, 313, 314, 315, 316, 317, 318, 319, 320, 321, 322, 323, 324, 325, 326, 327, 328, 329, 330, 331, 332, 333, 334, 335, 336, 337, 338, 339, 340, 341, 342, 343, 344, 345, 346, 347, 348, 349, 350, 351, 352, 353, 354, 355, 356, 357, 358, 359, 360, 361, 503, 504, 505, 28, 506, 507, 508, 52, 53, 87, 88, 86, 509, 510, 511, 512, 82, 84, 513, 514, 515, 516, 81, 83, 517, 363, 364, 365, 518, 519, 520, 521, 522, 523, 524, 525, 526, 527, 528, 529, 85, 530, 531, 532, 533, 569, 539, 540, 541, 774, 775, 776, 777, 778, 779, 780, 781, 811, 812, 813, 814, 815, 816, 817, 818, 819, 820, 831, 832, 833, 834, 835, 836, 837, 838, 839, 821, 822, 823, 824, 825, 826, 827, 828] (by decide +kernel) (by decide +kernel)
set_option maxRecDepth 20000 in
theorem gL_law_X8_spans : GoodIn wsL_law (wsV RL 84 RX8 yX8_spans wsX8_spans) := goodIn_app (goodIn_of _ (by decide +kernel)) ggL_law_X8_spans
set_option maxRecDepth 20000 in
theorem ggL_law_X9_spans : GoodIn wsL_law wsX9_spans := goodIn_r _ [639, 221, 112, 551, 552, 553, 5, 554, 133, 196, 104, 555, 110, 556, 48, 49, 50, 111, 550, 486, 487, 488, 489, 108, 370, 109, 371, 376, 377, 378, 379, 380, 381, 103, 101, 107, 105, 382, 52, 53, 383, 384, 385, 386, 387, 388, 389, 390, 102, 197, 198, 199, 391, 392, 393, 394, 395, 324, 325, 326, 396, 397, 398, 399, 400, 401, 402, 403, 404, 405, 406, 407, 408, 409, 410, 411, 412, 413, 414, 415, 416, 417, 418, 419, 420, 421, 422, 423, 424, 425, 426, 427, 428, 429, 430, 431, 432, 433, 434, 435, 436, 437, 438, 439, 440, 441, 442, 443, 444, 445, 446, 447, 448, 449, 450, 451, 452, 453, 454, 455, 456, 457, 458, 459, 460, 557, 558, 559, 560, 106, 561, 562, 563, 564, 782, 783, 784, 785, 786, 787, 788, 789, 790, 791, 792, 793, 794, 795, 796, 797, 798, 799, 800, 801, 802, 803, 804, 805, 806, 807, 808] (by decide +kernel) (by decide +kernel)
set_option maxRecDepth 20000 in
theorem gL_law_X9_spans : GoodIn wsL_law (wsV RL 87 RX9 yX9_spans wsX9_spans) := goodIn_app (goodIn_of _ (by decide +kernel)) ggL_law_X9_spans
set_option maxRecDepth 20000 in
theorem ggL_law_L_part : GoodIn wsL_law wsL_part := goodIn_ca (goodIn_r _ [643, 644, 645, 646, 647, 2, 648, 649, 650, 651, 652, 341, 653, 654, 655, 656, 657, 658, 659, 660, 661, 662, 663, 347, 348, 349, 343, 344, 345, 346, 664, 340, 342, 665, 666, 667, 351, 352] (by decide +kernel) (by decide +kernel)) (goodIn_sub (fun _ h => List.mem_append_right _ h) (by decide +kernel))
set_option maxRecDepth 20000 in
theorem gL_law_L_part : GoodIn wsL_law (va_wsS RL 88 yL_part wsL_part) := goodIn_app (goodIn_of _ (by decide +kernel)) ggL_law_L_part
set_option maxRecDepth 20000 in
theorem ggL_law_X9_part : GoodIn wsL_law wsX9_part := goodIn_r _ [671, 133, 672, 673, 674, 675, 676, 5, 677, 678, 197, 198, 199, 679, 680, 681, 682, 455, 456, 457, 452, 453, 454, 782, 783, 784, 785, 786, 787, 788, 789, 790, 791, 792, 793, 794, 795, 796, 797, 798, 799, 800, 801, 802, 803, 804, 805, 806, 807, 808] (by decide +kernel) (by decide +kernel)
set_option maxRecDepth 20000 in
theorem gL_law_X9_part : GoodIn wsL_law (wsV RL 93 RX9 yX9_part wsX9_part) := goodIn_app (goodIn_of _ (by decide +kernel)) ggL_law_X9_part
set_option maxRecDepth 20000 in
theorem ggL_law_X9_thrown : GoodIn wsL_law wsX9_thrown := goodIn_r _ [686, 133, 782, 783, 784, 785, 786, 787, 788, 789, 790, 791, 792, 793, 794, 795, 796, 797, 798, 799, 800, 801, 802, 803, 804, 805, 806, 807, 808] (by decide +kernel) (by decide +kernel)
set_option maxRecDepth 20000 in
theorem gL_law_X9_thrown : GoodIn wsL_law (wsV RL 94 RX9 yX9_thrown wsX9_thrown) := goodIn_app (goodIn_of _ (by decide +kernel)) ggL_law_X9_thrown
set_option maxRecDepth 20000 in
theorem ggL_law_X8_number : GoodIn wsL_law wsX8_number := goodIn_r _ [690, 691, 340, 341, 342, 343, 344, 345, 346, 347, 348, 349] (by decide +kernel) (by decide +kernel)
set_option maxRecDepth 20000 in
theorem gL_law_X8_number : GoodIn wsL_law (wsV RL 97 RX8 yX8_number wsX8_number) := goodIn_app (goodIn_of _ (by decide +kernel)) ggL_law_X8_number
set_option maxRecDepth 20000 in
theorem ggL_law_X9_number : GoodIn wsL_law wsX9_number := goodIn_r _ [695, 133, 449, 450, 5, 451, 197, 198, 199, 452, 453, 454, 455, 456, 457, 458, 459, 460, 782, 783, 784, 785, 786, 787, 788, 789, 790, 791, 792, 793, 794, 795, 796, 797, 798, 799, 800, 801, 802, 803, 804, 805, 806, 807, 808] (by decide +kernel) (by decide +kernel)
set_option maxRecDepth 20000 in
theorem gL_law_X9_number : GoodIn wsL_law (wsV RL 100 RX9 yX9_number wsX9_number) := goodIn_app (goodIn_of _ (by decide +kernel)) ggL_law_X9_number
set_option maxRecDepth 20000 in
theorem ggL_law_X8_write : GoodIn wsL_law wsX8_write := goodIn_r _ [699, 20, 33, 651, 652, 341, 653, 654, 258, 259, 260, 19, 261, 56, 700, 701, 702, 32, 703, 94, 704, 277, 278, 279, 55, 280, 705, 282, 283, 284, 54, 285, 706, 707, 708, 709, 710, 711, 712, 656, 657, 658, 659, 660, 661, 662, 663, 347, 348, 349, 343, 344, 345, 346, 664, 340, 342, 713, 714, 715, 716, 717, 718, 719, 720, 721, 722, 723, 724, 93, 725, 726, 727, 728, 729, 730, 731, 351, 352, 732, 733, 734, 735, 774, 775, 776, 777, 778, 779, 780, 781, 811, 812, 813, 829, 830] (by decide +kernel) (by decide +kernel)
set_option maxRecDepth 20000 in
theorem gL_law_X8_write : GoodIn wsL_law (wsV RL 101 RX8 yX8_write wsX8_write) := goodIn_app (goodIn_of _ (by decide +kernel)) ggL_law_X8_write
set_option maxRecDepth 20000 in
theorem ggL_law_X9_write : GoodIn wsL_law wsX9_write := goodIn_r _ [739, 133, 196, 740, 113, 675, 676, 5, 677, 678, 197, 198, 199, 741, 742, 743, 744, 103, 101, 672, 673, 674, 679, 680, 681, 682, 455, 456, 457, 452, 453, 454, 745, 746, 747, 748, 749, 750, 751, 752, 412, 413, 414, 403, 415, 405, 416, 417, 418, 419, 410, 411, 420, 421, 422, 423, 424, 425, 426, 427, 428, 429, 430, 431, 432, 433, 434, 435, 436, 437, 438, 439, 440, 441, 442, 443, 444, 445, 446, 447, 448, 782, 783, 784, 785, 786, 787, 788, 789, 790, 791, 792, 793, 794, 795, 796, 797, 798, 799, 800, 801, 802, 803, 804, 805, 806, 807, 808] (by decide +kernel) (by decide +kernel)
set_option maxRecDepth 20000 in
theorem gL_law_X9_write : GoodIn wsL_law (wsV RL 104 RX9 yX9_write wsX9_write) := goodIn_app (goodIn_of _ (by decide +kernel)) ggL_law_X9_write
set_option maxRecDepth 20000 in
theorem ggL_law_X8_same : GoodIn wsL_law wsX8_same := goodIn_r _ [756, 21, 29, 33, 25, 20, 498, 499, 500, 2, 501, 35, 34, 502, 268, 269, 19, 270, 56, 262, 263, 264, 24, 265, 61, 266, 48, 49, 50, 70, 69, 66, 62, 67, 68, 267, 271, 272, 273, 65, 274, 275, 76, 75, 276, 277, 278, 279, 55, 280, 259, 260, 261, 281, 282, 283, 284, 54, 285, 286, 287, 288, 289, 290, 291, 292, 293, 294, 295, 296, 297, 298, 299, 300, 301, 302, 303, 304, 305, 306, 307, 308, 309, 310, 311, 312, 313, 314, 315, 316, 317, 318, 319, 320, 321, 322, 323, 324, 325, 326, 327, 328, 329, 330, 331, 332, 333, 334, 335, 336, 337, 338, 339, 340, 341, 342, 343, 344, 345, 346, 347, 348, 349, 350, 351, 352, 353, 354, 355, 356, 357, 358, 359, 360, 361, 503, 504, 505, 28, 506, 507, 508, 52, 53, 87, 88, 86, 509, 510, 511, 512, 82, 84, 513, 514, 515, 516, 81, 83, 517, 363, 364, 365, 518, 519, 520, 521, 522, 523, 524, 525, 526, 527, 528, 529, 85, 530, 531, 532, 533, 258, 590, 591, 592, 593, 569, 539, 540, 541, 594, 470, 471, 472, 473, 362, 700, 701, 702, 32, 703, 94, 704, 705, 706, 707, 708, 709, 710, 711, 712, 656, 657, 658, 659, 660, 661, 662, 663, 664, 713, 714, 715, 716, 717, 718, 719, 720, 721, 722, 723, 724, 93, 725, 726, 727, 728, 729, 730, 731, 757, 758, 759, 760, 761, 733, 734, 735, 774, 775, 776, 777, 778, 779, 780, 781, 811, 812, 813, 814, 815, 816, 817, 818, 819, 820, 831, 832, 833, 834, 835, 836, 837, 838, 839, 821, 822, 823, 824, 825, 826, 827, 828, 829, 830] (by decide +kernel) (by decide +kernel)
set_option maxRecDepth 20000 in
theorem gL_law_X8_same : GoodIn wsL_law (wsV RL 105 RX8 yX8_same wsX8_same) := goodIn_app (goodIn_of _ (by decide +kernel)) ggL_law_X8_same
set_option maxRecDepth 20000 in
theorem ggL_law_X9_same : GoodIn wsL_law wsX9_same := goodIn_r _ [765, 108, 112, 740, 105, 113, 102, 551, 552, 553, 5, 554, 133, 196, 221, 104, 555, 110, 556, 48, 49, 50, 111, 550, 486, 487, 488, 489, 370, 109, 371, 376, 377, 378, 379, 380, 381, 103, 101, 107, 382, 52, 53, 383, 384, 385, 386, 387, 388, 389, 390, 197, 198, 199, 391, 392, 393, 394, 395, 324, 325, 326, 396, 397, 398, 399, 400, 401, 402, 403, 404, 405, 406, 407, 408, 409, 410, 411, 412, 413, 414, 415, 416, 417, 418, 419, 420, 421, 422, 423, 424, 425, 426, 427, 428, 429, 430, 431, 432, 433, 434, 435, 436, 437, 438, 439, 440, 441, 442, 443, 444, 445, 446, 447, 448, 449, 450, 451, 452, 453, 454, 455, 456, 457, 458, 459, 460, 557, 558, 559, 560, 106, 561, 562, 563, 564, 372, 373, 374, 375, 741, 742, 743, 744, 672, 673, 674, 679, 680, 681, 682, 745, 746, 747, 748, 749, 750, 751, 752, 782, 783, 784, 785, 786, 787, 788, 789, 790, 791, 792, 793, 794, 795, 796, 797, 798, 799, 800, 801, 802, 803, 804, 805, 806, 807, 808] (by decide +kernel) (by decide +kernel)
set_option maxRecDepth 20000 in
theorem gL_law_X9_same : GoodIn wsL_law (wsV RL 108 RX9 yX9_same wsX9_same) := goodIn_app (goodIn_of _ (by decide +kernel)) ggL_law_X9_same
set_option maxRecDepth 20000 in
theorem ggL_law_X8_count : GoodIn wsL_law wsX8_count := goodIn_r _ [769, 20, 21, 16, 34, 502, 268, 269, 19, 270, 56, 121, 122, 123, 15, 124, 42, 774, 775, 776, 777, 778, 779, 780, 781, 811, 812, 813, 809, 810] (by decide +kernel) (by decide +kernel)
set_option maxRecDepth 20000 in
theorem gL_law_X8_count : GoodIn wsL_law (wsV RL 109 RX8 yX8_count wsX8_count) := goodIn_app (goodIn_of _ (by decide +kernel)) ggL_law_X8_count
set_option maxRecDepth 20000 in
theorem ggL_law_X9_count : GoodIn wsL_law wsX9_count := goodIn_r _ [773, 133, 196, 221, 134, 107, 782, 783, 784, 785, 786, 787, 788, 789, 790, 791, 792, 793, 794, 795, 796, 797, 798, 799, 800, 801, 802, 803, 804, 805, 806, 807, 808] (by decide +kernel) (by decide +kernel)
set_option maxRecDepth 20000 in
theorem gL_law_X9_count : GoodIn wsL_law (wsV RL 112 RX9 yX9_count wsX9_count) := goodIn_app (goodIn_of _ (by decide +kernel)) ggL_law_X9_count
theorem dL_law_0 : decode cL_law 0 = .ok (.new 8, 3) := by decide +kernel
theorem dL_law_3 : decode cL_law 3 = .ok (.dup, 1) := by decide +kernel
theorem dL_law_4 : decode cL_law 4 = .ok (.invokespecial 15, 3) := by decide +kernel
theorem dL_law_7 : decode cL_law 7 = .ok (.astore_n 1, 1) := by decide +kernel
theorem dL_law_8 : decode cL_law 8 = .ok (.new 16, 3) := by decide +kernel
theorem dL_law_11 : decode cL_law 11 = .ok (.dup, 1) := by decide +kernel
theorem dL_law_12 : decode cL_law 12 = .ok (.invokespecial 18, 3) := by decide +kernel
theorem dL_law_15 : decode cL_law 15 = .ok (.astore_n 2, 1) := by decide +kernel
theorem dL_law_16 : decode cL_law 16 = .ok (.iconst 1, 1) := by decide +kernel
theorem dL_law_17 : decode cL_law 17 = .ok (.newarray .long, 2) := by decide +kernel
theorem dL_law_19 : decode cL_law 19 = .ok (.astore_n 3, 1) := by decide +kernel
theorem dL_law_20 : decode cL_law 20 = .ok (.iconst 0, 1) := by decide +kernel
theorem dL_law_21 : decode cL_law 21 = .ok (.istore 4, 2) := by decide +kernel
theorem dL_law_23 : decode cL_law 23 = .ok (.iload 4, 2) := by decide +kernel
theorem dL_law_25 : decode cL_law 25 = .ok (.aload_n 0, 1) := by decide +kernel
theorem dL_law_26 : decode cL_law 26 = .ok (.arraylength, 1) := by decide +kernel
theorem dL_law_27 : decode cL_law 27 = .ok (.iconst 4, 1) := by decide +kernel
theorem dL_law_28 : decode cL_law 28 = .ok (.isub, 1) := by decide +kernel
theorem dL_law_29 : decode cL_law 29 = .ok (.if_icmp .gt 739, 3) := by decide +kernel
theorem dL_law_32 : decode cL_law 32 = .ok (.aload_n 0, 1) := by decide +kernel
theorem dL_law_33 : decode cL_law 33 = .ok (.iload 4, 2) := by decide +kernel
theorem dL_law_35 : decode cL_law 35 = .ok (.iaload, 1) := by decide +kernel
theorem dL_law_36 : decode cL_law 36 = .ok (.bipush 31, 2) := by decide +kernel
theorem dL_law_38 : decode cL_law 38 = .ok (.iand, 1) := by decide +kernel
theorem dL_law_39 : decode cL_law 39 = .ok (.tableswitch 723 0 20 #[97, 134, 159, 184, 197, 208, 233, 270, 319, 344, 357, 382, 419, 444, 469, 494, 507, 575, 624, 673, 698], 97) := by decide +kernel
theorem dL_law_136 : decode cL_law 136 = .ok (.aload_n 1, 1) := by decide +kernel
theorem dL_law_137 : decode cL_law 137 = .ok (.aload_n 0, 1) := by decide +kernel
theorem dL_law_138 : decode cL_law 138 = .ok (.iload 4, 2) := by decide +kernel
theorem dL_law_140 : decode cL_law 140 = .ok (.iconst 1, 1) := by decide +kernel
theorem dL_law_141 : decode cL_law 141 = .ok (.iadd, 1) := by decide +kernel
theorem dL_law_142 : decode cL_law 142 = .ok (.iaload, 1) := by decide +kernel
theorem dL_law_143 : decode cL_law 143 = .ok (.aload_n 0, 1) := by decide +kernel
theorem dL_law_144 : decode cL_law 144 = .ok (.iload 4, 2) := by decide +kernel
theorem dL_law_146 : decode cL_law 146 = .ok (.iconst 2, 1) := by decide +kernel
theorem dL_law_147 : decode cL_law 147 = .ok (.iadd, 1) := by decide +kernel
theorem dL_law_148 : decode cL_law 148 = .ok (.iaload, 1) := by decide +kernel
theorem dL_law_149 : decode cL_law 149 = .ok (.invokevirtual 19, 3) := by decide +kernel
theorem dL_law_152 : decode cL_law 152 = .ok (.aload_n 2, 1) := by decide +kernel
theorem dL_law_153 : decode cL_law 153 = .ok (.aload_n 0, 1) := by decide +kernel
theorem dL_law_154 : decode cL_law 154 = .ok (.iload 4, 2) := by decide +kernel
theorem dL_law_156 : decode cL_law 156 = .ok (.iconst 1, 1) := by decide +kernel
theorem dL_law_157 : decode cL_law 157 = .ok (.iadd, 1) := by decide +kernel
theorem dL_law_158 : decode cL_law 158 = .ok (.iaload, 1) := by decide +kernel
theorem dL_law_159 : decode cL_law 159 = .ok (.aload_n 0, 1) := by decide +kernel
theorem dL_law_160 : decode cL_law 160 = .ok (.iload 4, 2) := by decide +kernel
theorem dL_law_162 : decode cL_law 162 = .ok (.iconst 2, 1) := by decide +kernel
theorem dL_law_163 : decode cL_law 163 = .ok (.iadd, 1) := by decide +kernel
theorem dL_law_164 : decode cL_law 164 = .ok (.iaload, 1) := by decide +kernel
theorem dL_law_165 : decode cL_law 165 = .ok (.invokevirtual 22, 3) := by decide +kernel
theorem dL_law_168 : decode cL_law 168 = .ok (.if_icmp .eq 594, 3) := by decide +kernel
theorem dL_law_171 : decode cL_law 171 = .ok (.iconst 0, 1) := by decide +kernel
theorem dL_law_172 : decode cL_law 172 = .ok (.ireturn, 1) := by decide +kernel
theorem dL_law_173 : decode cL_law 173 = .ok (.aload_n 1, 1) := by decide +kernel
theorem dL_law_174 : decode cL_law 174 = .ok (.aload_n 0, 1) := by decide +kernel
theorem dL_law_175 : decode cL_law 175 = .ok (.iload 4, 2) := by decide +kernel
theorem dL_law_177 : decode cL_law 177 = .ok (.iconst 1, 1) := by decide +kernel
theorem dL_law_178 : decode cL_law 178 = .ok (.iadd, 1) := by decide +kernel
theorem dL_law_179 : decode cL_law 179 = .ok (.iaload, 1) := by decide +kernel
theorem dL_law_180 : decode cL_law 180 = .ok (.invokevirtual 23, 3) := by decide +kernel
theorem dL_law_183 : decode cL_law 183 = .ok (.aload_n 2, 1) := by decide +kernel
theorem dL_law_184 : decode cL_law 184 = .ok (.aload_n 0, 1) := by decide +kernel
theorem dL_law_185 : decode cL_law 185 = .ok (.iload 4, 2) := by decide +kernel
theorem dL_law_187 : decode cL_law 187 = .ok (.iconst 1, 1) := by decide +kernel
theorem dL_law_188 : decode cL_law 188 = .ok (.iadd, 1) := by decide +kernel
theorem dL_law_189 : decode cL_law 189 = .ok (.iaload, 1) := by decide +kernel
theorem dL_law_190 : decode cL_law 190 = .ok (.invokevirtual 27, 3) := by decide +kernel
theorem dL_law_193 : decode cL_law 193 = .ok (.if_icmp .eq 569, 3) := by decide +kernel
theorem dL_law_196 : decode cL_law 196 = .ok (.iconst 0, 1) := by decide +kernel
theorem dL_law_197 : decode cL_law 197 = .ok (.ireturn, 1) := by decide +kernel
theorem dL_law_198 : decode cL_law 198 = .ok (.aload_n 1, 1) := by decide +kernel
theorem dL_law_199 : decode cL_law 199 = .ok (.aload_n 0, 1) := by decide +kernel
theorem dL_law_200 : decode cL_law 200 = .ok (.iload 4, 2) := by decide +kernel
theorem dL_law_202 : decode cL_law 202 = .ok (.iconst 1, 1) := by decide +kernel
theorem dL_law_203 : decode cL_law 203 = .ok (.iadd, 1) := by decide +kernel
theorem dL_law_204 : decode cL_law 204 = .ok (.iaload, 1) := by decide +kernel
theorem dL_law_205 : decode cL_law 205 = .ok (.invokevirtual 28, 3) := by decide +kernel
theorem dL_law_208 : decode cL_law 208 = .ok (.aload_n 2, 1) := by decide +kernel
theorem dL_law_209 : decode cL_law 209 = .ok (.aload_n 0, 1) := by decide +kernel
theorem dL_law_210 : decode cL_law 210 = .ok (.iload 4, 2) := by decide +kernel
theorem dL_law_212 : decode cL_law 212 = .ok (.iconst 1, 1) := by decide +kernel
theorem dL_law_213 : decode cL_law 213 = .ok (.iadd, 1) := by decide +kernel
theorem dL_law_214 : decode cL_law 214 = .ok (.iaload, 1) := by decide +kernel
theorem dL_law_215 : decode cL_law 215 = .ok (.invokevirtual 32, 3) := by decide +kernel
theorem dL_law_218 : decode cL_law 218 = .ok (.if_icmp .eq 544, 3) := by decide +kernel
theorem dL_law_221 : decode cL_law 221 = .ok (.iconst 0, 1) := by decide +kernel
theorem dL_law_222 : decode cL_law 222 = .ok (.ireturn, 1) := by decide +kernel
theorem dL_law_223 : decode cL_law 223 = .ok (.aload_n 1, 1) := by decide +kernel
theorem dL_law_224 : decode cL_law 224 = .ok (.invokevirtual 33, 3) := by decide +kernel
theorem dL_law_227 : decode cL_law 227 = .ok (.aload_n 2, 1) := by decide +kernel
theorem dL_law_228 : decode cL_law 228 = .ok (.invokevirtual 37, 3) := by decide +kernel
theorem dL_law_231 : decode cL_law 231 = .ok (.if_icmp .eq 531, 3) := by decide +kernel
theorem dL_law_234 : decode cL_law 234 = .ok (.iconst 0, 1) := by decide +kernel
theorem dL_law_235 : decode cL_law 235 = .ok (.ireturn, 1) := by decide +kernel
theorem dL_law_236 : decode cL_law 236 = .ok (.aload_n 1, 1) := by decide +kernel
theorem dL_law_237 : decode cL_law 237 = .ok (.invokevirtual 38, 3) := by decide +kernel
theorem dL_law_240 : decode cL_law 240 = .ok (.aload_n 2, 1) := by decide +kernel
theorem dL_law_241 : decode cL_law 241 = .ok (.invokevirtual 41, 3) := by decide +kernel
theorem dL_law_244 : decode cL_law 244 = .ok (.goto 518, 3) := by decide +kernel
theorem dL_law_247 : decode cL_law 247 = .ok (.aload_n 1, 1) := by decide +kernel
theorem dL_law_248 : decode cL_law 248 = .ok (.aload_n 0, 1) := by decide +kernel
theorem dL_law_249 : decode cL_law 249 = .ok (.iload 4, 2) := by decide +kernel
theorem dL_law_251 : decode cL_law 251 = .ok (.iconst 1, 1) := by decide +kernel
theorem dL_law_252 : decode cL_law 252 = .ok (.iadd, 1) := by decide +kernel
theorem dL_law_253 : decode cL_law 253 = .ok (.iaload, 1) := by decide +kernel
theorem dL_law_254 : decode cL_law 254 = .ok (.invokevirtual 42, 3) := by decide +kernel
theorem dL_law_257 : decode cL_law 257 = .ok (.aload_n 2, 1) := by decide +kernel
theorem dL_law_258 : decode cL_law 258 = .ok (.aload_n 0, 1) := by decide +kernel
theorem dL_law_259 : decode cL_law 259 = .ok (.iload 4, 2) := by decide +kernel
theorem dL_law_261 : decode cL_law 261 = .ok (.iconst 1, 1) := by decide +kernel
theorem dL_law_262 : decode cL_law 262 = .ok (.iadd, 1) := by decide +kernel
theorem dL_law_263 : decode cL_law 263 = .ok (.iaload, 1) := by decide +kernel
theorem dL_law_264 : decode cL_law 264 = .ok (.invokevirtual 45, 3) := by decide +kernel
theorem dL_law_267 : decode cL_law 267 = .ok (.if_icmp .eq 495, 3) := by decide +kernel
theorem dL_law_270 : decode cL_law 270 = .ok (.iconst 0, 1) := by decide +kernel
theorem dL_law_271 : decode cL_law 271 = .ok (.ireturn, 1) := by decide +kernel
theorem dL_law_272 : decode cL_law 272 = .ok (.aload_n 1, 1) := by decide +kernel
theorem dL_law_273 : decode cL_law 273 = .ok (.aload_n 0, 1) := by decide +kernel
theorem dL_law_274 : decode cL_law 274 = .ok (.iload 4, 2) := by decide +kernel
theorem dL_law_276 : decode cL_law 276 = .ok (.iconst 1, 1) := by decide +kernel
theorem dL_law_277 : decode cL_law 277 = .ok (.iadd, 1) := by decide +kernel
theorem dL_law_278 : decode cL_law 278 = .ok (.iaload, 1) := by decide +kernel
theorem dL_law_279 : decode cL_law 279 = .ok (.aload_n 0, 1) := by decide +kernel
theorem dL_law_280 : decode cL_law 280 = .ok (.iload 4, 2) := by decide +kernel
theorem dL_law_282 : decode cL_law 282 = .ok (.iconst 2, 1) := by decide +kernel
theorem dL_law_283 : decode cL_law 283 = .ok (.iadd, 1) := by decide +kernel
theorem dL_law_284 : decode cL_law 284 = .ok (.iaload, 1) := by decide +kernel
theorem dL_law_285 : decode cL_law 285 = .ok (.invokevirtual 46, 3) := by decide +kernel
theorem dL_law_288 : decode cL_law 288 = .ok (.aload_n 2, 1) := by decide +kernel
theorem dL_law_289 : decode cL_law 289 = .ok (.aload_n 0, 1) := by decide +kernel
theorem dL_law_290 : decode cL_law 290 = .ok (.iload 4, 2) := by decide +kernel
theorem dL_law_292 : decode cL_law 292 = .ok (.iconst 1, 1) := by decide +kernel
theorem dL_law_293 : decode cL_law 293 = .ok (.iadd, 1) := by decide +kernel
theorem dL_law_294 : decode cL_law 294 = .ok (.iaload, 1) := by decide +kernel
theorem dL_law_295 : decode cL_law 295 = .ok (.aload_n 0, 1) := by decide +kernel
theorem dL_law_296 : decode cL_law 296 = .ok (.iload 4, 2) := by decide +kernel
theorem dL_law_298 : decode cL_law 298 = .ok (.iconst 2, 1) := by decide +kernel
theorem dL_law_299 : decode cL_law 299 = .ok (.iadd, 1) := by decide +kernel
theorem dL_law_300 : decode cL_law 300 = .ok (.iaload, 1) := by decide +kernel
theorem dL_law_301 : decode cL_law 301 = .ok (.invokevirtual 50, 3) := by decide +kernel
theorem dL_law_304 : decode cL_law 304 = .ok (.if_icmp .eq 458, 3) := by decide +kernel
theorem dL_law_307 : decode cL_law 307 = .ok (.iconst 0, 1) := by decide +kernel
theorem dL_law_308 : decode cL_law 308 = .ok (.ireturn, 1) := by decide +kernel
theorem dL_law_309 : decode cL_law 309 = .ok (.aload_n 1, 1) := by decide +kernel
theorem dL_law_310 : decode cL_law 310 = .ok (.aload_n 0, 1) := by decide +kernel
theorem dL_law_311 : decode cL_law 311 = .ok (.iload 4, 2) := by decide +kernel
theorem dL_law_313 : decode cL_law 313 = .ok (.iconst 1, 1) := by decide +kernel
theorem dL_law_314 : decode cL_law 314 = .ok (.iadd, 1) := by decide +kernel
theorem dL_law_315 : decode cL_law 315 = .ok (.iaload, 1) := by decide +kernel
theorem dL_law_316 : decode cL_law 316 = .ok (.aload_n 0, 1) := by decide +kernel
theorem dL_law_317 : decode cL_law 317 = .ok (.iload 4, 2) := by decide +kernel
theorem dL_law_319 : decode cL_law 319 = .ok (.iconst 2, 1) := by decide +kernel
theorem dL_law_320 : decode cL_law 320 = .ok (.iadd, 1) := by decide +kernel
theorem dL_law_321 : decode cL_law 321 = .ok (.iaload, 1) := by decide +kernel
theorem dL_law_322 : decode cL_law 322 = .ok (.aload_n 0, 1) := by decide +kernel
theorem dL_law_323 : decode cL_law 323 = .ok (.iload 4, 2) := by decide +kernel
theorem dL_law_325 : decode cL_law 325 = .ok (.iconst 3, 1) := by decide +kernel
theorem dL_law_326 : decode cL_law 326 = .ok (.iadd, 1) := by decide +kernel
theorem dL_law_327 : decode cL_law 327 = .ok (.iaload, 1) := by decide +kernel
theorem dL_law_328 : decode cL_law 328 = .ok (.invokevirtual 51, 3) := by decide +kernel
theorem dL_law_331 : decode cL_law 331 = .ok (.aload_n 2, 1) := by decide +kernel
theorem dL_law_332 : decode cL_law 332 = .ok (.aload_n 0, 1) := by decide +kernel
theorem dL_law_333 : decode cL_law 333 = .ok (.iload 4, 2) := by decide +kernel
theorem dL_law_335 : decode cL_law 335 = .ok (.iconst 1, 1) := by decide +kernel
theorem dL_law_336 : decode cL_law 336 = .ok (.iadd, 1) := by decide +kernel
theorem dL_law_337 : decode cL_law 337 = .ok (.iaload, 1) := by decide +kernel
