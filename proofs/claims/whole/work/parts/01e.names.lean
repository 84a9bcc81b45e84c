theorem dX9_style_161 : decode cX9_style 161 = .ok (.iconst 1, 1) := by decide +kernel
theorem dX9_style_162 : decode cX9_style 162 = .ok (.iadd, 1) := by decide +kernel
theorem dX9_style_163 : decode cX9_style 163 = .ok (.putfield 103, 3) := by decide +kernel
theorem dX9_style_166 : decode cX9_style 166 = .ok (.aload_n 0, 1) := by decide +kernel
theorem dX9_style_167 : decode cX9_style 167 = .ok (.iconst 0, 1) := by decide +kernel
theorem dX9_style_168 : decode cX9_style 168 = .ok (.putfield 93, 3) := by decide +kernel
theorem dX9_style_171 : decode cX9_style 171 = .ok (.aload_n 0, 1) := by decide +kernel
theorem dX9_style_172 : decode cX9_style 172 = .ok (.getfield 103, 3) := by decide +kernel
theorem dX9_style_175 : decode cX9_style 175 = .ok (.iconst 1, 1) := by decide +kernel
theorem dX9_style_176 : decode cX9_style 176 = .ok (.isub, 1) := by decide +kernel
theorem dX9_style_177 : decode cX9_style 177 = .ok (.ireturn, 1) := by decide +kernel
set_option maxRecDepth 20000 in
theorem ggX9_row_X9_isPlain : GoodIn wsX9_row wsX9_isPlain := goodIn_r _ [11, 3, 5, 12, 13, 10, 14, 15, 16, 17, 18, 19, 20, 21, 22, 23, 24, 25, 26, 27, 28, 29, 30, 31, 32, 33, 34, 35, 36, 37, 38, 39, 40, 41] rfl (by decide +kernel)
set_option maxRecDepth 20000 in
theorem gX9_row_X9_isPlain : GoodIn wsX9_row (wsV RX9 106 RX9 yX9_isPlain wsX9_isPlain) := goodIn_app (goodIn_of _ (by decide +kernel)) ggX9_row_X9_isPlain
theorem dX9_row_0 : decode cX9_row 0 = .ok (.aload_n 0, 1) := by decide +kernel
theorem dX9_row_1 : decode cX9_row 1 = .ok (.iconst 0, 1) := by decide +kernel
theorem dX9_row_2 : decode cX9_row 2 = .ok (.putfield 54, 3) := by decide +kernel
theorem dX9_row_5 : decode cX9_row 5 = .ok (.aload_n 0, 1) := by decide +kernel
theorem dX9_row_6 : decode cX9_row 6 = .ok (.getfield 113, 3) := by decide +kernel
theorem dX9_row_9 : decode cX9_row 9 = .ok (.bipush 30, 2) := by decide +kernel
theorem dX9_row_11 : decode cX9_row 11 = .ok (.if_icmp .eq 10, 3) := by decide +kernel
theorem dX9_row_14 : decode cX9_row 14 = .ok (.aload_n 0, 1) := by decide +kernel
theorem dX9_row_15 : decode cX9_row 15 = .ok (.invokevirtual 106, 3) := by decide +kernel
theorem dX9_row_18 : decode cX9_row 18 = .ok (.ifCond .ne 5, 3) := by decide +kernel
theorem dX9_row_21 : decode cX9_row 21 = .ok (.iconst (-1), 1) := by decide +kernel
theorem dX9_row_22 : decode cX9_row 22 = .ok (.ireturn, 1) := by decide +kernel
theorem dX9_row_23 : decode cX9_row 23 = .ok (.iconst 0, 1) := by decide +kernel
theorem dX9_row_24 : decode cX9_row 24 = .ok (.istore_n 1, 1) := by decide +kernel
theorem dX9_row_25 : decode cX9_row 25 = .ok (.iload_n 1, 1) := by decide +kernel
theorem dX9_row_26 : decode cX9_row 26 = .ok (.aload_n 0, 1) := by decide +kernel
theorem dX9_row_27 : decode cX9_row 27 = .ok (.getfield 93, 3) := by decide +kernel
theorem dX9_row_30 : decode cX9_row 30 = .ok (.if_icmp .ge 29, 3) := by decide +kernel
theorem dX9_row_33 : decode cX9_row 33 = .ok (.aload_n 0, 1) := by decide +kernel
theorem dX9_row_34 : decode cX9_row 34 = .ok (.getfield 16, 3) := by decide +kernel
theorem dX9_row_37 : decode cX9_row 37 = .ok (.bipush 24, 2) := by decide +kernel
theorem dX9_row_39 : decode cX9_row 39 = .ok (.aload_n 0, 1) := by decide +kernel
theorem dX9_row_40 : decode cX9_row 40 = .ok (.getfield 113, 3) := by decide +kernel
theorem dX9_row_43 : decode cX9_row 43 = .ok (.imul, 1) := by decide +kernel
theorem dX9_row_44 : decode cX9_row 44 = .ok (.iload_n 1, 1) := by decide +kernel
theorem dX9_row_45 : decode cX9_row 45 = .ok (.iadd, 1) := by decide +kernel
theorem dX9_row_46 : decode cX9_row 46 = .ok (.aload_n 0, 1) := by decide +kernel
theorem dX9_row_47 : decode cX9_row 47 = .ok (.getfield 9, 3) := by decide +kernel
theorem dX9_row_50 : decode cX9_row 50 = .ok (.iload_n 1, 1) := by decide +kernel
theorem dX9_row_51 : decode cX9_row 51 = .ok (.baload, 1) := by decide +kernel
theorem dX9_row_52 : decode cX9_row 52 = .ok (.bastore, 1) := by decide +kernel
theorem dX9_row_53 : decode cX9_row 53 = .ok (.iinc 1 1, 3) := by decide +kernel
theorem dX9_row_56 : decode cX9_row 56 = .ok (.goto (-31), 3) := by decide +kernel
theorem dX9_row_59 : decode cX9_row 59 = .ok (.aload_n 0, 1) := by decide +kernel
theorem dX9_row_60 : decode cX9_row 60 = .ok (.getfield 26, 3) := by decide +kernel
theorem dX9_row_63 : decode cX9_row 63 = .ok (.aload_n 0, 1) := by decide +kernel
theorem dX9_row_64 : decode cX9_row 64 = .ok (.getfield 113, 3) := by decide +kernel
theorem dX9_row_67 : decode cX9_row 67 = .ok (.aload_n 0, 1) := by decide +kernel
theorem dX9_row_68 : decode cX9_row 68 = .ok (.getfield 93, 3) := by decide +kernel
theorem dX9_row_71 : decode cX9_row 71 = .ok (.iastore, 1) := by decide +kernel
theorem dX9_row_72 : decode cX9_row 72 = .ok (.aload_n 0, 1) := by decide +kernel
theorem dX9_row_73 : decode cX9_row 73 = .ok (.dup, 1) := by decide +kernel
theorem dX9_row_74 : decode cX9_row 74 = .ok (.getfield 113, 3) := by decide +kernel
theorem dX9_row_77 : decode cX9_row 77 = .ok (.iconst 1, 1) := by decide +kernel
theorem dX9_row_78 : decode cX9_row 78 = .ok (.iadd, 1) := by decide +kernel
theorem dX9_row_79 : decode cX9_row 79 = .ok (.putfield 113, 3) := by decide +kernel
theorem dX9_row_82 : decode cX9_row 82 = .ok (.aload_n 0, 1) := by decide +kernel
theorem dX9_row_83 : decode cX9_row 83 = .ok (.iconst 0, 1) := by decide +kernel
theorem dX9_row_84 : decode cX9_row 84 = .ok (.putfield 93, 3) := by decide +kernel
theorem dX9_row_87 : decode cX9_row 87 = .ok (.aload_n 0, 1) := by decide +kernel
theorem dX9_row_88 : decode cX9_row 88 = .ok (.getfield 113, 3) := by decide +kernel
theorem dX9_row_91 : decode cX9_row 91 = .ok (.iconst 1, 1) := by decide +kernel
theorem dX9_row_92 : decode cX9_row 92 = .ok (.isub, 1) := by decide +kernel
theorem dX9_row_93 : decode cX9_row 93 = .ok (.ireturn, 1) := by decide +kernel
theorem dX9_clear_0 : decode cX9_clear 0 = .ok (.aload_n 0, 1) := by decide +kernel
theorem dX9_clear_1 : decode cX9_clear 1 = .ok (.iconst 0, 1) := by decide +kernel
theorem dX9_clear_2 : decode cX9_clear 2 = .ok (.putfield 54, 3) := by decide +kernel
theorem dX9_clear_5 : decode cX9_clear 5 = .ok (.aload_n 0, 1) := by decide +kernel
theorem dX9_clear_6 : decode cX9_clear 6 = .ok (.iconst 0, 1) := by decide +kernel
theorem dX9_clear_7 : decode cX9_clear 7 = .ok (.putfield 113, 3) := by decide +kernel
theorem dX9_clear_10 : decode cX9_clear 10 = .ok (.return_, 1) := by decide +kernel
set_option maxRecDepth 20000 in
theorem ggX9_window_X9_isIn : GoodIn wsX9_window wsX9_isIn := goodIn_r _ [6] rfl (by decide +kernel)
set_option maxRecDepth 20000 in
theorem gX9_window_X9_isIn : GoodIn wsX9_window (va_wsS RX9 61 yX9_isIn wsX9_isIn) := goodIn_app (goodIn_of _ (by decide +kernel)) ggX9_window_X9_isIn
theorem dX9_window_0 : decode cX9_window 0 = .ok (.aload_n 0, 1) := by decide +kernel
theorem dX9_window_1 : decode cX9_window 1 = .ok (.iconst 0, 1) := by decide +kernel
theorem dX9_window_2 : decode cX9_window 2 = .ok (.putfield 54, 3) := by decide +kernel
theorem dX9_window_5 : decode cX9_window 5 = .ok (.iload_n 1, 1) := by decide +kernel
theorem dX9_window_6 : decode cX9_window 6 = .ok (.sipush 1900, 3) := by decide +kernel
theorem dX9_window_9 : decode cX9_window 9 = .ok (.sipush 2100, 3) := by decide +kernel
theorem dX9_window_12 : decode cX9_window 12 = .ok (.invokestatic 61, 3) := by decide +kernel
theorem dX9_window_15 : decode cX9_window 15 = .ok (.ifCond .ne 5, 3) := by decide +kernel
theorem dX9_window_18 : decode cX9_window 18 = .ok (.iconst 0, 1) := by decide +kernel
theorem dX9_window_19 : decode cX9_window 19 = .ok (.ireturn, 1) := by decide +kernel
theorem dX9_window_20 : decode cX9_window 20 = .ok (.aload_n 0, 1) := by decide +kernel
theorem dX9_window_21 : decode cX9_window 21 = .ok (.iload_n 1, 1) := by decide +kernel
theorem dX9_window_22 : decode cX9_window 22 = .ok (.putfield 32, 3) := by decide +kernel
theorem dX9_window_25 : decode cX9_window 25 = .ok (.iconst 1, 1) := by decide +kernel
theorem dX9_window_26 : decode cX9_window 26 = .ok (.ireturn, 1) := by decide +kernel
set_option maxRecDepth 20000 in
theorem ggX9_price_X9_isIn : GoodIn wsX9_price wsX9_isIn := goodIn_r _ [6] rfl (by decide +kernel)
set_option maxRecDepth 20000 in
theorem gX9_price_X9_isIn : GoodIn wsX9_price (va_wsS RX9 61 yX9_isIn wsX9_isIn) := goodIn_app (goodIn_of _ (by decide +kernel)) ggX9_price_X9_isIn
theorem dX9_price_0 : decode cX9_price 0 = .ok (.aload_n 0, 1) := by decide +kernel
theorem dX9_price_1 : decode cX9_price 1 = .ok (.iconst 0, 1) := by decide +kernel
theorem dX9_price_2 : decode cX9_price 2 = .ok (.putfield 54, 3) := by decide +kernel
theorem dX9_price_5 : decode cX9_price 5 = .ok (.iload_n 1, 1) := by decide +kernel
theorem dX9_price_6 : decode cX9_price 6 = .ok (.iconst 0, 1) := by decide +kernel
theorem dX9_price_7 : decode cX9_price 7 = .ok (.iconst 2, 1) := by decide +kernel
theorem dX9_price_8 : decode cX9_price 8 = .ok (.invokestatic 61, 3) := by decide +kernel
theorem dX9_price_11 : decode cX9_price 11 = .ok (.ifCond .eq 14, 3) := by decide +kernel
theorem dX9_price_14 : decode cX9_price 14 = .ok (.iload_n 2, 1) := by decide +kernel
theorem dX9_price_15 : decode cX9_price 15 = .ok (.iconst 0, 1) := by decide +kernel
theorem dX9_price_16 : decode cX9_price 16 = .ok (.sipush 1000, 3) := by decide +kernel
theorem dX9_price_19 : decode cX9_price 19 = .ok (.invokestatic 61, 3) := by decide +kernel
theorem dX9_price_22 : decode cX9_price 22 = .ok (.ifCond .ne 5, 3) := by decide +kernel
theorem dX9_price_25 : decode cX9_price 25 = .ok (.iconst 0, 1) := by decide +kernel
theorem dX9_price_26 : decode cX9_price 26 = .ok (.ireturn, 1) := by decide +kernel
theorem dX9_price_27 : decode cX9_price 27 = .ok (.aload_n 0, 1) := by decide +kernel
theorem dX9_price_28 : decode cX9_price 28 = .ok (.getfield 29, 3) := by decide +kernel
theorem dX9_price_31 : decode cX9_price 31 = .ok (.iload_n 1, 1) := by decide +kernel
theorem dX9_price_32 : decode cX9_price 32 = .ok (.iload_n 2, 1) := by decide +kernel
theorem dX9_price_33 : decode cX9_price 33 = .ok (.iastore, 1) := by decide +kernel
theorem dX9_price_34 : decode cX9_price 34 = .ok (.iconst 1, 1) := by decide +kernel
theorem dX9_price_35 : decode cX9_price 35 = .ok (.ireturn, 1) := by decide +kernel
theorem dX9_byteAt_0 : decode cX9_byteAt 0 = .ok (.iload_n 1, 1) := by decide +kernel
theorem dX9_byteAt_1 : decode cX9_byteAt 1 = .ok (.aload_n 0, 1) := by decide +kernel
theorem dX9_byteAt_2 : decode cX9_byteAt 2 = .ok (.getfield 26, 3) := by decide +kernel
theorem dX9_byteAt_5 : decode cX9_byteAt 5 = .ok (.aload_n 0, 1) := by decide +kernel
theorem dX9_byteAt_6 : decode cX9_byteAt 6 = .ok (.getfield 116, 3) := by decide +kernel
theorem dX9_byteAt_9 : decode cX9_byteAt 9 = .ok (.iaload, 1) := by decide +kernel
theorem dX9_byteAt_10 : decode cX9_byteAt 10 = .ok (.if_icmp .ge 20, 3) := by decide +kernel
theorem dX9_byteAt_13 : decode cX9_byteAt 13 = .ok (.aload_n 0, 1) := by decide +kernel
theorem dX9_byteAt_14 : decode cX9_byteAt 14 = .ok (.getfield 16, 3) := by decide +kernel
theorem dX9_byteAt_17 : decode cX9_byteAt 17 = .ok (.bipush 24, 2) := by decide +kernel
theorem dX9_byteAt_19 : decode cX9_byteAt 19 = .ok (.aload_n 0, 1) := by decide +kernel
theorem dX9_byteAt_20 : decode cX9_byteAt 20 = .ok (.getfield 116, 3) := by decide +kernel
theorem dX9_byteAt_23 : decode cX9_byteAt 23 = .ok (.imul, 1) := by decide +kernel
theorem dX9_byteAt_24 : decode cX9_byteAt 24 = .ok (.iload_n 1, 1) := by decide +kernel
theorem dX9_byteAt_25 : decode cX9_byteAt 25 = .ok (.iadd, 1) := by decide +kernel
theorem dX9_byteAt_26 : decode cX9_byteAt 26 = .ok (.baload, 1) := by decide +kernel
theorem dX9_byteAt_27 : decode cX9_byteAt 27 = .ok (.goto 4, 3) := by decide +kernel
theorem dX9_byteAt_30 : decode cX9_byteAt 30 = .ok (.iconst 0, 1) := by decide +kernel
theorem dX9_byteAt_31 : decode cX9_byteAt 31 = .ok (.ireturn, 1) := by decide +kernel
set_option maxRecDepth 20000 in
theorem ggX9_isDigit_X9_byteAt : GoodIn wsX9_isDigit wsX9_byteAt := goodIn_r _ [5, 6, 7, 8, 12, 13, 14, 15, 16, 17, 18, 19, 20, 21, 22, 23, 24, 25, 26, 27, 28, 29, 30, 31, 32, 33, 34, 35, 36, 37, 38] rfl (by decide +kernel)
set_option maxRecDepth 20000 in
theorem gX9_isDigit_X9_byteAt : GoodIn wsX9_isDigit (wsV RX9 119 RX9 yX9_byteAt wsX9_byteAt) := goodIn_app (goodIn_of _ (by decide +kernel)) ggX9_isDigit_X9_byteAt
set_option maxRecDepth 20000 in
theorem ggX9_isDigit_X9_isIn : GoodIn wsX9_isDigit wsX9_isIn := goodIn_r _ [11] rfl (by decide +kernel)
set_option maxRecDepth 20000 in
theorem gX9_isDigit_X9_isIn : GoodIn wsX9_isDigit (va_wsS RX9 61 yX9_isIn wsX9_isIn) := goodIn_app (goodIn_of _ (by decide +kernel)) ggX9_isDigit_X9_isIn
theorem dX9_isDigit_0 : decode cX9_isDigit 0 = .ok (.aload_n 0, 1) := by decide +kernel
theorem dX9_isDigit_1 : decode cX9_isDigit 1 = .ok (.iload_n 1, 1) := by decide +kernel
theorem dX9_isDigit_2 : decode cX9_isDigit 2 = .ok (.invokevirtual 119, 3) := by decide +kernel
theorem dX9_isDigit_5 : decode cX9_isDigit 5 = .ok (.bipush 48, 2) := by decide +kernel
theorem dX9_isDigit_7 : decode cX9_isDigit 7 = .ok (.bipush 57, 2) := by decide +kernel
theorem dX9_isDigit_9 : decode cX9_isDigit 9 = .ok (.invokestatic 61, 3) := by decide +kernel
theorem dX9_isDigit_12 : decode cX9_isDigit 12 = .ok (.ireturn, 1) := by decide +kernel
set_option maxRecDepth 20000 in
theorem ggX9_digits_X9_isDigit : GoodIn wsX9_digits wsX9_isDigit := goodIn_r _ [6, 7, 8, 9, 5, 10, 11, 12, 13, 14, 15, 16, 17, 18, 19, 20, 21, 22, 23, 24, 25, 26, 27, 28, 29, 30, 31, 32, 33, 34, 35, 36, 37, 38, 39, 40, 41, 42, 43] rfl (by decide +kernel)
set_option maxRecDepth 20000 in
theorem gX9_digits_X9_isDigit : GoodIn wsX9_digits (wsV RX9 125 RX9 yX9_isDigit wsX9_isDigit) := goodIn_app (goodIn_of _ (by decide +kernel)) ggX9_digits_X9_isDigit
set_option maxRecDepth 20000 in
theorem ggX9_digits_X9_byteAt : GoodIn wsX9_digits wsX9_byteAt := goodIn_r _ [10, 11, 12, 13, 17, 18, 19, 20, 21, 22, 23, 24, 25, 26, 27, 28, 29, 30, 31, 32, 33, 34, 35, 36, 37, 38, 39, 40, 41, 42, 43] rfl (by decide +kernel)
set_option maxRecDepth 20000 in
theorem gX9_digits_X9_byteAt : GoodIn wsX9_digits (wsV RX9 119 RX9 yX9_byteAt wsX9_byteAt) := goodIn_app (goodIn_of _ (by decide +kernel)) ggX9_digits_X9_byteAt
theorem dX9_digits_0 : decode cX9_digits 0 = .ok (.iconst 0, 1) := by decide +kernel
theorem dX9_digits_1 : decode cX9_digits 1 = .ok (.istore_n 2, 1) := by decide +kernel
theorem dX9_digits_2 : decode cX9_digits 2 = .ok (.iconst 0, 1) := by decide +kernel
theorem dX9_digits_3 : decode cX9_digits 3 = .ok (.istore_n 3, 1) := by decide +kernel
theorem dX9_digits_4 : decode cX9_digits 4 = .ok (.iload_n 3, 1) := by decide +kernel
theorem dX9_digits_5 : decode cX9_digits 5 = .ok (.iload_n 1, 1) := by decide +kernel
theorem dX9_digits_6 : decode cX9_digits 6 = .ok (.if_icmp .ge 49, 3) := by decide +kernel
theorem dX9_digits_9 : decode cX9_digits 9 = .ok (.aload_n 0, 1) := by decide +kernel
theorem dX9_digits_10 : decode cX9_digits 10 = .ok (.aload_n 0, 1) := by decide +kernel
theorem dX9_digits_11 : decode cX9_digits 11 = .ok (.getfield 122, 3) := by decide +kernel
theorem dX9_digits_14 : decode cX9_digits 14 = .ok (.invokevirtual 125, 3) := by decide +kernel
theorem dX9_digits_17 : decode cX9_digits 17 = .ok (.ifCond .ne 5, 3) := by decide +kernel
theorem dX9_digits_20 : decode cX9_digits 20 = .ok (.iconst (-1), 1) := by decide +kernel
theorem dX9_digits_21 : decode cX9_digits 21 = .ok (.ireturn, 1) := by decide +kernel
theorem dX9_digits_22 : decode cX9_digits 22 = .ok (.bipush 10, 2) := by decide +kernel
theorem dX9_digits_24 : decode cX9_digits 24 = .ok (.iload_n 2, 1) := by decide +kernel
theorem dX9_digits_25 : decode cX9_digits 25 = .ok (.imul, 1) := by decide +kernel
theorem dX9_digits_26 : decode cX9_digits 26 = .ok (.aload_n 0, 1) := by decide +kernel
theorem dX9_digits_27 : decode cX9_digits 27 = .ok (.aload_n 0, 1) := by decide +kernel
theorem dX9_digits_28 : decode cX9_digits 28 = .ok (.getfield 122, 3) := by decide +kernel
theorem dX9_digits_31 : decode cX9_digits 31 = .ok (.invokevirtual 119, 3) := by decide +kernel
theorem dX9_digits_34 : decode cX9_digits 34 = .ok (.iadd, 1) := by decide +kernel
theorem dX9_digits_35 : decode cX9_digits 35 = .ok (.bipush 48, 2) := by decide +kernel
theorem dX9_digits_37 : decode cX9_digits 37 = .ok (.isub, 1) := by decide +kernel
theorem dX9_digits_38 : decode cX9_digits 38 = .ok (.istore_n 2, 1) := by decide +kernel
theorem dX9_digits_39 : decode cX9_digits 39 = .ok (.aload_n 0, 1) := by decide +kernel
theorem dX9_digits_40 : decode cX9_digits 40 = .ok (.dup, 1) := by decide +kernel
theorem dX9_digits_41 : decode cX9_digits 41 = .ok (.getfield 122, 3) := by decide +kernel
theorem dX9_digits_44 : decode cX9_digits 44 = .ok (.iconst 1, 1) := by decide +kernel
theorem dX9_digits_45 : decode cX9_digits 45 = .ok (.iadd, 1) := by decide +kernel
theorem dX9_digits_46 : decode cX9_digits 46 = .ok (.putfield 122, 3) := by decide +kernel
theorem dX9_digits_49 : decode cX9_digits 49 = .ok (.iinc 3 1, 3) := by decide +kernel
theorem dX9_digits_52 : decode cX9_digits 52 = .ok (.goto (-48), 3) := by decide +kernel
theorem dX9_digits_55 : decode cX9_digits 55 = .ok (.iload_n 2, 1) := by decide +kernel
theorem dX9_digits_56 : decode cX9_digits 56 = .ok (.ireturn, 1) := by decide +kernel
set_option maxRecDepth 20000 in
theorem ggX9_word_J0_length_8abf5 : GoodIn wsX9_word wsJ0_length_8abf5 := goodIn_r _ [6, 7, 8, 9, 10, 5, 11, 12, 13] rfl (by decide +kernel)
set_option maxRecDepth 20000 in
theorem gX9_word_J0_length_8abf5 : GoodIn wsX9_word (wsV RX9 128 RJ0 yJ0_length_8abf5 wsJ0_length_8abf5) := goodIn_app (goodIn_of _ (by decide +kernel)) ggX9_word_J0_length_8abf5
set_option maxRecDepth 20000 in
theorem ggX9_word_X9_byteAt : GoodIn wsX9_word wsX9_byteAt := goodIn_r _ [18, 19, 20, 21, 62, 63, 64, 65, 66, 67, 68, 69, 70, 71, 72, 73, 74, 75, 76, 77, 78, 79, 80, 81, 82, 83, 84, 85, 86, 87, 88] rfl (by decide +kernel)
set_option maxRecDepth 20000 in
theorem gX9_word_X9_byteAt : GoodIn wsX9_word (wsV RX9 119 RX9 yX9_byteAt wsX9_byteAt) := goodIn_app (goodIn_of _ (by decide +kernel)) ggX9_word_X9_byteAt
set_option maxRecDepth 20000 in
theorem ggX9_word_X9_isIn : GoodIn wsX9_word wsX9_isIn := goodIn_r _ [24] rfl (by decide +kernel)
set_option maxRecDepth 20000 in
theorem gX9_word_X9_isIn : GoodIn wsX9_word (va_wsS RX9 61 yX9_isIn wsX9_isIn) := goodIn_app (goodIn_of _ (by decide +kernel)) ggX9_word_X9_isIn
set_option maxRecDepth 20000 in
theorem ggX9_word_J0_charAt_5068e : GoodIn wsX9_word wsJ0_charAt_5068e := goodIn_r _ [28, 7, 29, 30, 31, 5, 32, 12, 13, 33, 34, 35, 36, 37, 38, 39, 40, 41, 42, 43, 44, 45, 46, 47, 48, 49, 50, 51, 52, 53, 54, 55, 56, 57, 58, 59, 60, 61] rfl (by decide +kernel)
set_option maxRecDepth 20000 in
theorem gX9_word_J0_charAt_5068e : GoodIn wsX9_word (wsV RX9 133 RJ0 yJ0_charAt_5068e wsJ0_charAt_5068e) := goodIn_app (goodIn_of _ (by decide +kernel)) ggX9_word_J0_charAt_5068e
theorem dX9_word_0 : decode cX9_word 0 = .ok (.iconst 0, 1) := by decide +kernel
theorem dX9_word_1 : decode cX9_word 1 = .ok (.istore_n 2, 1) := by decide +kernel
theorem dX9_word_2 : decode cX9_word 2 = .ok (.iconst 3, 1) := by decide +kernel
theorem dX9_word_3 : decode cX9_word 3 = .ok (.iload_n 2, 1) := by decide +kernel
theorem dX9_word_4 : decode cX9_word 4 = .ok (.imul, 1) := by decide +kernel
theorem dX9_word_5 : decode cX9_word 5 = .ok (.aload_n 1, 1) := by decide +kernel
theorem dX9_word_6 : decode cX9_word 6 = .ok (.invokevirtual 128, 3) := by decide +kernel
theorem dX9_word_9 : decode cX9_word 9 = .ok (.if_icmp .ge 95, 3) := by decide +kernel
theorem dX9_word_12 : decode cX9_word 12 = .ok (.iconst 1, 1) := by decide +kernel
theorem dX9_word_13 : decode cX9_word 13 = .ok (.istore_n 3, 1) := by decide +kernel
theorem dX9_word_14 : decode cX9_word 14 = .ok (.iconst 0, 1) := by decide +kernel
theorem dX9_word_15 : decode cX9_word 15 = .ok (.istore 4, 2) := by decide +kernel
theorem dX9_word_17 : decode cX9_word 17 = .ok (.iload 4, 2) := by decide +kernel
theorem dX9_word_19 : decode cX9_word 19 = .ok (.iconst 3, 1) := by decide +kernel
theorem dX9_word_20 : decode cX9_word 20 = .ok (.if_icmp .ge 62, 3) := by decide +kernel
theorem dX9_word_23 : decode cX9_word 23 = .ok (.aload_n 0, 1) := by decide +kernel
theorem dX9_word_24 : decode cX9_word 24 = .ok (.aload_n 0, 1) := by decide +kernel
theorem dX9_word_25 : decode cX9_word 25 = .ok (.getfield 122, 3) := by decide +kernel
theorem dX9_word_28 : decode cX9_word 28 = .ok (.iload 4, 2) := by decide +kernel
theorem dX9_word_30 : decode cX9_word 30 = .ok (.iadd, 1) := by decide +kernel
theorem dX9_word_31 : decode cX9_word 31 = .ok (.invokevirtual 119, 3) := by decide +kernel
theorem dX9_word_34 : decode cX9_word 34 = .ok (.istore 5, 2) := by decide +kernel
theorem dX9_word_36 : decode cX9_word 36 = .ok (.iload 5, 2) := by decide +kernel
theorem dX9_word_38 : decode cX9_word 38 = .ok (.bipush 65, 2) := by decide +kernel
theorem dX9_word_40 : decode cX9_word 40 = .ok (.bipush 90, 2) := by decide +kernel
theorem dX9_word_42 : decode cX9_word 42 = .ok (.invokestatic 61, 3) := by decide +kernel
theorem dX9_word_45 : decode cX9_word 45 = .ok (.ifCond .eq 6, 3) := by decide +kernel
theorem dX9_word_48 : decode cX9_word 48 = .ok (.iinc 5 32, 3) := by decide +kernel
theorem dX9_word_51 : decode cX9_word 51 = .ok (.iload_n 3, 1) := by decide +kernel
theorem dX9_word_52 : decode cX9_word 52 = .ok (.ifCond .eq 22, 3) := by decide +kernel
theorem dX9_word_55 : decode cX9_word 55 = .ok (.iload 5, 2) := by decide +kernel
theorem dX9_word_57 : decode cX9_word 57 = .ok (.aload_n 1, 1) := by decide +kernel
theorem dX9_word_58 : decode cX9_word 58 = .ok (.iconst 3, 1) := by decide +kernel
theorem dX9_word_59 : decode cX9_word 59 = .ok (.iload_n 2, 1) := by decide +kernel
theorem dX9_word_60 : decode cX9_word 60 = .ok (.imul, 1) := by decide +kernel
theorem dX9_word_61 : decode cX9_word 61 = .ok (.iload 4, 2) := by decide +kernel
theorem dX9_word_63 : decode cX9_word 63 = .ok (.iadd, 1) := by decide +kernel
theorem dX9_word_64 : decode cX9_word 64 = .ok (.invokevirtual 133, 3) := by decide +kernel
theorem dX9_word_67 : decode cX9_word 67 = .ok (.if_icmp .ne 7, 3) := by decide +kernel
theorem dX9_word_70 : decode cX9_word 70 = .ok (.iconst 1, 1) := by decide +kernel
theorem dX9_word_71 : decode cX9_word 71 = .ok (.goto 4, 3) := by decide +kernel
theorem dX9_word_74 : decode cX9_word 74 = .ok (.iconst 0, 1) := by decide +kernel
theorem dX9_word_75 : decode cX9_word 75 = .ok (.istore_n 3, 1) := by decide +kernel
theorem dX9_word_76 : decode cX9_word 76 = .ok (.iinc 4 1, 3) := by decide +kernel
theorem dX9_word_79 : decode cX9_word 79 = .ok (.goto (-62), 3) := by decide +kernel
theorem dX9_word_82 : decode cX9_word 82 = .ok (.iload_n 3, 1) := by decide +kernel
theorem dX9_word_83 : decode cX9_word 83 = .ok (.ifCond .eq 15, 3) := by decide +kernel
theorem dX9_word_86 : decode cX9_word 86 = .ok (.aload_n 0, 1) := by decide +kernel
theorem dX9_word_87 : decode cX9_word 87 = .ok (.dup, 1) := by decide +kernel
theorem dX9_word_88 : decode cX9_word 88 = .ok (.getfield 122, 3) := by decide +kernel
theorem dX9_word_91 : decode cX9_word 91 = .ok (.iconst 3, 1) := by decide +kernel
theorem dX9_word_92 : decode cX9_word 92 = .ok (.iadd, 1) := by decide +kernel
theorem dX9_word_93 : decode cX9_word 93 = .ok (.putfield 122, 3) := by decide +kernel
theorem dX9_word_96 : decode cX9_word 96 = .ok (.iload_n 2, 1) := by decide +kernel
theorem dX9_word_97 : decode cX9_word 97 = .ok (.ireturn, 1) := by decide +kernel
theorem dX9_word_98 : decode cX9_word 98 = .ok (.iinc 2 1, 3) := by decide +kernel
theorem dX9_word_101 : decode cX9_word 101 = .ok (.goto (-99), 3) := by decide +kernel
theorem dX9_word_104 : decode cX9_word 104 = .ok (.iconst (-1), 1) := by decide +kernel
theorem dX9_word_105 : decode cX9_word 105 = .ok (.ireturn, 1) := by decide +kernel
set_option maxRecDepth 20000 in
theorem ggX9_reads_X9_isDigit : GoodIn wsX9_reads wsX9_isDigit := goodIn_r _ [17, 18, 19, 20, 16, 21, 6, 1, 22, 23, 24, 25, 99, 100, 101, 102, 103, 104, 105, 106, 107, 108, 109, 110, 111, 112, 113, 114, 115, 116, 117, 118, 119, 120, 121, 122, 123, 124, 125] rfl (by decide +kernel)
set_option maxRecDepth 20000 in
theorem gX9_reads_X9_isDigit : GoodIn wsX9_reads (wsV RX9 125 RX9 yX9_isDigit wsX9_isDigit) := goodIn_app (goodIn_of _ (by decide +kernel)) ggX9_reads_X9_isDigit
set_option maxRecDepth 20000 in
theorem ggX9_reads_X9_digits : GoodIn wsX9_reads wsX9_digits := goodIn_r _ [29, 2, 13, 14, 15, 16, 17, 18, 19, 20, 21, 6, 1, 22, 23, 24, 25, 99, 100, 101, 102, 103, 104, 105, 106, 107, 108, 109, 110, 111, 112, 113, 114, 115, 116, 117, 118, 119, 120, 121, 122, 123, 124, 125] rfl (by decide +kernel)
set_option maxRecDepth 20000 in
theorem gX9_reads_X9_digits : GoodIn wsX9_reads (wsV RX9 137 RX9 yX9_digits wsX9_digits) := goodIn_app (goodIn_of _ (by decide +kernel)) ggX9_reads_X9_digits
set_option maxRecDepth 20000 in
theorem ggX9_reads_J9_floorMod_7cf53 : GoodIn wsX9_reads wsJ9_floorMod_7cf53 := goodIn_r _ [33] rfl (by decide +kernel)
set_option maxRecDepth 20000 in
theorem gX9_reads_J9_floorMod_7cf53 : GoodIn wsX9_reads (va_wsS RX9 140 yJ9_floorMod_7cf53 wsJ9_floorMod_7cf53) := goodIn_app (goodIn_of _ (by decide +kernel)) ggX9_reads_J9_floorMod_7cf53
set_option maxRecDepth 20000 in
theorem ggX9_reads_X9_word : GoodIn wsX9_reads wsX9_word := goodIn_r _ [37, 2, 38, 39, 40, 41, 42, 43, 44, 45, 46, 47, 48, 49, 18, 19, 20, 16, 21, 6, 1, 22, 23, 24, 25, 50, 51, 52, 53, 54, 55, 56, 57, 58, 59, 60, 61, 62, 63, 64, 65, 66, 67, 68, 69, 70, 71, 72, 73, 74, 75, 76, 77, 78, 79, 80, 81, 82, 83, 84, 85, 86, 99, 100, 101, 102, 103, 104, 105, 106, 107, 108, 109, 110, 111, 112, 113, 114, 115, 116, 117, 118, 119, 120, 121, 122, 123, 124, 125] rfl (by decide +kernel)
set_option maxRecDepth 20000 in
theorem gX9_reads_X9_word : GoodIn wsX9_reads (wsV RX9 147 RX9 yX9_word wsX9_word) := goodIn_app (goodIn_of _ (by decide +kernel)) ggX9_reads_X9_word
set_option maxRecDepth 20000 in
theorem ggX9_reads_X9_byteAt : GoodIn wsX9_reads wsX9_byteAt := goodIn_r _ [21, 6, 1, 22, 99, 100, 101, 102, 103, 104, 105, 106, 107, 108, 109, 110, 111, 112, 113, 114, 115, 116, 117, 118, 119, 120, 121, 122, 123, 124, 125] rfl (by decide +kernel)
set_option maxRecDepth 20000 in
theorem gX9_reads_X9_byteAt : GoodIn wsX9_reads (wsV RX9 119 RX9 yX9_byteAt wsX9_byteAt) := goodIn_app (goodIn_of _ (by decide +kernel)) ggX9_reads_X9_byteAt
set_option maxRecDepth 20000 in
theorem ggX9_reads_X9_isDate : GoodIn wsX9_reads wsX9_isDate := goodIn_r _ [89, 23, 24, 16, 25, 90, 91, 92, 93, 94, 95] rfl (by decide +kernel)
set_option maxRecDepth 20000 in
theorem gX9_reads_X9_isDate : GoodIn wsX9_reads (va_wsS RX9 69 yX9_isDate wsX9_isDate) := goodIn_app (goodIn_of _ (by decide +kernel)) ggX9_reads_X9_isDate
set_option maxRecDepth 20000 in
theorem ggX9_reads_X9_numberOf : GoodIn wsX9_reads wsX9_numberOf := goodIn_r _ [98, 93, 94, 16, 95, 90, 91, 92] rfl (by decide +kernel)
set_option maxRecDepth 20000 in
theorem gX9_reads_X9_numberOf : GoodIn wsX9_reads (va_wsS RX9 72 yX9_numberOf wsX9_numberOf) := goodIn_app (goodIn_of _ (by decide +kernel)) ggX9_reads_X9_numberOf
set_option maxRecDepth 20000 in
theorem ggX9_reads_X9_daysOf : GoodIn wsX9_reads wsX9_daysOf := goodIn_r _ [92, 93, 94, 16, 95] rfl (by decide +kernel)
set_option maxRecDepth 20000 in
theorem gX9_reads_X9_daysOf : GoodIn wsX9_reads (va_wsS RX9 65 yX9_daysOf wsX9_daysOf) := goodIn_app (goodIn_of _ (by decide +kernel)) ggX9_reads_X9_daysOf
theorem dX9_reads_0 : decode cX9_reads 0 = .ok (.aload_n 0, 1) := by decide +kernel
theorem dX9_reads_1 : decode cX9_reads 1 = .ok (.iload_n 1, 1) := by decide +kernel
theorem dX9_reads_2 : decode cX9_reads 2 = .ok (.putfield 116, 3) := by decide +kernel
theorem dX9_reads_5 : decode cX9_reads 5 = .ok (.aload_n 0, 1) := by decide +kernel
theorem dX9_reads_6 : decode cX9_reads 6 = .ok (.iconst 0, 1) := by decide +kernel
theorem dX9_reads_7 : decode cX9_reads 7 = .ok (.putfield 122, 3) := by decide +kernel
theorem dX9_reads_10 : decode cX9_reads 10 = .ok (.iconst 0, 1) := by decide +kernel
theorem dX9_reads_11 : decode cX9_reads 11 = .ok (.istore_n 3, 1) := by decide +kernel
theorem dX9_reads_12 : decode cX9_reads 12 = .ok (.iconst 0, 1) := by decide +kernel
theorem dX9_reads_13 : decode cX9_reads 13 = .ok (.istore 4, 2) := by decide +kernel
theorem dX9_reads_15 : decode cX9_reads 15 = .ok (.iconst 0, 1) := by decide +kernel
theorem dX9_reads_16 : decode cX9_reads 16 = .ok (.istore 5, 2) := by decide +kernel
theorem dX9_reads_18 : decode cX9_reads 18 = .ok (.bipush 7, 2) := by decide +kernel
theorem dX9_reads_20 : decode cX9_reads 20 = .ok (.istore 6, 2) := by decide +kernel
theorem dX9_reads_22 : decode cX9_reads 22 = .ok (.iconst 0, 1) := by decide +kernel
theorem dX9_reads_23 : decode cX9_reads 23 = .ok (.istore 7, 2) := by decide +kernel
theorem dX9_reads_25 : decode cX9_reads 25 = .ok (.iload 7, 2) := by decide +kernel
theorem dX9_reads_27 : decode cX9_reads 27 = .ok (.aload_n 0, 1) := by decide +kernel
theorem dX9_reads_28 : decode cX9_reads 28 = .ok (.getfield 19, 3) := by decide +kernel
theorem dX9_reads_31 : decode cX9_reads 31 = .ok (.iload_n 2, 1) := by decide +kernel
theorem dX9_reads_32 : decode cX9_reads 32 = .ok (.iaload, 1) := by decide +kernel
theorem dX9_reads_33 : decode cX9_reads 33 = .ok (.if_icmp .ge 274, 3) := by decide +kernel
theorem dX9_reads_36 : decode cX9_reads 36 = .ok (.aload_n 0, 1) := by decide +kernel
theorem dX9_reads_37 : decode cX9_reads 37 = .ok (.getfield 13, 3) := by decide +kernel
theorem dX9_reads_40 : decode cX9_reads 40 = .ok (.bipush 24, 2) := by decide +kernel
theorem dX9_reads_42 : decode cX9_reads 42 = .ok (.iload_n 2, 1) := by decide +kernel
theorem dX9_reads_43 : decode cX9_reads 43 = .ok (.imul, 1) := by decide +kernel
theorem dX9_reads_44 : decode cX9_reads 44 = .ok (.iload 7, 2) := by decide +kernel
theorem dX9_reads_46 : decode cX9_reads 46 = .ok (.iadd, 1) := by decide +kernel
theorem dX9_reads_47 : decode cX9_reads 47 = .ok (.baload, 1) := by decide +kernel
theorem dX9_reads_48 : decode cX9_reads 48 = .ok (.istore 8, 2) := by decide +kernel
theorem dX9_reads_50 : decode cX9_reads 50 = .ok (.iload 8, 2) := by decide +kernel
theorem dX9_reads_52 : decode cX9_reads 52 = .ok (.bipush 68, 2) := by decide +kernel
theorem dX9_reads_54 : decode cX9_reads 54 = .ok (.if_icmp .eq 10, 3) := by decide +kernel
theorem dX9_reads_57 : decode cX9_reads 57 = .ok (.iload 8, 2) := by decide +kernel
theorem dX9_reads_59 : decode cX9_reads 59 = .ok (.bipush 77, 2) := by decide +kernel
theorem dX9_reads_61 : decode cX9_reads 61 = .ok (.if_icmp .ne 66, 3) := by decide +kernel
theorem dX9_reads_64 : decode cX9_reads 64 = .ok (.aload_n 0, 1) := by decide +kernel
theorem dX9_reads_65 : decode cX9_reads 65 = .ok (.aload_n 0, 1) := by decide +kernel
theorem dX9_reads_66 : decode cX9_reads 66 = .ok (.aload_n 0, 1) := by decide +kernel
theorem dX9_reads_67 : decode cX9_reads 67 = .ok (.getfield 122, 3) := by decide +kernel
theorem dX9_reads_70 : decode cX9_reads 70 = .ok (.invokevirtual 125, 3) := by decide +kernel
theorem dX9_reads_73 : decode cX9_reads 73 = .ok (.ifCond .eq 20, 3) := by decide +kernel
theorem dX9_reads_76 : decode cX9_reads 76 = .ok (.aload_n 0, 1) := by decide +kernel
theorem dX9_reads_77 : decode cX9_reads 77 = .ok (.aload_n 0, 1) := by decide +kernel
theorem dX9_reads_78 : decode cX9_reads 78 = .ok (.getfield 122, 3) := by decide +kernel
theorem dX9_reads_81 : decode cX9_reads 81 = .ok (.iconst 1, 1) := by decide +kernel
theorem dX9_reads_82 : decode cX9_reads 82 = .ok (.iadd, 1) := by decide +kernel
theorem dX9_reads_83 : decode cX9_reads 83 = .ok (.invokevirtual 125, 3) := by decide +kernel
theorem dX9_reads_86 : decode cX9_reads 86 = .ok (.ifCond .eq 7, 3) := by decide +kernel
theorem dX9_reads_89 : decode cX9_reads 89 = .ok (.iconst 2, 1) := by decide +kernel
theorem dX9_reads_90 : decode cX9_reads 90 = .ok (.goto 4, 3) := by decide +kernel
theorem dX9_reads_93 : decode cX9_reads 93 = .ok (.iconst 1, 1) := by decide +kernel
theorem dX9_reads_94 : decode cX9_reads 94 = .ok (.invokevirtual 137, 3) := by decide +kernel
theorem dX9_reads_97 : decode cX9_reads 97 = .ok (.istore 9, 2) := by decide +kernel
theorem dX9_reads_99 : decode cX9_reads 99 = .ok (.iload 9, 2) := by decide +kernel
theorem dX9_reads_101 : decode cX9_reads 101 = .ok (.iconst 1, 1) := by decide +kernel
theorem dX9_reads_102 : decode cX9_reads 102 = .ok (.if_icmp .ge 5, 3) := by decide +kernel
theorem dX9_reads_105 : decode cX9_reads 105 = .ok (.iconst 0, 1) := by decide +kernel
theorem dX9_reads_106 : decode cX9_reads 106 = .ok (.ireturn, 1) := by decide +kernel
theorem dX9_reads_107 : decode cX9_reads 107 = .ok (.iload 8, 2) := by decide +kernel
theorem dX9_reads_109 : decode cX9_reads 109 = .ok (.bipush 68, 2) := by decide +kernel
theorem dX9_reads_111 : decode cX9_reads 111 = .ok (.if_icmp .ne 9, 3) := by decide +kernel
theorem dX9_reads_114 : decode cX9_reads 114 = .ok (.iload 9, 2) := by decide +kernel
theorem dX9_reads_116 : decode cX9_reads 116 = .ok (.istore_n 3, 1) := by decide +kernel
theorem dX9_reads_117 : decode cX9_reads 117 = .ok (.goto 7, 3) := by decide +kernel
theorem dX9_reads_120 : decode cX9_reads 120 = .ok (.iload 9, 2) := by decide +kernel
theorem dX9_reads_122 : decode cX9_reads 122 = .ok (.istore 4, 2) := by decide +kernel
theorem dX9_reads_124 : decode cX9_reads 124 = .ok (.goto 177, 3) := by decide +kernel
theorem dX9_reads_127 : decode cX9_reads 127 = .ok (.iload 8, 2) := by decide +kernel
theorem dX9_reads_129 : decode cX9_reads 129 = .ok (.bipush 89, 2) := by decide +kernel
theorem dX9_reads_131 : decode cX9_reads 131 = .ok (.if_icmp .eq 10, 3) := by decide +kernel
theorem dX9_reads_134 : decode cX9_reads 134 = .ok (.iload 8, 2) := by decide +kernel
theorem dX9_reads_136 : decode cX9_reads 136 = .ok (.bipush 121, 2) := by decide +kernel
theorem dX9_reads_138 : decode cX9_reads 138 = .ok (.if_icmp .ne 58, 3) := by decide +kernel
theorem dX9_reads_141 : decode cX9_reads 141 = .ok (.aload_n 0, 1) := by decide +kernel
theorem dX9_reads_142 : decode cX9_reads 142 = .ok (.iload 8, 2) := by decide +kernel
theorem dX9_reads_144 : decode cX9_reads 144 = .ok (.bipush 89, 2) := by decide +kernel
theorem dX9_reads_146 : decode cX9_reads 146 = .ok (.if_icmp .ne 7, 3) := by decide +kernel
theorem dX9_reads_149 : decode cX9_reads 149 = .ok (.iconst 4, 1) := by decide +kernel
theorem dX9_reads_150 : decode cX9_reads 150 = .ok (.goto 4, 3) := by decide +kernel
theorem dX9_reads_153 : decode cX9_reads 153 = .ok (.iconst 2, 1) := by decide +kernel
theorem dX9_reads_154 : decode cX9_reads 154 = .ok (.invokevirtual 137, 3) := by decide +kernel
theorem dX9_reads_157 : decode cX9_reads 157 = .ok (.istore 5, 2) := by decide +kernel
theorem dX9_reads_159 : decode cX9_reads 159 = .ok (.iload 5, 2) := by decide +kernel
theorem dX9_reads_161 : decode cX9_reads 161 = .ok (.iconst (-1), 1) := by decide +kernel
theorem dX9_reads_162 : decode cX9_reads 162 = .ok (.if_icmp .ne 5, 3) := by decide +kernel
theorem dX9_reads_165 : decode cX9_reads 165 = .ok (.iconst 0, 1) := by decide +kernel
theorem dX9_reads_166 : decode cX9_reads 166 = .ok (.ireturn, 1) := by decide +kernel
theorem dX9_reads_167 : decode cX9_reads 167 = .ok (.iload 8, 2) := by decide +kernel
theorem dX9_reads_169 : decode cX9_reads 169 = .ok (.bipush 121, 2) := by decide +kernel
theorem dX9_reads_171 : decode cX9_reads 171 = .ok (.if_icmp .ne 130, 3) := by decide +kernel
theorem dX9_reads_174 : decode cX9_reads 174 = .ok (.aload_n 0, 1) := by decide +kernel
theorem dX9_reads_175 : decode cX9_reads 175 = .ok (.getfield 32, 3) := by decide +kernel
theorem dX9_reads_178 : decode cX9_reads 178 = .ok (.iload 5, 2) := by decide +kernel
theorem dX9_reads_180 : decode cX9_reads 180 = .ok (.aload_n 0, 1) := by decide +kernel
theorem dX9_reads_181 : decode cX9_reads 181 = .ok (.getfield 32, 3) := by decide +kernel
theorem dX9_reads_184 : decode cX9_reads 184 = .ok (.isub, 1) := by decide +kernel
theorem dX9_reads_185 : decode cX9_reads 185 = .ok (.bipush 100, 2) := by decide +kernel
theorem dX9_reads_187 : decode cX9_reads 187 = .ok (.invokestatic 140, 3) := by decide +kernel
theorem dX9_reads_190 : decode cX9_reads 190 = .ok (.iadd, 1) := by decide +kernel
theorem dX9_reads_191 : decode cX9_reads 191 = .ok (.istore 5, 2) := by decide +kernel
theorem dX9_reads_193 : decode cX9_reads 193 = .ok (.goto 108, 3) := by decide +kernel
theorem dX9_reads_196 : decode cX9_reads 196 = .ok (.iload 8, 2) := by decide +kernel
theorem dX9_reads_198 : decode cX9_reads 198 = .ok (.bipush 78, 2) := by decide +kernel
theorem dX9_reads_200 : decode cX9_reads 200 = .ok (.if_icmp .ne 20, 3) := by decide +kernel
theorem dX9_reads_203 : decode cX9_reads 203 = .ok (.iconst 1, 1) := by decide +kernel
theorem dX9_reads_204 : decode cX9_reads 204 = .ok (.aload_n 0, 1) := by decide +kernel
theorem dX9_reads_205 : decode cX9_reads 205 = .ok (.ldc 145, 2) := by decide +kernel
theorem dX9_reads_207 : decode cX9_reads 207 = .ok (.invokevirtual 147, 3) := by decide +kernel
theorem dX9_reads_210 : decode cX9_reads 210 = .ok (.iadd, 1) := by decide +kernel
theorem dX9_reads_211 : decode cX9_reads 211 = .ok (.istore 4, 2) := by decide +kernel
theorem dX9_reads_213 : decode cX9_reads 213 = .ok (.iload 4, 2) := by decide +kernel
theorem dX9_reads_215 : decode cX9_reads 215 = .ok (.ifCond .ne 86, 3) := by decide +kernel
theorem dX9_reads_218 : decode cX9_reads 218 = .ok (.iconst 0, 1) := by decide +kernel
theorem dX9_reads_219 : decode cX9_reads 219 = .ok (.ireturn, 1) := by decide +kernel
theorem dX9_reads_220 : decode cX9_reads 220 = .ok (.iload 8, 2) := by decide +kernel
theorem dX9_reads_222 : decode cX9_reads 222 = .ok (.bipush 87, 2) := by decide +kernel
theorem dX9_reads_224 : decode cX9_reads 224 = .ok (.if_icmp .ne 19, 3) := by decide +kernel
theorem dX9_reads_227 : decode cX9_reads 227 = .ok (.aload_n 0, 1) := by decide +kernel
theorem dX9_reads_228 : decode cX9_reads 228 = .ok (.ldc 151, 2) := by decide +kernel
theorem dX9_reads_230 : decode cX9_reads 230 = .ok (.invokevirtual 147, 3) := by decide +kernel
theorem dX9_reads_233 : decode cX9_reads 233 = .ok (.istore 6, 2) := by decide +kernel
theorem dX9_reads_235 : decode cX9_reads 235 = .ok (.iload 6, 2) := by decide +kernel
theorem dX9_reads_237 : decode cX9_reads 237 = .ok (.iconst (-1), 1) := by decide +kernel
theorem dX9_reads_238 : decode cX9_reads 238 = .ok (.if_icmp .ne 63, 3) := by decide +kernel
theorem dX9_reads_241 : decode cX9_reads 241 = .ok (.iconst 0, 1) := by decide +kernel
theorem dX9_reads_242 : decode cX9_reads 242 = .ok (.ireturn, 1) := by decide +kernel
theorem dX9_reads_243 : decode cX9_reads 243 = .ok (.aload_n 0, 1) := by decide +kernel
theorem dX9_reads_244 : decode cX9_reads 244 = .ok (.aload_n 0, 1) := by decide +kernel
theorem dX9_reads_245 : decode cX9_reads 245 = .ok (.getfield 122, 3) := by decide +kernel
theorem dX9_reads_248 : decode cX9_reads 248 = .ok (.invokevirtual 119, 3) := by decide +kernel
theorem dX9_reads_251 : decode cX9_reads 251 = .ok (.iload 8, 2) := by decide +kernel
theorem dX9_reads_253 : decode cX9_reads 253 = .ok (.if_icmp .eq 5, 3) := by decide +kernel
theorem dX9_reads_256 : decode cX9_reads 256 = .ok (.iconst 0, 1) := by decide +kernel
theorem dX9_reads_257 : decode cX9_reads 257 = .ok (.ireturn, 1) := by decide +kernel
theorem dX9_reads_258 : decode cX9_reads 258 = .ok (.aload_n 0, 1) := by decide +kernel
theorem dX9_reads_259 : decode cX9_reads 259 = .ok (.dup, 1) := by decide +kernel
theorem dX9_reads_260 : decode cX9_reads 260 = .ok (.getfield 122, 3) := by decide +kernel
theorem dX9_reads_263 : decode cX9_reads 263 = .ok (.iconst 1, 1) := by decide +kernel
theorem dX9_reads_264 : decode cX9_reads 264 = .ok (.iadd, 1) := by decide +kernel
theorem dX9_reads_265 : decode cX9_reads 265 = .ok (.putfield 122, 3) := by decide +kernel
theorem dX9_reads_268 : decode cX9_reads 268 = .ok (.iload 8, 2) := by decide +kernel
theorem dX9_reads_270 : decode cX9_reads 270 = .ok (.bipush 32, 2) := by decide +kernel
theorem dX9_reads_272 : decode cX9_reads 272 = .ok (.if_icmp .ne 29, 3) := by decide +kernel
theorem dX9_reads_275 : decode cX9_reads 275 = .ok (.aload_n 0, 1) := by decide +kernel
theorem dX9_reads_276 : decode cX9_reads 276 = .ok (.aload_n 0, 1) := by decide +kernel
theorem dX9_reads_277 : decode cX9_reads 277 = .ok (.getfield 122, 3) := by decide +kernel
theorem dX9_reads_280 : decode cX9_reads 280 = .ok (.invokevirtual 119, 3) := by decide +kernel
theorem dX9_reads_283 : decode cX9_reads 283 = .ok (.bipush 32, 2) := by decide +kernel
theorem dX9_reads_285 : decode cX9_reads 285 = .ok (.if_icmp .ne 16, 3) := by decide +kernel
theorem dX9_reads_288 : decode cX9_reads 288 = .ok (.aload_n 0, 1) := by decide +kernel
theorem dX9_reads_289 : decode cX9_reads 289 = .ok (.dup, 1) := by decide +kernel
theorem dX9_reads_290 : decode cX9_reads 290 = .ok (.getfield 122, 3) := by decide +kernel
theorem dX9_reads_293 : decode cX9_reads 293 = .ok (.iconst 1, 1) := by decide +kernel
theorem dX9_reads_294 : decode cX9_reads 294 = .ok (.iadd, 1) := by decide +kernel
theorem dX9_reads_295 : decode cX9_reads 295 = .ok (.putfield 122, 3) := by decide +kernel
theorem dX9_reads_298 : decode cX9_reads 298 = .ok (.goto (-30), 3) := by decide +kernel
theorem dX9_reads_301 : decode cX9_reads 301 = .ok (.iinc 7 1, 3) := by decide +kernel
theorem dX9_reads_304 : decode cX9_reads 304 = .ok (.goto (-279), 3) := by decide +kernel
theorem dX9_reads_307 : decode cX9_reads 307 = .ok (.aload_n 0, 1) := by decide +kernel
theorem dX9_reads_308 : decode cX9_reads 308 = .ok (.getfield 122, 3) := by decide +kernel
theorem dX9_reads_311 : decode cX9_reads 311 = .ok (.aload_n 0, 1) := by decide +kernel
theorem dX9_reads_312 : decode cX9_reads 312 = .ok (.getfield 26, 3) := by decide +kernel
theorem dX9_reads_315 : decode cX9_reads 315 = .ok (.iload_n 1, 1) := by decide +kernel
theorem dX9_reads_316 : decode cX9_reads 316 = .ok (.iaload, 1) := by decide +kernel
theorem dX9_reads_317 : decode cX9_reads 317 = .ok (.if_icmp .ne 18, 3) := by decide +kernel
theorem dX9_reads_320 : decode cX9_reads 320 = .ok (.iconst 1, 1) := by decide +kernel
theorem dX9_reads_321 : decode cX9_reads 321 = .ok (.iload_n 3, 1) := by decide +kernel
theorem dX9_reads_322 : decode cX9_reads 322 = .ok (.invokestatic 153, 3) := by decide +kernel
theorem dX9_reads_325 : decode cX9_reads 325 = .ok (.iload 4, 2) := by decide +kernel
theorem dX9_reads_327 : decode cX9_reads 327 = .ok (.iload 5, 2) := by decide +kernel
theorem dX9_reads_329 : decode cX9_reads 329 = .ok (.invokestatic 69, 3) := by decide +kernel
theorem dX9_reads_332 : decode cX9_reads 332 = .ok (.ifCond .ne 5, 3) := by decide +kernel
theorem dX9_reads_335 : decode cX9_reads 335 = .ok (.iconst 0, 1) := by decide +kernel
theorem dX9_reads_336 : decode cX9_reads 336 = .ok (.ireturn, 1) := by decide +kernel
theorem dX9_reads_337 : decode cX9_reads 337 = .ok (.aload_n 0, 1) := by decide +kernel
theorem dX9_reads_338 : decode cX9_reads 338 = .ok (.iconst 1, 1) := by decide +kernel
theorem dX9_reads_339 : decode cX9_reads 339 = .ok (.iload_n 3, 1) := by decide +kernel
theorem dX9_reads_340 : decode cX9_reads 340 = .ok (.invokestatic 153, 3) := by decide +kernel
theorem dX9_reads_343 : decode cX9_reads 343 = .ok (.iload 4, 2) := by decide +kernel
theorem dX9_reads_345 : decode cX9_reads 345 = .ok (.iload 5, 2) := by decide +kernel
theorem dX9_reads_347 : decode cX9_reads 347 = .ok (.invokestatic 72, 3) := by decide +kernel
theorem dX9_reads_350 : decode cX9_reads 350 = .ok (.putfield 156, 3) := by decide +kernel
theorem dX9_reads_353 : decode cX9_reads 353 = .ok (.aload_n 0, 1) := by decide +kernel
theorem dX9_reads_354 : decode cX9_reads 354 = .ok (.iload_n 3, 1) := by decide +kernel
theorem dX9_reads_355 : decode cX9_reads 355 = .ok (.ifCond .ne 20, 3) := by decide +kernel
theorem dX9_reads_358 : decode cX9_reads 358 = .ok (.aload_n 0, 1) := by decide +kernel
theorem dX9_reads_359 : decode cX9_reads 359 = .ok (.getfield 156, 3) := by decide +kernel
theorem dX9_reads_362 : decode cX9_reads 362 = .ok (.iload 4, 2) := by decide +kernel
theorem dX9_reads_364 : decode cX9_reads 364 = .ok (.iload 5, 2) := by decide +kernel
theorem dX9_reads_366 : decode cX9_reads 366 = .ok (.invokestatic 65, 3) := by decide +kernel
theorem dX9_reads_369 : decode cX9_reads 369 = .ok (.iadd, 1) := by decide +kernel
theorem dX9_reads_370 : decode cX9_reads 370 = .ok (.iconst 1, 1) := by decide +kernel
theorem dX9_reads_371 : decode cX9_reads 371 = .ok (.isub, 1) := by decide +kernel
theorem dX9_reads_372 : decode cX9_reads 372 = .ok (.goto 7, 3) := by decide +kernel
theorem dX9_reads_375 : decode cX9_reads 375 = .ok (.aload_n 0, 1) := by decide +kernel
theorem dX9_reads_376 : decode cX9_reads 376 = .ok (.getfield 156, 3) := by decide +kernel
theorem dX9_reads_379 : decode cX9_reads 379 = .ok (.putfield 159, 3) := by decide +kernel
theorem dX9_reads_382 : decode cX9_reads 382 = .ok (.iload 6, 2) := by decide +kernel
theorem dX9_reads_384 : decode cX9_reads 384 = .ok (.bipush 7, 2) := by decide +kernel
theorem dX9_reads_386 : decode cX9_reads 386 = .ok (.if_icmp .eq 15, 3) := by decide +kernel
theorem dX9_reads_389 : decode cX9_reads 389 = .ok (.aload_n 0, 1) := by decide +kernel
theorem dX9_reads_390 : decode cX9_reads 390 = .ok (.getfield 156, 3) := by decide +kernel
theorem dX9_reads_393 : decode cX9_reads 393 = .ok (.bipush 7, 2) := by decide +kernel
theorem dX9_reads_395 : decode cX9_reads 395 = .ok (.irem, 1) := by decide +kernel
theorem dX9_reads_396 : decode cX9_reads 396 = .ok (.iload 6, 2) := by decide +kernel
theorem dX9_reads_398 : decode cX9_reads 398 = .ok (.if_icmp .ne 7, 3) := by decide +kernel
theorem dX9_reads_401 : decode cX9_reads 401 = .ok (.iconst 1, 1) := by decide +kernel
theorem dX9_reads_402 : decode cX9_reads 402 = .ok (.goto 4, 3) := by decide +kernel
theorem dX9_reads_405 : decode cX9_reads 405 = .ok (.iconst 0, 1) := by decide +kernel
theorem dX9_reads_406 : decode cX9_reads 406 = .ok (.ireturn, 1) := by decide +kernel
set_option maxRecDepth 20000 in
theorem ggX9_readAll_X9_reads : GoodIn wsX9_readAll wsX9_reads := goodIn_r _ [11, 12, 13, 14, 15, 16, 17, 18, 19, 20, 21, 4, 6, 22, 23, 24, 10, 25, 26, 27, 28, 29, 30, 31, 32, 33, 34, 35, 36, 37, 38, 39, 40, 41, 42, 43, 44, 45, 46, 47, 48, 49, 50, 51, 52, 53, 54, 55, 56, 57, 58, 59, 60, 61, 62, 63, 64, 65, 66, 67, 68, 69, 70, 71, 72, 73, 74, 75, 76, 77, 78, 79, 80, 81, 82, 83, 84, 85, 86, 87, 88, 89, 90, 91, 92, 93, 94, 95, 96, 97, 98, 99, 100, 101, 102, 103, 104, 105, 106, 107, 108, 109, 110, 111, 112, 113, 114, 115, 116, 117, 118, 119, 120, 121, 122, 123, 124, 125, 126, 127, 128, 129, 130, 131, 132, 133] rfl (by decide +kernel)
set_option maxRecDepth 20000 in
theorem gX9_readAll_X9_reads : GoodIn wsX9_readAll (wsV RX9 162 RX9 yX9_reads wsX9_reads) := goodIn_app (goodIn_of _ (by decide +kernel)) ggX9_readAll_X9_reads
theorem dX9_readAll_0 : decode cX9_readAll 0 = .ok (.iconst 0, 1) := by decide +kernel
theorem dX9_readAll_1 : decode cX9_readAll 1 = .ok (.istore_n 1, 1) := by decide +kernel
theorem dX9_readAll_2 : decode cX9_readAll 2 = .ok (.iload_n 1, 1) := by decide +kernel
theorem dX9_readAll_3 : decode cX9_readAll 3 = .ok (.aload_n 0, 1) := by decide +kernel
theorem dX9_readAll_4 : decode cX9_readAll 4 = .ok (.getfield 113, 3) := by decide +kernel
theorem dX9_readAll_7 : decode cX9_readAll 7 = .ok (.if_icmp .ge 78, 3) := by decide +kernel
theorem dX9_readAll_10 : decode cX9_readAll 10 = .ok (.iconst 0, 1) := by decide +kernel
theorem dX9_readAll_11 : decode cX9_readAll 11 = .ok (.istore_n 2, 1) := by decide +kernel
theorem dX9_readAll_12 : decode cX9_readAll 12 = .ok (.iload_n 2, 1) := by decide +kernel
theorem dX9_readAll_13 : decode cX9_readAll 13 = .ok (.aload_n 0, 1) := by decide +kernel
theorem dX9_readAll_14 : decode cX9_readAll 14 = .ok (.getfield 103, 3) := by decide +kernel
theorem dX9_readAll_17 : decode cX9_readAll 17 = .ok (.if_icmp .ge 62, 3) := by decide +kernel
theorem dX9_readAll_20 : decode cX9_readAll 20 = .ok (.aload_n 0, 1) := by decide +kernel
theorem dX9_readAll_21 : decode cX9_readAll 21 = .ok (.iload_n 1, 1) := by decide +kernel
theorem dX9_readAll_22 : decode cX9_readAll 22 = .ok (.iload_n 2, 1) := by decide +kernel
theorem dX9_readAll_23 : decode cX9_readAll 23 = .ok (.invokevirtual 162, 3) := by decide +kernel
theorem dX9_readAll_26 : decode cX9_readAll 26 = .ok (.istore_n 3, 1) := by decide +kernel
theorem dX9_readAll_27 : decode cX9_readAll 27 = .ok (.aload_n 0, 1) := by decide +kernel
theorem dX9_readAll_28 : decode cX9_readAll 28 = .ok (.getfield 36, 3) := by decide +kernel
theorem dX9_readAll_31 : decode cX9_readAll 31 = .ok (.bipush 8, 2) := by decide +kernel
theorem dX9_readAll_33 : decode cX9_readAll 33 = .ok (.iload_n 1, 1) := by decide +kernel
theorem dX9_readAll_34 : decode cX9_readAll 34 = .ok (.imul, 1) := by decide +kernel
theorem dX9_readAll_35 : decode cX9_readAll 35 = .ok (.iload_n 2, 1) := by decide +kernel
theorem dX9_readAll_36 : decode cX9_readAll 36 = .ok (.iadd, 1) := by decide +kernel
theorem dX9_readAll_37 : decode cX9_readAll 37 = .ok (.iload_n 3, 1) := by decide +kernel
theorem dX9_readAll_38 : decode cX9_readAll 38 = .ok (.ifCond .eq 10, 3) := by decide +kernel
theorem dX9_readAll_41 : decode cX9_readAll 41 = .ok (.aload_n 0, 1) := by decide +kernel
theorem dX9_readAll_42 : decode cX9_readAll 42 = .ok (.getfield 156, 3) := by decide +kernel
theorem dX9_readAll_45 : decode cX9_readAll 45 = .ok (.goto 4, 3) := by decide +kernel
theorem dX9_readAll_48 : decode cX9_readAll 48 = .ok (.iconst (-1), 1) := by decide +kernel
theorem dX9_readAll_49 : decode cX9_readAll 49 = .ok (.iastore, 1) := by decide +kernel
theorem dX9_readAll_50 : decode cX9_readAll 50 = .ok (.aload_n 0, 1) := by decide +kernel
theorem dX9_readAll_51 : decode cX9_readAll 51 = .ok (.getfield 39, 3) := by decide +kernel
theorem dX9_readAll_54 : decode cX9_readAll 54 = .ok (.bipush 8, 2) := by decide +kernel
theorem dX9_readAll_56 : decode cX9_readAll 56 = .ok (.iload_n 1, 1) := by decide +kernel
theorem dX9_readAll_57 : decode cX9_readAll 57 = .ok (.imul, 1) := by decide +kernel
theorem dX9_readAll_58 : decode cX9_readAll 58 = .ok (.iload_n 2, 1) := by decide +kernel
theorem dX9_readAll_59 : decode cX9_readAll 59 = .ok (.iadd, 1) := by decide +kernel
theorem dX9_readAll_60 : decode cX9_readAll 60 = .ok (.iload_n 3, 1) := by decide +kernel
theorem dX9_readAll_61 : decode cX9_readAll 61 = .ok (.ifCond .eq 10, 3) := by decide +kernel
theorem dX9_readAll_64 : decode cX9_readAll 64 = .ok (.aload_n 0, 1) := by decide +kernel
theorem dX9_readAll_65 : decode cX9_readAll 65 = .ok (.getfield 159, 3) := by decide +kernel
theorem dX9_readAll_68 : decode cX9_readAll 68 = .ok (.goto 4, 3) := by decide +kernel
theorem dX9_readAll_71 : decode cX9_readAll 71 = .ok (.iconst (-1), 1) := by decide +kernel
theorem dX9_readAll_72 : decode cX9_readAll 72 = .ok (.iastore, 1) := by decide +kernel
theorem dX9_readAll_73 : decode cX9_readAll 73 = .ok (.iinc 2 1, 3) := by decide +kernel
theorem dX9_readAll_76 : decode cX9_readAll 76 = .ok (.goto (-64), 3) := by decide +kernel
theorem dX9_readAll_79 : decode cX9_readAll 79 = .ok (.iinc 1 1, 3) := by decide +kernel
theorem dX9_readAll_82 : decode cX9_readAll 82 = .ok (.goto (-80), 3) := by decide +kernel
theorem dX9_readAll_85 : decode cX9_readAll 85 = .ok (.return_, 1) := by decide +kernel
theorem dX9_isRow_0 : decode cX9_isRow 0 = .ok (.iload_n 1, 1) := by decide +kernel
theorem dX9_isRow_1 : decode cX9_isRow 1 = .ok (.ifCond .lt 15, 3) := by decide +kernel
theorem dX9_isRow_4 : decode cX9_isRow 4 = .ok (.iload_n 1, 1) := by decide +kernel
theorem dX9_isRow_5 : decode cX9_isRow 5 = .ok (.aload_n 0, 1) := by decide +kernel
theorem dX9_isRow_6 : decode cX9_isRow 6 = .ok (.getfield 113, 3) := by decide +kernel
theorem dX9_isRow_9 : decode cX9_isRow 9 = .ok (.if_icmp .ge 7, 3) := by decide +kernel
theorem dX9_isRow_12 : decode cX9_isRow 12 = .ok (.iconst 1, 1) := by decide +kernel
theorem dX9_isRow_13 : decode cX9_isRow 13 = .ok (.goto 4, 3) := by decide +kernel
theorem dX9_isRow_16 : decode cX9_isRow 16 = .ok (.iconst 0, 1) := by decide +kernel
theorem dX9_isRow_17 : decode cX9_isRow 17 = .ok (.ireturn, 1) := by decide +kernel
set_option maxRecDepth 20000 in
theorem ggX9_read_X9_isRow : GoodIn wsX9_read wsX9_isRow := goodIn_r _ [9, 10, 110, 111, 112, 113, 114, 115, 116, 117, 118, 119, 120, 121, 122, 123, 124, 125, 126, 127, 128, 129, 130, 131, 132, 133, 134, 135, 136] rfl (by decide +kernel)
set_option maxRecDepth 20000 in
theorem gX9_read_X9_isRow : GoodIn wsX9_read (wsV RX9 166 RX9 yX9_isRow wsX9_isRow) := goodIn_app (goodIn_of _ (by decide +kernel)) ggX9_read_X9_isRow
set_option maxRecDepth 20000 in
theorem ggX9_read_X9_isIn : GoodIn wsX9_read wsX9_isIn := goodIn_r _ [13] rfl (by decide +kernel)
set_option maxRecDepth 20000 in
theorem gX9_read_X9_isIn : GoodIn wsX9_read (va_wsS RX9 61 yX9_isIn wsX9_isIn) := goodIn_app (goodIn_of _ (by decide +kernel)) ggX9_read_X9_isIn
set_option maxRecDepth 20000 in
theorem ggX9_read_X9_reads : GoodIn wsX9_read wsX9_reads := goodIn_r _ [17, 18, 19, 20, 21, 22, 23, 24, 25, 26, 27, 3, 4, 28, 29, 30, 8, 31, 32, 33, 34, 35, 36, 11, 12, 13, 37, 38, 39, 40, 41, 42, 43, 44, 45, 46, 47, 48, 49, 50, 51, 52, 53, 54, 55, 56, 57, 58, 59, 60, 61, 62, 63, 64, 65, 66, 67, 68, 69, 70, 71, 72, 73, 74, 75, 76, 77, 78, 79, 80, 81, 82, 83, 84, 85, 86, 87, 88, 89, 90, 91, 92, 93, 94, 95, 96, 97, 98, 99, 100, 101, 102, 103, 104, 105, 106, 107, 108, 109, 110, 111, 112, 113, 114, 115, 116, 117, 118, 119, 120, 121, 122, 123, 124, 125, 126, 127, 128, 129, 130, 131, 132, 133, 134, 135, 136] rfl (by decide +kernel)
set_option maxRecDepth 20000 in
theorem gX9_read_X9_reads : GoodIn wsX9_read (wsV RX9 162 RX9 yX9_reads wsX9_reads) := goodIn_app (goodIn_of _ (by decide +kernel)) ggX9_read_X9_reads
theorem dX9_read_0 : decode cX9_read 0 = .ok (.aload_n 0, 1) := by decide +kernel
theorem dX9_read_1 : decode cX9_read 1 = .ok (.iconst 0, 1) := by decide +kernel
theorem dX9_read_2 : decode cX9_read 2 = .ok (.putfield 54, 3) := by decide +kernel
theorem dX9_read_5 : decode cX9_read 5 = .ok (.aload_n 0, 1) := by decide +kernel
theorem dX9_read_6 : decode cX9_read 6 = .ok (.iload_n 1, 1) := by decide +kernel
theorem dX9_read_7 : decode cX9_read 7 = .ok (.invokevirtual 166, 3) := by decide +kernel
theorem dX9_read_10 : decode cX9_read 10 = .ok (.ifCond .eq 35, 3) := by decide +kernel
theorem dX9_read_13 : decode cX9_read 13 = .ok (.iload_n 2, 1) := by decide +kernel
theorem dX9_read_14 : decode cX9_read 14 = .ok (.iconst 0, 1) := by decide +kernel
theorem dX9_read_15 : decode cX9_read 15 = .ok (.aload_n 0, 1) := by decide +kernel
theorem dX9_read_16 : decode cX9_read 16 = .ok (.getfield 103, 3) := by decide +kernel
theorem dX9_read_19 : decode cX9_read 19 = .ok (.iconst 1, 1) := by decide +kernel
theorem dX9_read_20 : decode cX9_read 20 = .ok (.isub, 1) := by decide +kernel
theorem dX9_read_21 : decode cX9_read 21 = .ok (.invokestatic 61, 3) := by decide +kernel
theorem dX9_read_24 : decode cX9_read 24 = .ok (.ifCond .eq 21, 3) := by decide +kernel
theorem dX9_read_27 : decode cX9_read 27 = .ok (.iload_n 3, 1) := by decide +kernel
theorem dX9_read_28 : decode cX9_read 28 = .ok (.iconst 0, 1) := by decide +kernel
theorem dX9_read_29 : decode cX9_read 29 = .ok (.iconst 1, 1) := by decide +kernel
theorem dX9_read_30 : decode cX9_read 30 = .ok (.invokestatic 61, 3) := by decide +kernel
theorem dX9_read_33 : decode cX9_read 33 = .ok (.ifCond .eq 12, 3) := by decide +kernel
theorem dX9_read_36 : decode cX9_read 36 = .ok (.aload_n 0, 1) := by decide +kernel
theorem dX9_read_37 : decode cX9_read 37 = .ok (.iload_n 1, 1) := by decide +kernel
theorem dX9_read_38 : decode cX9_read 38 = .ok (.iload_n 2, 1) := by decide +kernel
theorem dX9_read_39 : decode cX9_read 39 = .ok (.invokevirtual 162, 3) := by decide +kernel
theorem dX9_read_42 : decode cX9_read 42 = .ok (.ifCond .ne 5, 3) := by decide +kernel
theorem dX9_read_45 : decode cX9_read 45 = .ok (.iconst (-1), 1) := by decide +kernel
theorem dX9_read_46 : decode cX9_read 46 = .ok (.ireturn, 1) := by decide +kernel
theorem dX9_read_47 : decode cX9_read 47 = .ok (.iload_n 3, 1) := by decide +kernel
theorem dX9_read_48 : decode cX9_read 48 = .ok (.ifCond .ne 10, 3) := by decide +kernel
theorem dX9_read_51 : decode cX9_read 51 = .ok (.aload_n 0, 1) := by decide +kernel
theorem dX9_read_52 : decode cX9_read 52 = .ok (.getfield 156, 3) := by decide +kernel
theorem dX9_read_55 : decode cX9_read 55 = .ok (.goto 7, 3) := by decide +kernel
theorem dX9_read_58 : decode cX9_read 58 = .ok (.aload_n 0, 1) := by decide +kernel
theorem dX9_read_59 : decode cX9_read 59 = .ok (.getfield 159, 3) := by decide +kernel
theorem dX9_read_62 : decode cX9_read 62 = .ok (.ireturn, 1) := by decide +kernel
set_option maxRecDepth 20000 in
theorem ggX9_readings_X9_isRow : GoodIn wsX9_readings wsX9_isRow := goodIn_r _ [8, 9, 120, 121, 122, 123, 124, 125, 126, 127, 128, 129, 130, 131, 132, 133, 134, 135, 136, 137, 138, 139, 140, 141, 142, 143, 144, 145, 146] rfl (by decide +kernel)
set_option maxRecDepth 20000 in
theorem gX9_readings_X9_isRow : GoodIn wsX9_readings (wsV RX9 166 RX9 yX9_isRow wsX9_isRow) := goodIn_app (goodIn_of _ (by decide +kernel)) ggX9_readings_X9_isRow
set_option maxRecDepth 20000 in
theorem ggX9_readings_X9_readAll : GoodIn wsX9_readings wsX9_readAll := goodIn_r _ [13, 9, 2, 3, 14, 15, 16, 17, 18, 19, 7, 20, 21, 22, 23, 24, 25, 26, 27, 28, 29, 30, 31, 32, 33, 34, 35, 36, 37, 38, 39, 40, 41, 42, 43, 44, 45, 46, 47, 48, 49, 50, 51, 52, 53, 54, 55, 56, 57, 58, 59, 60, 61, 62, 63, 64, 65, 66, 67, 68, 69, 70, 71, 72, 73, 74, 75, 76, 77, 78, 79, 80, 81, 82, 83, 84, 85, 86, 87, 88, 89, 90, 91, 92, 93, 94, 95, 96, 97, 98, 99, 100, 101, 102, 103, 104, 105, 106, 107, 108, 109, 110, 111, 112, 113, 114, 115, 120, 121, 122, 123, 124, 125, 126, 127, 128, 129, 130, 131, 132, 133, 134, 135, 136, 137, 138, 139, 140, 141, 142, 143, 144, 145, 146] rfl (by decide +kernel)
set_option maxRecDepth 20000 in
theorem gX9_readings_X9_readAll : GoodIn wsX9_readings (wsV RX9 169 RX9 yX9_readAll wsX9_readAll) := goodIn_app (goodIn_of _ (by decide +kernel)) ggX9_readings_X9_readAll
set_option maxRecDepth 20000 in
theorem ggX9_readings_X9_isSame : GoodIn wsX9_readings wsX9_isSame := goodIn_r _ [119, 3, 15, 120, 121, 122, 123, 124, 125, 126, 127, 128, 129, 130, 131, 132, 133, 134, 135, 136, 137, 138, 139, 140, 141, 142, 143, 144, 145, 146] rfl (by decide +kernel)
set_option maxRecDepth 20000 in
theorem gX9_readings_X9_isSame : GoodIn wsX9_readings (wsV RX9 172 RX9 yX9_isSame wsX9_isSame) := goodIn_app (goodIn_of _ (by decide +kernel)) ggX9_readings_X9_isSame
theorem dX9_readings_0 : decode cX9_readings 0 = .ok (.aload_n 0, 1) := by decide +kernel
theorem dX9_readings_1 : decode cX9_readings 1 = .ok (.iconst 0, 1) := by decide +kernel
theorem dX9_readings_2 : decode cX9_readings 2 = .ok (.putfield 54, 3) := by decide +kernel
theorem dX9_readings_5 : decode cX9_readings 5 = .ok (.aload_n 0, 1) := by decide +kernel
theorem dX9_readings_6 : decode cX9_readings 6 = .ok (.iload_n 1, 1) := by decide +kernel
theorem dX9_readings_7 : decode cX9_readings 7 = .ok (.invokevirtual 166, 3) := by decide +kernel
theorem dX9_readings_10 : decode cX9_readings 10 = .ok (.ifCond .ne 5, 3) := by decide +kernel
theorem dX9_readings_13 : decode cX9_readings 13 = .ok (.iconst (-1), 1) := by decide +kernel
theorem dX9_readings_14 : decode cX9_readings 14 = .ok (.ireturn, 1) := by decide +kernel
theorem dX9_readings_15 : decode cX9_readings 15 = .ok (.aload_n 0, 1) := by decide +kernel
theorem dX9_readings_16 : decode cX9_readings 16 = .ok (.invokevirtual 169, 3) := by decide +kernel
theorem dX9_readings_19 : decode cX9_readings 19 = .ok (.iconst 0, 1) := by decide +kernel
theorem dX9_readings_20 : decode cX9_readings 20 = .ok (.istore_n 2, 1) := by decide +kernel
theorem dX9_readings_21 : decode cX9_readings 21 = .ok (.iconst 0, 1) := by decide +kernel
theorem dX9_readings_22 : decode cX9_readings 22 = .ok (.istore_n 3, 1) := by decide +kernel
theorem dX9_readings_23 : decode cX9_readings 23 = .ok (.iload_n 3, 1) := by decide +kernel
theorem dX9_readings_24 : decode cX9_readings 24 = .ok (.aload_n 0, 1) := by decide +kernel
theorem dX9_readings_25 : decode cX9_readings 25 = .ok (.getfield 103, 3) := by decide +kernel
theorem dX9_readings_28 : decode cX9_readings 28 = .ok (.if_icmp .ge 82, 3) := by decide +kernel
theorem dX9_readings_31 : decode cX9_readings 31 = .ok (.aload_n 0, 1) := by decide +kernel
theorem dX9_readings_32 : decode cX9_readings 32 = .ok (.getfield 36, 3) := by decide +kernel
theorem dX9_readings_35 : decode cX9_readings 35 = .ok (.bipush 8, 2) := by decide +kernel
theorem dX9_readings_37 : decode cX9_readings 37 = .ok (.iload_n 1, 1) := by decide +kernel
theorem dX9_readings_38 : decode cX9_readings 38 = .ok (.imul, 1) := by decide +kernel
theorem dX9_readings_39 : decode cX9_readings 39 = .ok (.iload_n 3, 1) := by decide +kernel
theorem dX9_readings_40 : decode cX9_readings 40 = .ok (.iadd, 1) := by decide +kernel
theorem dX9_readings_41 : decode cX9_readings 41 = .ok (.iaload, 1) := by decide +kernel
theorem dX9_readings_42 : decode cX9_readings 42 = .ok (.iconst (-1), 1) := by decide +kernel
theorem dX9_readings_43 : decode cX9_readings 43 = .ok (.if_icmp .eq 7, 3) := by decide +kernel
theorem dX9_readings_46 : decode cX9_readings 46 = .ok (.iconst 1, 1) := by decide +kernel
theorem dX9_readings_47 : decode cX9_readings 47 = .ok (.goto 4, 3) := by decide +kernel
theorem dX9_readings_50 : decode cX9_readings 50 = .ok (.iconst 0, 1) := by decide +kernel
theorem dX9_readings_51 : decode cX9_readings 51 = .ok (.istore 4, 2) := by decide +kernel
theorem dX9_readings_53 : decode cX9_readings 53 = .ok (.iconst 0, 1) := by decide +kernel
theorem dX9_readings_54 : decode cX9_readings 54 = .ok (.istore 5, 2) := by decide +kernel
theorem dX9_readings_56 : decode cX9_readings 56 = .ok (.iload 5, 2) := by decide +kernel
theorem dX9_readings_58 : decode cX9_readings 58 = .ok (.iload_n 3, 1) := by decide +kernel
theorem dX9_readings_59 : decode cX9_readings 59 = .ok (.if_icmp .ge 32, 3) := by decide +kernel
theorem dX9_readings_62 : decode cX9_readings 62 = .ok (.iload 4, 2) := by decide +kernel
theorem dX9_readings_64 : decode cX9_readings 64 = .ok (.ifCond .eq 18, 3) := by decide +kernel
theorem dX9_readings_67 : decode cX9_readings 67 = .ok (.aload_n 0, 1) := by decide +kernel
theorem dX9_readings_68 : decode cX9_readings 68 = .ok (.iload_n 1, 1) := by decide +kernel
theorem dX9_readings_69 : decode cX9_readings 69 = .ok (.iload_n 3, 1) := by decide +kernel
theorem dX9_readings_70 : decode cX9_readings 70 = .ok (.iload 5, 2) := by decide +kernel
theorem dX9_readings_72 : decode cX9_readings 72 = .ok (.invokevirtual 172, 3) := by decide +kernel
theorem dX9_readings_75 : decode cX9_readings 75 = .ok (.ifCond .ne 7, 3) := by decide +kernel
theorem dX9_readings_78 : decode cX9_readings 78 = .ok (.iconst 1, 1) := by decide +kernel
theorem dX9_readings_79 : decode cX9_readings 79 = .ok (.goto 4, 3) := by decide +kernel
theorem dX9_readings_82 : decode cX9_readings 82 = .ok (.iconst 0, 1) := by decide +kernel
theorem dX9_readings_83 : decode cX9_readings 83 = .ok (.istore 4, 2) := by decide +kernel
theorem dX9_readings_85 : decode cX9_readings 85 = .ok (.iinc 5 1, 3) := by decide +kernel
theorem dX9_readings_88 : decode cX9_readings 88 = .ok (.goto (-32), 3) := by decide +kernel
theorem dX9_readings_91 : decode cX9_readings 91 = .ok (.iload_n 2, 1) := by decide +kernel
theorem dX9_readings_92 : decode cX9_readings 92 = .ok (.iload 4, 2) := by decide +kernel
theorem dX9_readings_94 : decode cX9_readings 94 = .ok (.ifCond .eq 7, 3) := by decide +kernel
theorem dX9_readings_97 : decode cX9_readings 97 = .ok (.iconst 1, 1) := by decide +kernel
theorem dX9_readings_98 : decode cX9_readings 98 = .ok (.goto 4, 3) := by decide +kernel
theorem dX9_readings_101 : decode cX9_readings 101 = .ok (.iconst 0, 1) := by decide +kernel
theorem dX9_readings_102 : decode cX9_readings 102 = .ok (.iadd, 1) := by decide +kernel
theorem dX9_readings_103 : decode cX9_readings 103 = .ok (.istore_n 2, 1) := by decide +kernel
theorem dX9_readings_104 : decode cX9_readings 104 = .ok (.iinc 3 1, 3) := by decide +kernel
theorem dX9_readings_107 : decode cX9_readings 107 = .ok (.goto (-84), 3) := by decide +kernel
theorem dX9_readings_110 : decode cX9_readings 110 = .ok (.iload_n 2, 1) := by decide +kernel
theorem dX9_readings_111 : decode cX9_readings 111 = .ok (.ireturn, 1) := by decide +kernel
theorem dX9_isSame_0 : decode cX9_isSame 0 = .ok (.aload_n 0, 1) := by decide +kernel
theorem dX9_isSame_1 : decode cX9_isSame 1 = .ok (.getfield 36, 3) := by decide +kernel
theorem dX9_isSame_4 : decode cX9_isSame 4 = .ok (.bipush 8, 2) := by decide +kernel
theorem dX9_isSame_6 : decode cX9_isSame 6 = .ok (.iload_n 1, 1) := by decide +kernel
theorem dX9_isSame_7 : decode cX9_isSame 7 = .ok (.imul, 1) := by decide +kernel
theorem dX9_isSame_8 : decode cX9_isSame 8 = .ok (.iload_n 2, 1) := by decide +kernel
theorem dX9_isSame_9 : decode cX9_isSame 9 = .ok (.iadd, 1) := by decide +kernel
theorem dX9_isSame_10 : decode cX9_isSame 10 = .ok (.iaload, 1) := by decide +kernel
theorem dX9_isSame_11 : decode cX9_isSame 11 = .ok (.aload_n 0, 1) := by decide +kernel
theorem dX9_isSame_12 : decode cX9_isSame 12 = .ok (.getfield 36, 3) := by decide +kernel
theorem dX9_isSame_15 : decode cX9_isSame 15 = .ok (.bipush 8, 2) := by decide +kernel
theorem dX9_isSame_17 : decode cX9_isSame 17 = .ok (.iload_n 1, 1) := by decide +kernel
theorem dX9_isSame_18 : decode cX9_isSame 18 = .ok (.imul, 1) := by decide +kernel
theorem dX9_isSame_19 : decode cX9_isSame 19 = .ok (.iload_n 3, 1) := by decide +kernel
theorem dX9_isSame_20 : decode cX9_isSame 20 = .ok (.iadd, 1) := by decide +kernel
theorem dX9_isSame_21 : decode cX9_isSame 21 = .ok (.iaload, 1) := by decide +kernel
theorem dX9_isSame_22 : decode cX9_isSame 22 = .ok (.if_icmp .ne 32, 3) := by decide +kernel
theorem dX9_isSame_25 : decode cX9_isSame 25 = .ok (.aload_n 0, 1) := by decide +kernel
theorem dX9_isSame_26 : decode cX9_isSame 26 = .ok (.getfield 39, 3) := by decide +kernel
theorem dX9_isSame_29 : decode cX9_isSame 29 = .ok (.bipush 8, 2) := by decide +kernel
theorem dX9_isSame_31 : decode cX9_isSame 31 = .ok (.iload_n 1, 1) := by decide +kernel
theorem dX9_isSame_32 : decode cX9_isSame 32 = .ok (.imul, 1) := by decide +kernel
theorem dX9_isSame_33 : decode cX9_isSame 33 = .ok (.iload_n 2, 1) := by decide +kernel
theorem dX9_isSame_34 : decode cX9_isSame 34 = .ok (.iadd, 1) := by decide +kernel
theorem dX9_isSame_35 : decode cX9_isSame 35 = .ok (.iaload, 1) := by decide +kernel
theorem dX9_isSame_36 : decode cX9_isSame 36 = .ok (.aload_n 0, 1) := by decide +kernel
theorem dX9_isSame_37 : decode cX9_isSame 37 = .ok (.getfield 39, 3) := by decide +kernel
theorem dX9_isSame_40 : decode cX9_isSame 40 = .ok (.bipush 8, 2) := by decide +kernel
theorem dX9_isSame_42 : decode cX9_isSame 42 = .ok (.iload_n 1, 1) := by decide +kernel
theorem dX9_isSame_43 : decode cX9_isSame 43 = .ok (.imul, 1) := by decide +kernel
theorem dX9_isSame_44 : decode cX9_isSame 44 = .ok (.iload_n 3, 1) := by decide +kernel
theorem dX9_isSame_45 : decode cX9_isSame 45 = .ok (.iadd, 1) := by decide +kernel
theorem dX9_isSame_46 : decode cX9_isSame 46 = .ok (.iaload, 1) := by decide +kernel
theorem dX9_isSame_47 : decode cX9_isSame 47 = .ok (.if_icmp .ne 7, 3) := by decide +kernel
theorem dX9_isSame_50 : decode cX9_isSame 50 = .ok (.iconst 1, 1) := by decide +kernel
theorem dX9_isSame_51 : decode cX9_isSame 51 = .ok (.goto 4, 3) := by decide +kernel
theorem dX9_isSame_54 : decode cX9_isSame 54 = .ok (.iconst 0, 1) := by decide +kernel
theorem dX9_isSame_55 : decode cX9_isSame 55 = .ok (.ireturn, 1) := by decide +kernel
theorem dX9_miss_0 : decode cX9_miss 0 = .ok (.aload_n 0, 1) := by decide +kernel
theorem dX9_miss_1 : decode cX9_miss 1 = .ok (.getfield 36, 3) := by decide +kernel
theorem dX9_miss_4 : decode cX9_miss 4 = .ok (.bipush 8, 2) := by decide +kernel
theorem dX9_miss_6 : decode cX9_miss 6 = .ok (.iload_n 1, 1) := by decide +kernel
theorem dX9_miss_7 : decode cX9_miss 7 = .ok (.imul, 1) := by decide +kernel
theorem dX9_miss_8 : decode cX9_miss 8 = .ok (.iload_n 2, 1) := by decide +kernel
theorem dX9_miss_9 : decode cX9_miss 9 = .ok (.iadd, 1) := by decide +kernel
theorem dX9_miss_10 : decode cX9_miss 10 = .ok (.iaload, 1) := by decide +kernel
theorem dX9_miss_11 : decode cX9_miss 11 = .ok (.iconst (-1), 1) := by decide +kernel
theorem dX9_miss_12 : decode cX9_miss 12 = .ok (.if_icmp .ne 12, 3) := by decide +kernel
theorem dX9_miss_15 : decode cX9_miss 15 = .ok (.aload_n 0, 1) := by decide +kernel
theorem dX9_miss_16 : decode cX9_miss 16 = .ok (.getfield 29, 3) := by decide +kernel
theorem dX9_miss_19 : decode cX9_miss 19 = .ok (.iconst 1, 1) := by decide +kernel
theorem dX9_miss_20 : decode cX9_miss 20 = .ok (.iaload, 1) := by decide +kernel
theorem dX9_miss_21 : decode cX9_miss 21 = .ok (.goto 4, 3) := by decide +kernel
theorem dX9_miss_24 : decode cX9_miss 24 = .ok (.iconst 0, 1) := by decide +kernel
theorem dX9_miss_25 : decode cX9_miss 25 = .ok (.ireturn, 1) := by decide +kernel
theorem dX9_step_0 : decode cX9_step 0 = .ok (.iload_n 2, 1) := by decide +kernel
theorem dX9_step_1 : decode cX9_step 1 = .ok (.iload_n 3, 1) := by decide +kernel
theorem dX9_step_2 : decode cX9_step 2 = .ok (.if_icmp .ne 7, 3) := by decide +kernel
theorem dX9_step_5 : decode cX9_step 5 = .ok (.iconst 0, 1) := by decide +kernel
theorem dX9_step_6 : decode cX9_step 6 = .ok (.goto 16, 3) := by decide +kernel
theorem dX9_step_9 : decode cX9_step 9 = .ok (.aload_n 0, 1) := by decide +kernel
theorem dX9_step_10 : decode cX9_step 10 = .ok (.getfield 29, 3) := by decide +kernel
theorem dX9_step_13 : decode cX9_step 13 = .ok (.iconst 0, 1) := by decide +kernel
theorem dX9_step_14 : decode cX9_step 14 = .ok (.iaload, 1) := by decide +kernel
theorem dX9_step_15 : decode cX9_step 15 = .ok (.aload_n 0, 1) := by decide +kernel
theorem dX9_step_16 : decode cX9_step 16 = .ok (.getfield 23, 3) := by decide +kernel
theorem dX9_step_19 : decode cX9_step 19 = .ok (.iload_n 3, 1) := by decide +kernel
theorem dX9_step_20 : decode cX9_step 20 = .ok (.iaload, 1) := by decide +kernel
theorem dX9_step_21 : decode cX9_step 21 = .ok (.iadd, 1) := by decide +kernel
theorem dX9_step_22 : decode cX9_step 22 = .ok (.istore 4, 2) := by decide +kernel
theorem dX9_step_24 : decode cX9_step 24 = .ok (.bipush 8, 2) := by decide +kernel
theorem dX9_step_26 : decode cX9_step 26 = .ok (.iload_n 1, 1) := by decide +kernel
theorem dX9_step_27 : decode cX9_step 27 = .ok (.imul, 1) := by decide +kernel
theorem dX9_step_28 : decode cX9_step 28 = .ok (.iload_n 2, 1) := by decide +kernel
theorem dX9_step_29 : decode cX9_step 29 = .ok (.iadd, 1) := by decide +kernel
theorem dX9_step_30 : decode cX9_step 30 = .ok (.istore 5, 2) := by decide +kernel
theorem dX9_step_32 : decode cX9_step 32 = .ok (.bipush 8, 2) := by decide +kernel
theorem dX9_step_34 : decode cX9_step 34 = .ok (.iload_n 1, 1) := by decide +kernel
theorem dX9_step_35 : decode cX9_step 35 = .ok (.iconst 1, 1) := by decide +kernel
theorem dX9_step_36 : decode cX9_step 36 = .ok (.iadd, 1) := by decide +kernel
theorem dX9_step_37 : decode cX9_step 37 = .ok (.imul, 1) := by decide +kernel
theorem dX9_step_38 : decode cX9_step 38 = .ok (.iload_n 3, 1) := by decide +kernel
theorem dX9_step_39 : decode cX9_step 39 = .ok (.iadd, 1) := by decide +kernel
theorem dX9_step_40 : decode cX9_step 40 = .ok (.istore 6, 2) := by decide +kernel
theorem dX9_step_42 : decode cX9_step 42 = .ok (.aload_n 0, 1) := by decide +kernel
theorem dX9_step_43 : decode cX9_step 43 = .ok (.getfield 36, 3) := by decide +kernel
theorem dX9_step_46 : decode cX9_step 46 = .ok (.iload 5, 2) := by decide +kernel
theorem dX9_step_48 : decode cX9_step 48 = .ok (.iaload, 1) := by decide +kernel
theorem dX9_step_49 : decode cX9_step 49 = .ok (.iconst (-1), 1) := by decide +kernel
theorem dX9_step_50 : decode cX9_step 50 = .ok (.if_icmp .eq 43, 3) := by decide +kernel
theorem dX9_step_53 : decode cX9_step 53 = .ok (.aload_n 0, 1) := by decide +kernel
theorem dX9_step_54 : decode cX9_step 54 = .ok (.getfield 36, 3) := by decide +kernel
theorem dX9_step_57 : decode cX9_step 57 = .ok (.iload 6, 2) := by decide +kernel
theorem dX9_step_59 : decode cX9_step 59 = .ok (.iaload, 1) := by decide +kernel
theorem dX9_step_60 : decode cX9_step 60 = .ok (.iconst (-1), 1) := by decide +kernel
theorem dX9_step_61 : decode cX9_step 61 = .ok (.if_icmp .eq 32, 3) := by decide +kernel
theorem dX9_step_64 : decode cX9_step 64 = .ok (.aload_n 0, 1) := by decide +kernel
theorem dX9_step_65 : decode cX9_step 65 = .ok (.getfield 36, 3) := by decide +kernel
theorem dX9_step_68 : decode cX9_step 68 = .ok (.iload 5, 2) := by decide +kernel
theorem dX9_step_70 : decode cX9_step 70 = .ok (.iaload, 1) := by decide +kernel
theorem dX9_step_71 : decode cX9_step 71 = .ok (.aload_n 0, 1) := by decide +kernel
theorem dX9_step_72 : decode cX9_step 72 = .ok (.getfield 39, 3) := by decide +kernel
theorem dX9_step_75 : decode cX9_step 75 = .ok (.iload 6, 2) := by decide +kernel
theorem dX9_step_77 : decode cX9_step 77 = .ok (.iaload, 1) := by decide +kernel
theorem dX9_step_78 : decode cX9_step 78 = .ok (.if_icmp .le 15, 3) := by decide +kernel
theorem dX9_step_81 : decode cX9_step 81 = .ok (.iload 4, 2) := by decide +kernel
theorem dX9_step_83 : decode cX9_step 83 = .ok (.aload_n 0, 1) := by decide +kernel
theorem dX9_step_84 : decode cX9_step 84 = .ok (.getfield 29, 3) := by decide +kernel
theorem dX9_step_87 : decode cX9_step 87 = .ok (.iconst 2, 1) := by decide +kernel
theorem dX9_step_88 : decode cX9_step 88 = .ok (.iaload, 1) := by decide +kernel
theorem dX9_step_89 : decode cX9_step 89 = .ok (.iadd, 1) := by decide +kernel
theorem dX9_step_90 : decode cX9_step 90 = .ok (.goto 5, 3) := by decide +kernel
theorem dX9_step_93 : decode cX9_step 93 = .ok (.iload 4, 2) := by decide +kernel
theorem dX9_step_95 : decode cX9_step 95 = .ok (.ireturn, 1) := by decide +kernel
set_option maxRecDepth 20000 in
theorem ggX9_finds_X9_readAll : GoodIn wsX9_finds wsX9_readAll := goodIn_r _ [18, 3, 2, 19, 20, 21, 22, 23, 24, 25, 17, 26, 27, 28, 29, 30, 31, 32, 33, 34, 9, 35, 36, 37, 38, 39, 40, 41, 42, 43, 44, 45, 46, 47, 48, 49, 50, 51, 52, 53, 54, 55, 56, 57, 58, 59, 60, 61, 62, 63, 64, 65, 66, 67, 68, 69, 70, 71, 72, 73, 74, 75, 76, 77, 78, 79, 80, 81, 82, 83, 84, 85, 86, 87, 88, 89, 90, 91, 92, 93, 94, 95, 96, 97, 98, 99, 100, 101, 102, 103, 104, 105, 106, 107, 108, 109, 110, 111, 112, 113, 114, 115, 116, 117, 118, 119, 120, 130, 131, 132, 133, 134, 135, 136, 137, 138, 139, 140, 141, 142, 143, 144, 145, 146, 147, 148, 149, 150, 151, 152, 153, 154, 155, 156] rfl (by decide +kernel)
set_option maxRecDepth 20000 in
theorem gX9_finds_X9_readAll : GoodIn wsX9_finds (wsV RX9 169 RX9 yX9_readAll wsX9_readAll) := goodIn_app (goodIn_of _ (by decide +kernel)) ggX9_finds_X9_readAll
set_option maxRecDepth 20000 in
theorem ggX9_finds_X9_step : GoodIn wsX9_finds wsX9_step := goodIn_r _ [124, 125, 4, 19, 21, 130, 131, 132, 133, 134, 135, 136, 137, 138, 139, 140, 141, 142, 143, 144, 145, 146, 147, 148, 149, 150, 151, 152, 153, 154, 155, 156] rfl (by decide +kernel)
set_option maxRecDepth 20000 in
theorem gX9_finds_X9_step : GoodIn wsX9_finds (wsV RX9 176 RX9 yX9_step wsX9_step) := goodIn_app (goodIn_of _ (by decide +kernel)) ggX9_finds_X9_step
set_option maxRecDepth 20000 in
theorem ggX9_finds_X9_miss : GoodIn wsX9_finds wsX9_miss := goodIn_r _ [129, 19, 125, 130, 131, 132, 133, 134, 135, 136, 137, 138, 139, 140, 141, 142, 143, 144, 145, 146, 147, 148, 149, 150, 151, 152, 153, 154, 155, 156] rfl (by decide +kernel)
set_option maxRecDepth 20000 in
theorem gX9_finds_X9_miss : GoodIn wsX9_finds (wsV RX9 182 RX9 yX9_miss wsX9_miss) := goodIn_app (goodIn_of _ (by decide +kernel)) ggX9_finds_X9_miss
theorem dX9_finds_0 : decode cX9_finds 0 = .ok (.aload_n 0, 1) := by decide +kernel
theorem dX9_finds_1 : decode cX9_finds 1 = .ok (.iconst 0, 1) := by decide +kernel
theorem dX9_finds_2 : decode cX9_finds 2 = .ok (.putfield 54, 3) := by decide +kernel
theorem dX9_finds_5 : decode cX9_finds 5 = .ok (.aload_n 0, 1) := by decide +kernel
theorem dX9_finds_6 : decode cX9_finds 6 = .ok (.getfield 103, 3) := by decide +kernel
theorem dX9_finds_9 : decode cX9_finds 9 = .ok (.ifCond .eq 10, 3) := by decide +kernel
theorem dX9_finds_12 : decode cX9_finds 12 = .ok (.aload_n 0, 1) := by decide +kernel
theorem dX9_finds_13 : decode cX9_finds 13 = .ok (.getfield 113, 3) := by decide +kernel
theorem dX9_finds_16 : decode cX9_finds 16 = .ok (.ifCond .ne 5, 3) := by decide +kernel
theorem dX9_finds_19 : decode cX9_finds 19 = .ok (.iconst 0, 1) := by decide +kernel
theorem dX9_finds_20 : decode cX9_finds 20 = .ok (.ireturn, 1) := by decide +kernel
theorem dX9_finds_21 : decode cX9_finds 21 = .ok (.aload_n 0, 1) := by decide +kernel
theorem dX9_finds_22 : decode cX9_finds 22 = .ok (.invokevirtual 169, 3) := by decide +kernel
theorem dX9_finds_25 : decode cX9_finds 25 = .ok (.iconst 0, 1) := by decide +kernel
theorem dX9_finds_26 : decode cX9_finds 26 = .ok (.istore_n 1, 1) := by decide +kernel
theorem dX9_finds_27 : decode cX9_finds 27 = .ok (.iload_n 1, 1) := by decide +kernel
theorem dX9_finds_28 : decode cX9_finds 28 = .ok (.aload_n 0, 1) := by decide +kernel
theorem dX9_finds_29 : decode cX9_finds 29 = .ok (.getfield 113, 3) := by decide +kernel
theorem dX9_finds_32 : decode cX9_finds 32 = .ok (.if_icmp .ge 112, 3) := by decide +kernel
theorem dX9_finds_35 : decode cX9_finds 35 = .ok (.iconst 0, 1) := by decide +kernel
theorem dX9_finds_36 : decode cX9_finds 36 = .ok (.istore_n 2, 1) := by decide +kernel
theorem dX9_finds_37 : decode cX9_finds 37 = .ok (.iload_n 2, 1) := by decide +kernel
theorem dX9_finds_38 : decode cX9_finds 38 = .ok (.aload_n 0, 1) := by decide +kernel
theorem dX9_finds_39 : decode cX9_finds 39 = .ok (.getfield 103, 3) := by decide +kernel
theorem dX9_finds_42 : decode cX9_finds 42 = .ok (.if_icmp .ge 96, 3) := by decide +kernel
theorem dX9_finds_45 : decode cX9_finds 45 = .ok (.iload_n 1, 1) := by decide +kernel
theorem dX9_finds_46 : decode cX9_finds 46 = .ok (.ifCond .ne 12, 3) := by decide +kernel
theorem dX9_finds_49 : decode cX9_finds 49 = .ok (.aload_n 0, 1) := by decide +kernel
theorem dX9_finds_50 : decode cX9_finds 50 = .ok (.getfield 23, 3) := by decide +kernel
theorem dX9_finds_53 : decode cX9_finds 53 = .ok (.iload_n 2, 1) := by decide +kernel
theorem dX9_finds_54 : decode cX9_finds 54 = .ok (.iaload, 1) := by decide +kernel
theorem dX9_finds_55 : decode cX9_finds 55 = .ok (.goto 5, 3) := by decide +kernel
theorem dX9_finds_58 : decode cX9_finds 58 = .ok (.ldc 175, 2) := by decide +kernel
theorem dX9_finds_60 : decode cX9_finds 60 = .ok (.istore_n 3, 1) := by decide +kernel
theorem dX9_finds_61 : decode cX9_finds 61 = .ok (.iconst 0, 1) := by decide +kernel
theorem dX9_finds_62 : decode cX9_finds 62 = .ok (.istore 4, 2) := by decide +kernel
theorem dX9_finds_64 : decode cX9_finds 64 = .ok (.iload 4, 2) := by decide +kernel
theorem dX9_finds_66 : decode cX9_finds 66 = .ok (.aload_n 0, 1) := by decide +kernel
theorem dX9_finds_67 : decode cX9_finds 67 = .ok (.getfield 103, 3) := by decide +kernel
theorem dX9_finds_70 : decode cX9_finds 70 = .ok (.if_icmp .ge 43, 3) := by decide +kernel
theorem dX9_finds_73 : decode cX9_finds 73 = .ok (.iload_n 1, 1) := by decide +kernel
theorem dX9_finds_74 : decode cX9_finds 74 = .ok (.ifCond .le 39, 3) := by decide +kernel
theorem dX9_finds_77 : decode cX9_finds 77 = .ok (.iload_n 3, 1) := by decide +kernel
theorem dX9_finds_78 : decode cX9_finds 78 = .ok (.aload_n 0, 1) := by decide +kernel
theorem dX9_finds_79 : decode cX9_finds 79 = .ok (.getfield 42, 3) := by decide +kernel
theorem dX9_finds_82 : decode cX9_finds 82 = .ok (.bipush 8, 2) := by decide +kernel
theorem dX9_finds_84 : decode cX9_finds 84 = .ok (.iload_n 1, 1) := by decide +kernel
theorem dX9_finds_85 : decode cX9_finds 85 = .ok (.iconst 1, 1) := by decide +kernel
theorem dX9_finds_86 : decode cX9_finds 86 = .ok (.isub, 1) := by decide +kernel
theorem dX9_finds_87 : decode cX9_finds 87 = .ok (.imul, 1) := by decide +kernel
theorem dX9_finds_88 : decode cX9_finds 88 = .ok (.iload 4, 2) := by decide +kernel
theorem dX9_finds_90 : decode cX9_finds 90 = .ok (.iadd, 1) := by decide +kernel
theorem dX9_finds_91 : decode cX9_finds 91 = .ok (.iaload, 1) := by decide +kernel
theorem dX9_finds_92 : decode cX9_finds 92 = .ok (.aload_n 0, 1) := by decide +kernel
theorem dX9_finds_93 : decode cX9_finds 93 = .ok (.iload_n 1, 1) := by decide +kernel
theorem dX9_finds_94 : decode cX9_finds 94 = .ok (.iconst 1, 1) := by decide +kernel
theorem dX9_finds_95 : decode cX9_finds 95 = .ok (.isub, 1) := by decide +kernel
theorem dX9_finds_96 : decode cX9_finds 96 = .ok (.iload 4, 2) := by decide +kernel
theorem dX9_finds_98 : decode cX9_finds 98 = .ok (.iload_n 2, 1) := by decide +kernel
theorem dX9_finds_99 : decode cX9_finds 99 = .ok (.invokevirtual 176, 3) := by decide +kernel
theorem dX9_finds_102 : decode cX9_finds 102 = .ok (.iadd, 1) := by decide +kernel
theorem dX9_finds_103 : decode cX9_finds 103 = .ok (.invokestatic 179, 3) := by decide +kernel
theorem dX9_finds_106 : decode cX9_finds 106 = .ok (.istore_n 3, 1) := by decide +kernel
theorem dX9_finds_107 : decode cX9_finds 107 = .ok (.iinc 4 1, 3) := by decide +kernel
theorem dX9_finds_110 : decode cX9_finds 110 = .ok (.goto (-46), 3) := by decide +kernel
theorem dX9_finds_113 : decode cX9_finds 113 = .ok (.aload_n 0, 1) := by decide +kernel
theorem dX9_finds_114 : decode cX9_finds 114 = .ok (.getfield 42, 3) := by decide +kernel
theorem dX9_finds_117 : decode cX9_finds 117 = .ok (.bipush 8, 2) := by decide +kernel
theorem dX9_finds_119 : decode cX9_finds 119 = .ok (.iload_n 1, 1) := by decide +kernel
theorem dX9_finds_120 : decode cX9_finds 120 = .ok (.imul, 1) := by decide +kernel
theorem dX9_finds_121 : decode cX9_finds 121 = .ok (.iload_n 2, 1) := by decide +kernel
theorem dX9_finds_122 : decode cX9_finds 122 = .ok (.iadd, 1) := by decide +kernel
theorem dX9_finds_123 : decode cX9_finds 123 = .ok (.iload_n 3, 1) := by decide +kernel
theorem dX9_finds_124 : decode cX9_finds 124 = .ok (.aload_n 0, 1) := by decide +kernel
theorem dX9_finds_125 : decode cX9_finds 125 = .ok (.iload_n 1, 1) := by decide +kernel
theorem dX9_finds_126 : decode cX9_finds 126 = .ok (.iload_n 2, 1) := by decide +kernel
theorem dX9_finds_127 : decode cX9_finds 127 = .ok (.invokevirtual 182, 3) := by decide +kernel
theorem dX9_finds_130 : decode cX9_finds 130 = .ok (.iadd, 1) := by decide +kernel
theorem dX9_finds_131 : decode cX9_finds 131 = .ok (.iastore, 1) := by decide +kernel
theorem dX9_finds_132 : decode cX9_finds 132 = .ok (.iinc 2 1, 3) := by decide +kernel
theorem dX9_finds_135 : decode cX9_finds 135 = .ok (.goto (-98), 3) := by decide +kernel
theorem dX9_finds_138 : decode cX9_finds 138 = .ok (.iinc 1 1, 3) := by decide +kernel
theorem dX9_finds_141 : decode cX9_finds 141 = .ok (.goto (-114), 3) := by decide +kernel
theorem dX9_finds_144 : decode cX9_finds 144 = .ok (.aload_n 0, 1) := by decide +kernel
theorem dX9_finds_145 : decode cX9_finds 145 = .ok (.getfield 113, 3) := by decide +kernel
theorem dX9_finds_148 : decode cX9_finds 148 = .ok (.iconst 1, 1) := by decide +kernel
theorem dX9_finds_149 : decode cX9_finds 149 = .ok (.isub, 1) := by decide +kernel
theorem dX9_finds_150 : decode cX9_finds 150 = .ok (.istore_n 1, 1) := by decide +kernel
theorem dX9_finds_151 : decode cX9_finds 151 = .ok (.iload_n 1, 1) := by decide +kernel
theorem dX9_finds_152 : decode cX9_finds 152 = .ok (.ifCond .lt 117, 3) := by decide +kernel
theorem dX9_finds_155 : decode cX9_finds 155 = .ok (.iconst 0, 1) := by decide +kernel
theorem dX9_finds_156 : decode cX9_finds 156 = .ok (.istore_n 2, 1) := by decide +kernel
theorem dX9_finds_157 : decode cX9_finds 157 = .ok (.iload_n 2, 1) := by decide +kernel
theorem dX9_finds_158 : decode cX9_finds 158 = .ok (.aload_n 0, 1) := by decide +kernel
theorem dX9_finds_159 : decode cX9_finds 159 = .ok (.getfield 103, 3) := by decide +kernel
theorem dX9_finds_162 : decode cX9_finds 162 = .ok (.if_icmp .ge 101, 3) := by decide +kernel
theorem dX9_finds_165 : decode cX9_finds 165 = .ok (.iload_n 1, 1) := by decide +kernel
theorem dX9_finds_166 : decode cX9_finds 166 = .ok (.aload_n 0, 1) := by decide +kernel
theorem dX9_finds_167 : decode cX9_finds 167 = .ok (.getfield 113, 3) := by decide +kernel
theorem dX9_finds_170 : decode cX9_finds 170 = .ok (.iconst 1, 1) := by decide +kernel
theorem dX9_finds_171 : decode cX9_finds 171 = .ok (.isub, 1) := by decide +kernel
theorem dX9_finds_172 : decode cX9_finds 172 = .ok (.if_icmp .ne 7, 3) := by decide +kernel
theorem dX9_finds_175 : decode cX9_finds 175 = .ok (.iconst 0, 1) := by decide +kernel
theorem dX9_finds_176 : decode cX9_finds 176 = .ok (.goto 5, 3) := by decide +kernel
theorem dX9_finds_179 : decode cX9_finds 179 = .ok (.ldc 175, 2) := by decide +kernel
theorem dX9_finds_181 : decode cX9_finds 181 = .ok (.istore_n 3, 1) := by decide +kernel
theorem dX9_finds_182 : decode cX9_finds 182 = .ok (.iconst 0, 1) := by decide +kernel
theorem dX9_finds_183 : decode cX9_finds 183 = .ok (.istore 4, 2) := by decide +kernel
theorem dX9_finds_185 : decode cX9_finds 185 = .ok (.iload 4, 2) := by decide +kernel
theorem dX9_finds_187 : decode cX9_finds 187 = .ok (.aload_n 0, 1) := by decide +kernel
theorem dX9_finds_188 : decode cX9_finds 188 = .ok (.getfield 103, 3) := by decide +kernel
theorem dX9_finds_191 : decode cX9_finds 191 = .ok (.if_icmp .ge 47, 3) := by decide +kernel
theorem dX9_finds_194 : decode cX9_finds 194 = .ok (.iload_n 1, 1) := by decide +kernel
theorem dX9_finds_195 : decode cX9_finds 195 = .ok (.aload_n 0, 1) := by decide +kernel
theorem dX9_finds_196 : decode cX9_finds 196 = .ok (.getfield 113, 3) := by decide +kernel
theorem dX9_finds_199 : decode cX9_finds 199 = .ok (.iconst 1, 1) := by decide +kernel
theorem dX9_finds_200 : decode cX9_finds 200 = .ok (.isub, 1) := by decide +kernel
theorem dX9_finds_201 : decode cX9_finds 201 = .ok (.if_icmp .ge 37, 3) := by decide +kernel
theorem dX9_finds_204 : decode cX9_finds 204 = .ok (.iload_n 3, 1) := by decide +kernel
theorem dX9_finds_205 : decode cX9_finds 205 = .ok (.aload_n 0, 1) := by decide +kernel
theorem dX9_finds_206 : decode cX9_finds 206 = .ok (.iload_n 1, 1) := by decide +kernel
theorem dX9_finds_207 : decode cX9_finds 207 = .ok (.iload_n 2, 1) := by decide +kernel
theorem dX9_finds_208 : decode cX9_finds 208 = .ok (.iload 4, 2) := by decide +kernel
theorem dX9_finds_210 : decode cX9_finds 210 = .ok (.invokevirtual 176, 3) := by decide +kernel
theorem dX9_finds_213 : decode cX9_finds 213 = .ok (.aload_n 0, 1) := by decide +kernel
theorem dX9_finds_214 : decode cX9_finds 214 = .ok (.getfield 45, 3) := by decide +kernel
theorem dX9_finds_217 : decode cX9_finds 217 = .ok (.bipush 8, 2) := by decide +kernel
theorem dX9_finds_219 : decode cX9_finds 219 = .ok (.iload_n 1, 1) := by decide +kernel
theorem dX9_finds_220 : decode cX9_finds 220 = .ok (.iconst 1, 1) := by decide +kernel
theorem dX9_finds_221 : decode cX9_finds 221 = .ok (.iadd, 1) := by decide +kernel
theorem dX9_finds_222 : decode cX9_finds 222 = .ok (.imul, 1) := by decide +kernel
theorem dX9_finds_223 : decode cX9_finds 223 = .ok (.iload 4, 2) := by decide +kernel
theorem dX9_finds_225 : decode cX9_finds 225 = .ok (.iadd, 1) := by decide +kernel
theorem dX9_finds_226 : decode cX9_finds 226 = .ok (.iaload, 1) := by decide +kernel
theorem dX9_finds_227 : decode cX9_finds 227 = .ok (.iadd, 1) := by decide +kernel
theorem dX9_finds_228 : decode cX9_finds 228 = .ok (.invokestatic 179, 3) := by decide +kernel
theorem dX9_finds_231 : decode cX9_finds 231 = .ok (.istore_n 3, 1) := by decide +kernel
theorem dX9_finds_232 : decode cX9_finds 232 = .ok (.iinc 4 1, 3) := by decide +kernel
theorem dX9_finds_235 : decode cX9_finds 235 = .ok (.goto (-50), 3) := by decide +kernel
theorem dX9_finds_238 : decode cX9_finds 238 = .ok (.aload_n 0, 1) := by decide +kernel
theorem dX9_finds_239 : decode cX9_finds 239 = .ok (.getfield 45, 3) := by decide +kernel
theorem dX9_finds_242 : decode cX9_finds 242 = .ok (.bipush 8, 2) := by decide +kernel
theorem dX9_finds_244 : decode cX9_finds 244 = .ok (.iload_n 1, 1) := by decide +kernel
theorem dX9_finds_245 : decode cX9_finds 245 = .ok (.imul, 1) := by decide +kernel
theorem dX9_finds_246 : decode cX9_finds 246 = .ok (.iload_n 2, 1) := by decide +kernel
theorem dX9_finds_247 : decode cX9_finds 247 = .ok (.iadd, 1) := by decide +kernel
theorem dX9_finds_248 : decode cX9_finds 248 = .ok (.iload_n 3, 1) := by decide +kernel
theorem dX9_finds_249 : decode cX9_finds 249 = .ok (.aload_n 0, 1) := by decide +kernel
theorem dX9_finds_250 : decode cX9_finds 250 = .ok (.iload_n 1, 1) := by decide +kernel
theorem dX9_finds_251 : decode cX9_finds 251 = .ok (.iload_n 2, 1) := by decide +kernel
theorem dX9_finds_252 : decode cX9_finds 252 = .ok (.invokevirtual 182, 3) := by decide +kernel
theorem dX9_finds_255 : decode cX9_finds 255 = .ok (.iadd, 1) := by decide +kernel
theorem dX9_finds_256 : decode cX9_finds 256 = .ok (.iastore, 1) := by decide +kernel
theorem dX9_finds_257 : decode cX9_finds 257 = .ok (.iinc 2 1, 3) := by decide +kernel
theorem dX9_finds_260 : decode cX9_finds 260 = .ok (.goto (-103), 3) := by decide +kernel
theorem dX9_finds_263 : decode cX9_finds 263 = .ok (.iinc 1 (-1), 3) := by decide +kernel
theorem dX9_finds_266 : decode cX9_finds 266 = .ok (.goto (-115), 3) := by decide +kernel
theorem dX9_finds_269 : decode cX9_finds 269 = .ok (.aload_n 0, 1) := by decide +kernel
theorem dX9_finds_270 : decode cX9_finds 270 = .ok (.ldc 175, 2) := by decide +kernel
theorem dX9_finds_272 : decode cX9_finds 272 = .ok (.putfield 185, 3) := by decide +kernel
theorem dX9_finds_275 : decode cX9_finds 275 = .ok (.iconst 0, 1) := by decide +kernel
theorem dX9_finds_276 : decode cX9_finds 276 = .ok (.istore_n 1, 1) := by decide +kernel
theorem dX9_finds_277 : decode cX9_finds 277 = .ok (.iload_n 1, 1) := by decide +kernel
theorem dX9_finds_278 : decode cX9_finds 278 = .ok (.aload_n 0, 1) := by decide +kernel
theorem dX9_finds_279 : decode cX9_finds 279 = .ok (.getfield 103, 3) := by decide +kernel
theorem dX9_finds_282 : decode cX9_finds 282 = .ok (.if_icmp .ge 33, 3) := by decide +kernel
theorem dX9_finds_285 : decode cX9_finds 285 = .ok (.aload_n 0, 1) := by decide +kernel
theorem dX9_finds_286 : decode cX9_finds 286 = .ok (.aload_n 0, 1) := by decide +kernel
theorem dX9_finds_287 : decode cX9_finds 287 = .ok (.getfield 185, 3) := by decide +kernel
theorem dX9_finds_290 : decode cX9_finds 290 = .ok (.aload_n 0, 1) := by decide +kernel
theorem dX9_finds_291 : decode cX9_finds 291 = .ok (.getfield 23, 3) := by decide +kernel
theorem dX9_finds_294 : decode cX9_finds 294 = .ok (.iload_n 1, 1) := by decide +kernel
theorem dX9_finds_295 : decode cX9_finds 295 = .ok (.iaload, 1) := by decide +kernel
theorem dX9_finds_296 : decode cX9_finds 296 = .ok (.aload_n 0, 1) := by decide +kernel
theorem dX9_finds_297 : decode cX9_finds 297 = .ok (.getfield 45, 3) := by decide +kernel
theorem dX9_finds_300 : decode cX9_finds 300 = .ok (.iload_n 1, 1) := by decide +kernel
theorem dX9_finds_301 : decode cX9_finds 301 = .ok (.iaload, 1) := by decide +kernel
theorem dX9_finds_302 : decode cX9_finds 302 = .ok (.iadd, 1) := by decide +kernel
theorem dX9_finds_303 : decode cX9_finds 303 = .ok (.invokestatic 179, 3) := by decide +kernel
theorem dX9_finds_306 : decode cX9_finds 306 = .ok (.putfield 185, 3) := by decide +kernel
theorem dX9_finds_309 : decode cX9_finds 309 = .ok (.iinc 1 1, 3) := by decide +kernel
theorem dX9_finds_312 : decode cX9_finds 312 = .ok (.goto (-35), 3) := by decide +kernel
theorem dX9_finds_315 : decode cX9_finds 315 = .ok (.iconst 0, 1) := by decide +kernel
theorem dX9_finds_316 : decode cX9_finds 316 = .ok (.istore_n 1, 1) := by decide +kernel
theorem dX9_finds_317 : decode cX9_finds 317 = .ok (.iload_n 1, 1) := by decide +kernel
theorem dX9_finds_318 : decode cX9_finds 318 = .ok (.aload_n 0, 1) := by decide +kernel
theorem dX9_finds_319 : decode cX9_finds 319 = .ok (.getfield 113, 3) := by decide +kernel
theorem dX9_finds_322 : decode cX9_finds 322 = .ok (.if_icmp .ge 109, 3) := by decide +kernel
theorem dX9_finds_325 : decode cX9_finds 325 = .ok (.iconst 0, 1) := by decide +kernel
theorem dX9_finds_326 : decode cX9_finds 326 = .ok (.istore_n 2, 1) := by decide +kernel
theorem dX9_finds_327 : decode cX9_finds 327 = .ok (.iload_n 1, 1) := by decide +kernel
theorem dX9_finds_328 : decode cX9_finds 328 = .ok (.ifCond .ne 29, 3) := by decide +kernel
theorem dX9_finds_331 : decode cX9_finds 331 = .ok (.aload_n 0, 1) := by decide +kernel
theorem dX9_finds_332 : decode cX9_finds 332 = .ok (.getfield 23, 3) := by decide +kernel
theorem dX9_finds_335 : decode cX9_finds 335 = .ok (.iload_n 2, 1) := by decide +kernel
theorem dX9_finds_336 : decode cX9_finds 336 = .ok (.iaload, 1) := by decide +kernel
theorem dX9_finds_337 : decode cX9_finds 337 = .ok (.aload_n 0, 1) := by decide +kernel
theorem dX9_finds_338 : decode cX9_finds 338 = .ok (.getfield 45, 3) := by decide +kernel
theorem dX9_finds_341 : decode cX9_finds 341 = .ok (.iload_n 2, 1) := by decide +kernel
theorem dX9_finds_342 : decode cX9_finds 342 = .ok (.iaload, 1) := by decide +kernel
theorem dX9_finds_343 : decode cX9_finds 343 = .ok (.iadd, 1) := by decide +kernel
theorem dX9_finds_344 : decode cX9_finds 344 = .ok (.aload_n 0, 1) := by decide +kernel
theorem dX9_finds_345 : decode cX9_finds 345 = .ok (.getfield 185, 3) := by decide +kernel
theorem dX9_finds_348 : decode cX9_finds 348 = .ok (.if_icmp .eq 70, 3) := by decide +kernel
theorem dX9_finds_351 : decode cX9_finds 351 = .ok (.iinc 2 1, 3) := by decide +kernel
theorem dX9_finds_354 : decode cX9_finds 354 = .ok (.goto (-23), 3) := by decide +kernel
theorem dX9_finds_357 : decode cX9_finds 357 = .ok (.aload_n 0, 1) := by decide +kernel
theorem dX9_finds_358 : decode cX9_finds 358 = .ok (.getfield 48, 3) := by decide +kernel
theorem dX9_finds_361 : decode cX9_finds 361 = .ok (.iload_n 1, 1) := by decide +kernel
theorem dX9_finds_362 : decode cX9_finds 362 = .ok (.iconst 1, 1) := by decide +kernel
theorem dX9_finds_363 : decode cX9_finds 363 = .ok (.isub, 1) := by decide +kernel
theorem dX9_finds_364 : decode cX9_finds 364 = .ok (.iaload, 1) := by decide +kernel
theorem dX9_finds_365 : decode cX9_finds 365 = .ok (.istore_n 3, 1) := by decide +kernel
theorem dX9_finds_366 : decode cX9_finds 366 = .ok (.aload_n 0, 1) := by decide +kernel
theorem dX9_finds_367 : decode cX9_finds 367 = .ok (.iload_n 1, 1) := by decide +kernel
theorem dX9_finds_368 : decode cX9_finds 368 = .ok (.iconst 1, 1) := by decide +kernel
theorem dX9_finds_369 : decode cX9_finds 369 = .ok (.isub, 1) := by decide +kernel
theorem dX9_finds_370 : decode cX9_finds 370 = .ok (.iload_n 3, 1) := by decide +kernel
theorem dX9_finds_371 : decode cX9_finds 371 = .ok (.invokevirtual 182, 3) := by decide +kernel
theorem dX9_finds_374 : decode cX9_finds 374 = .ok (.aload_n 0, 1) := by decide +kernel
theorem dX9_finds_375 : decode cX9_finds 375 = .ok (.iload_n 1, 1) := by decide +kernel
theorem dX9_finds_376 : decode cX9_finds 376 = .ok (.iconst 1, 1) := by decide +kernel
theorem dX9_finds_377 : decode cX9_finds 377 = .ok (.isub, 1) := by decide +kernel
theorem dX9_finds_378 : decode cX9_finds 378 = .ok (.iload_n 3, 1) := by decide +kernel
theorem dX9_finds_379 : decode cX9_finds 379 = .ok (.iload_n 2, 1) := by decide +kernel
theorem dX9_finds_380 : decode cX9_finds 380 = .ok (.invokevirtual 176, 3) := by decide +kernel
theorem dX9_finds_383 : decode cX9_finds 383 = .ok (.iadd, 1) := by decide +kernel
theorem dX9_finds_384 : decode cX9_finds 384 = .ok (.aload_n 0, 1) := by decide +kernel
theorem dX9_finds_385 : decode cX9_finds 385 = .ok (.getfield 45, 3) := by decide +kernel
theorem dX9_finds_388 : decode cX9_finds 388 = .ok (.bipush 8, 2) := by decide +kernel
theorem dX9_finds_390 : decode cX9_finds 390 = .ok (.iload_n 1, 1) := by decide +kernel
theorem dX9_finds_391 : decode cX9_finds 391 = .ok (.imul, 1) := by decide +kernel
theorem dX9_finds_392 : decode cX9_finds 392 = .ok (.iload_n 2, 1) := by decide +kernel
theorem dX9_finds_393 : decode cX9_finds 393 = .ok (.iadd, 1) := by decide +kernel
theorem dX9_finds_394 : decode cX9_finds 394 = .ok (.iaload, 1) := by decide +kernel
theorem dX9_finds_395 : decode cX9_finds 395 = .ok (.iadd, 1) := by decide +kernel
theorem dX9_finds_396 : decode cX9_finds 396 = .ok (.aload_n 0, 1) := by decide +kernel
theorem dX9_finds_397 : decode cX9_finds 397 = .ok (.getfield 45, 3) := by decide +kernel
theorem dX9_finds_400 : decode cX9_finds 400 = .ok (.bipush 8, 2) := by decide +kernel
theorem dX9_finds_402 : decode cX9_finds 402 = .ok (.iload_n 1, 1) := by decide +kernel
theorem dX9_finds_403 : decode cX9_finds 403 = .ok (.iconst 1, 1) := by decide +kernel
theorem dX9_finds_404 : decode cX9_finds 404 = .ok (.isub, 1) := by decide +kernel
theorem dX9_finds_405 : decode cX9_finds 405 = .ok (.imul, 1) := by decide +kernel
theorem dX9_finds_406 : decode cX9_finds 406 = .ok (.iload_n 3, 1) := by decide +kernel
theorem dX9_finds_407 : decode cX9_finds 407 = .ok (.iadd, 1) := by decide +kernel
theorem dX9_finds_408 : decode cX9_finds 408 = .ok (.iaload, 1) := by decide +kernel
theorem dX9_finds_409 : decode cX9_finds 409 = .ok (.if_icmp .eq 9, 3) := by decide +kernel
theorem dX9_finds_412 : decode cX9_finds 412 = .ok (.iinc 2 1, 3) := by decide +kernel
theorem dX9_finds_415 : decode cX9_finds 415 = .ok (.goto (-49), 3) := by decide +kernel
theorem dX9_finds_418 : decode cX9_finds 418 = .ok (.aload_n 0, 1) := by decide +kernel
theorem dX9_finds_419 : decode cX9_finds 419 = .ok (.getfield 48, 3) := by decide +kernel
theorem dX9_finds_422 : decode cX9_finds 422 = .ok (.iload_n 1, 1) := by decide +kernel
theorem dX9_finds_423 : decode cX9_finds 423 = .ok (.iload_n 2, 1) := by decide +kernel
theorem dX9_finds_424 : decode cX9_finds 424 = .ok (.iastore, 1) := by decide +kernel
theorem dX9_finds_425 : decode cX9_finds 425 = .ok (.iinc 1 1, 3) := by decide +kernel
theorem dX9_finds_428 : decode cX9_finds 428 = .ok (.goto (-111), 3) := by decide +kernel
theorem dX9_finds_431 : decode cX9_finds 431 = .ok (.iconst 1, 1) := by decide +kernel
theorem dX9_finds_432 : decode cX9_finds 432 = .ok (.ireturn, 1) := by decide +kernel
set_option maxRecDepth 20000 in
theorem ggX9_through_X9_miss : GoodIn wsX9_through wsX9_miss := goodIn_r _ [7, 8, 9, 10, 11, 12, 13, 14, 15, 16, 17, 18, 19, 20, 21, 22, 23, 24, 25, 26, 27, 28, 29, 30, 31, 32, 33, 34, 35, 36] rfl (by decide +kernel)
set_option maxRecDepth 20000 in
theorem gX9_through_X9_miss : GoodIn wsX9_through (wsV RX9 182 RX9 yX9_miss wsX9_miss) := goodIn_app (goodIn_of _ (by decide +kernel)) ggX9_through_X9_miss
theorem dX9_through_0 : decode cX9_through 0 = .ok (.aload_n 0, 1) := by decide +kernel
theorem dX9_through_1 : decode cX9_through 1 = .ok (.getfield 42, 3) := by decide +kernel
theorem dX9_through_4 : decode cX9_through 4 = .ok (.bipush 8, 2) := by decide +kernel
theorem dX9_through_6 : decode cX9_through 6 = .ok (.iload_n 1, 1) := by decide +kernel
theorem dX9_through_7 : decode cX9_through 7 = .ok (.imul, 1) := by decide +kernel
theorem dX9_through_8 : decode cX9_through 8 = .ok (.iload_n 2, 1) := by decide +kernel
theorem dX9_through_9 : decode cX9_through 9 = .ok (.iadd, 1) := by decide +kernel
theorem dX9_through_10 : decode cX9_through 10 = .ok (.iaload, 1) := by decide +kernel
theorem dX9_through_11 : decode cX9_through 11 = .ok (.aload_n 0, 1) := by decide +kernel
theorem dX9_through_12 : decode cX9_through 12 = .ok (.getfield 45, 3) := by decide +kernel
theorem dX9_through_15 : decode cX9_through 15 = .ok (.bipush 8, 2) := by decide +kernel
theorem dX9_through_17 : decode cX9_through 17 = .ok (.iload_n 1, 1) := by decide +kernel
theorem dX9_through_18 : decode cX9_through 18 = .ok (.imul, 1) := by decide +kernel
theorem dX9_through_19 : decode cX9_through 19 = .ok (.iload_n 2, 1) := by decide +kernel
theorem dX9_through_20 : decode cX9_through 20 = .ok (.iadd, 1) := by decide +kernel
theorem dX9_through_21 : decode cX9_through 21 = .ok (.iaload, 1) := by decide +kernel
theorem dX9_through_22 : decode cX9_through 22 = .ok (.iadd, 1) := by decide +kernel
theorem dX9_through_23 : decode cX9_through 23 = .ok (.aload_n 0, 1) := by decide +kernel
theorem dX9_through_24 : decode cX9_through 24 = .ok (.iload_n 1, 1) := by decide +kernel
theorem dX9_through_25 : decode cX9_through 25 = .ok (.iload_n 2, 1) := by decide +kernel
theorem dX9_through_26 : decode cX9_through 26 = .ok (.invokevirtual 182, 3) := by decide +kernel
theorem dX9_through_29 : decode cX9_through 29 = .ok (.isub, 1) := by decide +kernel
theorem dX9_through_30 : decode cX9_through 30 = .ok (.ireturn, 1) := by decide +kernel
set_option maxRecDepth 20000 in
theorem ggX9_cost_X9_finds : GoodIn wsX9_cost wsX9_finds := goodIn_r _ [6, 7, 8, 9, 10, 11, 12, 13, 14, 15, 16, 17, 1, 18, 19, 20, 21, 5, 22, 23, 24, 25, 26, 27, 28, 29, 30, 31, 32, 33, 34, 35, 36, 37, 38, 39, 40, 41, 42, 43, 44, 45, 46, 47, 48, 49, 50, 51, 52, 53, 54, 55, 56, 57, 58, 59, 60, 61, 62, 63, 64, 65, 66, 67, 68, 69, 70, 71, 72, 73, 74, 75, 76, 77, 78, 79, 80, 81, 82, 83, 84, 85, 86, 87, 88, 89, 90, 91, 92, 93, 94, 95, 96, 97, 98, 99, 100, 101, 102, 103, 104, 105, 106, 107, 108, 109, 110, 111, 112, 113, 114, 115, 116, 117, 118, 119, 120, 121, 122, 123, 124, 125, 126, 127, 128, 129, 130, 131, 132, 133, 134, 135, 136, 137, 138, 139, 140, 141, 142, 143, 144, 145, 146, 147, 148, 149, 150, 151, 152, 153, 154, 155, 156, 157, 158, 159, 160] rfl (by decide +kernel)
set_option maxRecDepth 20000 in
theorem gX9_cost_X9_finds : GoodIn wsX9_cost (wsV RX9 188 RX9 yX9_finds wsX9_finds) := goodIn_app (goodIn_of _ (by decide +kernel)) ggX9_cost_X9_finds
theorem dX9_cost_0 : decode cX9_cost 0 = .ok (.aload_n 0, 1) := by decide +kernel
theorem dX9_cost_1 : decode cX9_cost 1 = .ok (.invokevirtual 188, 3) := by decide +kernel
theorem dX9_cost_4 : decode cX9_cost 4 = .ok (.ifCond .eq 10, 3) := by decide +kernel
theorem dX9_cost_7 : decode cX9_cost 7 = .ok (.aload_n 0, 1) := by decide +kernel
theorem dX9_cost_8 : decode cX9_cost 8 = .ok (.getfield 185, 3) := by decide +kernel
theorem dX9_cost_11 : decode cX9_cost 11 = .ok (.goto 4, 3) := by decide +kernel
theorem dX9_cost_14 : decode cX9_cost 14 = .ok (.iconst (-1), 1) := by decide +kernel
theorem dX9_cost_15 : decode cX9_cost 15 = .ok (.ireturn, 1) := by decide +kernel
set_option maxRecDepth 20000 in
theorem ggX9_told_X9_finds : GoodIn wsX9_told wsX9_finds := goodIn_r _ [6, 7, 8, 9, 10, 11, 12, 13, 14, 15, 16, 17, 18, 1, 19, 20, 21, 5, 22, 23, 24, 25, 26, 27, 28, 29, 30, 31, 32, 33, 34, 35, 36, 37, 38, 39, 40, 41, 42, 43, 44, 45, 46, 47, 48, 49, 50, 51, 52, 53, 54, 55, 56, 57, 58, 59, 60, 61, 62, 63, 64, 65, 66, 67, 68, 69, 70, 71, 72, 73, 74, 75, 76, 77, 78, 79, 80, 81, 82, 83, 84, 85, 86, 87, 88, 89, 90, 91, 92, 93, 94, 95, 96, 97, 98, 99, 100, 101, 102, 103, 104, 105, 106, 107, 108, 109, 110, 111, 112, 113, 114, 115, 116, 117, 118, 119, 120, 121, 122, 123, 124, 125, 126, 127, 128, 129, 130, 131, 132, 133, 138, 139, 140, 141, 142, 143, 144, 145, 146, 147, 148, 149, 150, 151, 152, 153, 154, 155, 156, 157, 158, 159, 160, 161, 162, 163, 164] rfl (by decide +kernel)
set_option maxRecDepth 20000 in
theorem gX9_told_X9_finds : GoodIn wsX9_told (wsV RX9 188 RX9 yX9_finds wsX9_finds) := goodIn_app (goodIn_of _ (by decide +kernel)) ggX9_told_X9_finds
set_option maxRecDepth 20000 in
theorem ggX9_told_X9_isRow : GoodIn wsX9_told wsX9_isRow := goodIn_r _ [137, 9, 138, 139, 140, 141, 142, 143, 144, 145, 146, 147, 148, 149, 150, 151, 152, 153, 154, 155, 156, 157, 158, 159, 160, 161, 162, 163, 164] rfl (by decide +kernel)
set_option maxRecDepth 20000 in
theorem gX9_told_X9_isRow : GoodIn wsX9_told (wsV RX9 166 RX9 yX9_isRow wsX9_isRow) := goodIn_app (goodIn_of _ (by decide +kernel)) ggX9_told_X9_isRow
theorem dX9_told_0 : decode cX9_told 0 = .ok (.aload_n 0, 1) := by decide +kernel
theorem dX9_told_1 : decode cX9_told 1 = .ok (.invokevirtual 188, 3) := by decide +kernel
theorem dX9_told_4 : decode cX9_told 4 = .ok (.ifCond .eq 20, 3) := by decide +kernel
theorem dX9_told_7 : decode cX9_told 7 = .ok (.aload_n 0, 1) := by decide +kernel
theorem dX9_told_8 : decode cX9_told 8 = .ok (.iload_n 1, 1) := by decide +kernel
theorem dX9_told_9 : decode cX9_told 9 = .ok (.invokevirtual 166, 3) := by decide +kernel
theorem dX9_told_12 : decode cX9_told 12 = .ok (.ifCond .eq 12, 3) := by decide +kernel
theorem dX9_told_15 : decode cX9_told 15 = .ok (.aload_n 0, 1) := by decide +kernel
theorem dX9_told_16 : decode cX9_told 16 = .ok (.getfield 48, 3) := by decide +kernel
theorem dX9_told_19 : decode cX9_told 19 = .ok (.iload_n 1, 1) := by decide +kernel
theorem dX9_told_20 : decode cX9_told 20 = .ok (.iaload, 1) := by decide +kernel
theorem dX9_told_21 : decode cX9_told 21 = .ok (.goto 4, 3) := by decide +kernel
theorem dX9_told_24 : decode cX9_told 24 = .ok (.iconst (-1), 1) := by decide +kernel
theorem dX9_told_25 : decode cX9_told 25 = .ok (.ireturn, 1) := by decide +kernel
set_option maxRecDepth 20000 in
theorem ggX9_day_X9_finds : GoodIn wsX9_day wsX9_finds := goodIn_r _ [8, 9, 10, 11, 12, 13, 14, 15, 16, 17, 18, 19, 20, 2, 21, 22, 23, 7, 24, 1, 25, 3, 26, 27, 28, 29, 30, 31, 32, 33, 34, 35, 36, 37, 38, 39, 40, 41, 42, 43, 44, 45, 46, 47, 48, 49, 50, 51, 52, 53, 54, 55, 56, 57, 58, 59, 60, 61, 62, 63, 64, 65, 66, 67, 68, 69, 70, 71, 72, 73, 74, 75, 76, 77, 78, 79, 80, 81, 82, 83, 84, 85, 86, 87, 88, 89, 90, 91, 92, 93, 94, 95, 96, 97, 98, 99, 100, 101, 102, 103, 104, 105, 106, 107, 108, 109, 110, 111, 112, 113, 114, 115, 116, 117, 118, 119, 120, 121, 122, 123, 124, 125, 126, 127, 128, 129, 130, 131, 132, 133, 138, 139, 140, 141, 142, 143, 144, 145, 146, 147, 148, 149, 150, 151, 152, 153, 154, 155, 156, 157, 158, 159, 160, 161, 162, 163, 164] rfl (by decide +kernel)
set_option maxRecDepth 20000 in
theorem gX9_day_X9_finds : GoodIn wsX9_day (wsV RX9 188 RX9 yX9_finds wsX9_finds) := goodIn_app (goodIn_of _ (by decide +kernel)) ggX9_day_X9_finds
set_option maxRecDepth 20000 in
theorem ggX9_day_X9_isRow : GoodIn wsX9_day wsX9_isRow := goodIn_r _ [137, 11, 138, 139, 140, 141, 142, 143, 144, 145, 146, 147, 148, 149, 150, 151, 152, 153, 154, 155, 156, 157, 158, 159, 160, 161, 162, 163, 164] rfl (by decide +kernel)
set_option maxRecDepth 20000 in
theorem gX9_day_X9_isRow : GoodIn wsX9_day (wsV RX9 166 RX9 yX9_isRow wsX9_isRow) := goodIn_app (goodIn_of _ (by decide +kernel)) ggX9_day_X9_isRow
set_option maxRecDepth 20000 in
theorem ggX9_day_X9_isIn : GoodIn wsX9_day wsX9_isIn := goodIn_r _ [51] rfl (by decide +kernel)
set_option maxRecDepth 20000 in
theorem gX9_day_X9_isIn : GoodIn wsX9_day (va_wsS RX9 61 yX9_isIn wsX9_isIn) := goodIn_app (goodIn_of _ (by decide +kernel)) ggX9_day_X9_isIn
theorem dX9_day_0 : decode cX9_day 0 = .ok (.aload_n 0, 1) := by decide +kernel
theorem dX9_day_1 : decode cX9_day 1 = .ok (.invokevirtual 188, 3) := by decide +kernel
theorem dX9_day_4 : decode cX9_day 4 = .ok (.ifCond .eq 20, 3) := by decide +kernel
theorem dX9_day_7 : decode cX9_day 7 = .ok (.aload_n 0, 1) := by decide +kernel
theorem dX9_day_8 : decode cX9_day 8 = .ok (.iload_n 1, 1) := by decide +kernel
theorem dX9_day_9 : decode cX9_day 9 = .ok (.invokevirtual 166, 3) := by decide +kernel
theorem dX9_day_12 : decode cX9_day 12 = .ok (.ifCond .eq 12, 3) := by decide +kernel
theorem dX9_day_15 : decode cX9_day 15 = .ok (.iload_n 2, 1) := by decide +kernel
theorem dX9_day_16 : decode cX9_day 16 = .ok (.iconst 0, 1) := by decide +kernel
theorem dX9_day_17 : decode cX9_day 17 = .ok (.iconst 1, 1) := by decide +kernel
theorem dX9_day_18 : decode cX9_day 18 = .ok (.invokestatic 61, 3) := by decide +kernel
