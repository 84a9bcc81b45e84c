theorem dX8_clear_12 : decode cX8_clear 12 = .ok (.return_, 1) := by decide +kernel
theorem dX8_window_0 : decode cX8_window 0 = .ok (.iload_n 1, 1) := by decide +kernel
theorem dX8_window_1 : decode cX8_window 1 = .ok (.sipush 1900, 3) := by decide +kernel
theorem dX8_window_4 : decode cX8_window 4 = .ok (.if_icmp .lt 10, 3) := by decide +kernel
theorem dX8_window_7 : decode cX8_window 7 = .ok (.iload_n 1, 1) := by decide +kernel
theorem dX8_window_8 : decode cX8_window 8 = .ok (.sipush 2100, 3) := by decide +kernel
theorem dX8_window_11 : decode cX8_window 11 = .ok (.if_icmp .le 5, 3) := by decide +kernel
theorem dX8_window_14 : decode cX8_window 14 = .ok (.iconst 0, 1) := by decide +kernel
theorem dX8_window_15 : decode cX8_window 15 = .ok (.ireturn, 1) := by decide +kernel
theorem dX8_window_16 : decode cX8_window 16 = .ok (.aload_n 0, 1) := by decide +kernel
theorem dX8_window_17 : decode cX8_window 17 = .ok (.iload_n 1, 1) := by decide +kernel
theorem dX8_window_18 : decode cX8_window 18 = .ok (.putfield 53, 3) := by decide +kernel
theorem dX8_window_21 : decode cX8_window 21 = .ok (.aload_n 0, 1) := by decide +kernel
theorem dX8_window_22 : decode cX8_window 22 = .ok (.iconst 0, 1) := by decide +kernel
theorem dX8_window_23 : decode cX8_window 23 = .ok (.putfield 57, 3) := by decide +kernel
theorem dX8_window_26 : decode cX8_window 26 = .ok (.iconst 1, 1) := by decide +kernel
theorem dX8_window_27 : decode cX8_window 27 = .ok (.ireturn, 1) := by decide +kernel
set_option maxRecDepth 20000 in
theorem ggX8_price_X8_isPrice : GoodIn wsX8_price wsX8_isPrice := goodIn_r _ [6] rfl (by decide +kernel)
set_option maxRecDepth 20000 in
theorem gX8_price_X8_isPrice : GoodIn wsX8_price (va_wsS RX8 76 yX8_isPrice wsX8_isPrice) := goodIn_app (goodIn_of _ (by decide +kernel)) ggX8_price_X8_isPrice
set_option maxRecDepth 20000 in
theorem ggX8_price_X6_setPrice : GoodIn wsX8_price wsX6_setPrice := goodIn_r _ [11, 12, 21, 22, 23, 24, 25, 26, 27, 28] rfl (by decide +kernel)
set_option maxRecDepth 20000 in
theorem gX8_price_X6_setPrice : GoodIn wsX8_price (wsV RX8 103 RX6 yX6_setPrice wsX6_setPrice) := goodIn_app (goodIn_of _ (by decide +kernel)) ggX8_price_X6_setPrice
theorem dX8_price_0 : decode cX8_price 0 = .ok (.iload_n 2, 1) := by decide +kernel
theorem dX8_price_1 : decode cX8_price 1 = .ok (.invokestatic 76, 3) := by decide +kernel
theorem dX8_price_4 : decode cX8_price 4 = .ok (.ifCond .eq 15, 3) := by decide +kernel
theorem dX8_price_7 : decode cX8_price 7 = .ok (.aload_n 0, 1) := by decide +kernel
theorem dX8_price_8 : decode cX8_price 8 = .ok (.getfield 42, 3) := by decide +kernel
theorem dX8_price_11 : decode cX8_price 11 = .ok (.iload_n 1, 1) := by decide +kernel
theorem dX8_price_12 : decode cX8_price 12 = .ok (.iload_n 2, 1) := by decide +kernel
theorem dX8_price_13 : decode cX8_price 13 = .ok (.invokevirtual 103, 3) := by decide +kernel
theorem dX8_price_16 : decode cX8_price 16 = .ok (.ifCond .ne 5, 3) := by decide +kernel
theorem dX8_price_19 : decode cX8_price 19 = .ok (.iconst 0, 1) := by decide +kernel
theorem dX8_price_20 : decode cX8_price 20 = .ok (.ireturn, 1) := by decide +kernel
theorem dX8_price_21 : decode cX8_price 21 = .ok (.aload_n 0, 1) := by decide +kernel
theorem dX8_price_22 : decode cX8_price 22 = .ok (.iconst 0, 1) := by decide +kernel
theorem dX8_price_23 : decode cX8_price 23 = .ok (.putfield 57, 3) := by decide +kernel
theorem dX8_price_26 : decode cX8_price 26 = .ok (.iconst 1, 1) := by decide +kernel
theorem dX8_price_27 : decode cX8_price 27 = .ok (.ireturn, 1) := by decide +kernel
set_option maxRecDepth 20000 in
theorem ggX8_read_X5_has : GoodIn wsX8_read wsX5_has := goodIn_r _ [9, 10, 139, 140, 141] rfl (by decide +kernel)
set_option maxRecDepth 20000 in
theorem gX8_read_X5_has : GoodIn wsX8_read (wsV RX8 107 RX5 yX5_has wsX5_has) := goodIn_app (goodIn_of _ (by decide +kernel)) ggX8_read_X5_has
set_option maxRecDepth 20000 in
theorem ggX8_read_X3_bring : GoodIn wsX8_read wsX3_bring := goodIn_r _ [15, 16, 17, 18, 19, 20, 21, 22, 23, 24, 25, 26, 27, 28, 29, 8, 30, 10, 31, 32, 33, 34, 35, 36, 37, 38, 39, 40, 41, 42, 43, 44, 6, 7, 9, 45, 46, 47, 48, 49, 50, 51, 52, 53, 54, 55, 56, 57, 58, 59, 60, 61, 62, 63, 64, 65, 66, 67, 68, 69, 70, 71, 72, 73, 74, 75, 76, 77, 78, 79, 80, 81, 82, 83, 84, 85, 86, 87, 88, 89, 90, 91, 92, 93, 94, 95, 96, 97, 98, 99, 100, 101, 102, 103, 104, 105, 106, 107, 108, 109, 110, 111, 112, 113, 114, 115, 116, 117, 118, 119, 120, 121, 122, 123, 124, 125, 126, 142, 143, 144, 145, 146, 147, 148, 139, 140, 141, 149, 150, 151, 152, 153, 154, 155, 156, 157] rfl (by decide +kernel)
set_option maxRecDepth 20000 in
theorem gX8_read_X3_bring : GoodIn wsX8_read (wsV RX8 110 RX3 yX3_bring wsX3_bring) := goodIn_app (goodIn_of _ (by decide +kernel)) ggX8_read_X3_bring
set_option maxRecDepth 20000 in
theorem ggX8_read_X3_edge : GoodIn wsX8_read wsX3_edge := goodIn_r _ [130, 25, 26, 142, 143, 144, 145, 146, 147, 148] rfl (by decide +kernel)
set_option maxRecDepth 20000 in
theorem gX8_read_X3_edge : GoodIn wsX8_read (wsV RX8 113 RX3 yX3_edge wsX3_edge) := goodIn_app (goodIn_of _ (by decide +kernel)) ggX8_read_X3_edge
theorem dX8_read_0 : decode cX8_read 0 = .ok (.aload_n 0, 1) := by decide +kernel
theorem dX8_read_1 : decode cX8_read 1 = .ok (.getfield 25, 3) := by decide +kernel
theorem dX8_read_4 : decode cX8_read 4 = .ok (.iload_n 1, 1) := by decide +kernel
theorem dX8_read_5 : decode cX8_read 5 = .ok (.invokevirtual 107, 3) := by decide +kernel
theorem dX8_read_8 : decode cX8_read 8 = .ok (.ifCond .eq 14, 3) := by decide +kernel
theorem dX8_read_11 : decode cX8_read 11 = .ok (.aload_n 0, 1) := by decide +kernel
theorem dX8_read_12 : decode cX8_read 12 = .ok (.getfield 21, 3) := by decide +kernel
theorem dX8_read_15 : decode cX8_read 15 = .ok (.iload_n 2, 1) := by decide +kernel
theorem dX8_read_16 : decode cX8_read 16 = .ok (.invokevirtual 107, 3) := by decide +kernel
theorem dX8_read_19 : decode cX8_read 19 = .ok (.ifCond .ne 5, 3) := by decide +kernel
theorem dX8_read_22 : decode cX8_read 22 = .ok (.iconst (-1), 1) := by decide +kernel
theorem dX8_read_23 : decode cX8_read 23 = .ok (.ireturn, 1) := by decide +kernel
theorem dX8_read_24 : decode cX8_read 24 = .ok (.aload_n 0, 1) := by decide +kernel
theorem dX8_read_25 : decode cX8_read 25 = .ok (.getfield 33, 3) := by decide +kernel
theorem dX8_read_28 : decode cX8_read 28 = .ok (.iload_n 1, 1) := by decide +kernel
theorem dX8_read_29 : decode cX8_read 29 = .ok (.aload_n 0, 1) := by decide +kernel
theorem dX8_read_30 : decode cX8_read 30 = .ok (.getfield 53, 3) := by decide +kernel
theorem dX8_read_33 : decode cX8_read 33 = .ok (.invokevirtual 110, 3) := by decide +kernel
theorem dX8_read_36 : decode cX8_read 36 = .ok (.aload_n 0, 1) := by decide +kernel
theorem dX8_read_37 : decode cX8_read 37 = .ok (.getfield 33, 3) := by decide +kernel
theorem dX8_read_40 : decode cX8_read 40 = .ok (.iload_n 1, 1) := by decide +kernel
theorem dX8_read_41 : decode cX8_read 41 = .ok (.iload_n 2, 1) := by decide +kernel
theorem dX8_read_42 : decode cX8_read 42 = .ok (.iload_n 3, 1) := by decide +kernel
theorem dX8_read_43 : decode cX8_read 43 = .ok (.invokevirtual 113, 3) := by decide +kernel
theorem dX8_read_46 : decode cX8_read 46 = .ok (.ireturn, 1) := by decide +kernel
set_option maxRecDepth 20000 in
theorem ggX8_readings_X5_has : GoodIn wsX8_readings wsX5_has := goodIn_r _ [8, 9, 154, 155, 156] rfl (by decide +kernel)
set_option maxRecDepth 20000 in
theorem gX8_readings_X5_has : GoodIn wsX8_readings (wsV RX8 107 RX5 yX5_has wsX5_has) := goodIn_app (goodIn_of _ (by decide +kernel)) ggX8_readings_X5_has
set_option maxRecDepth 20000 in
theorem ggX8_readings_X3_bring : GoodIn wsX8_readings wsX3_bring := goodIn_r _ [14, 15, 16, 17, 18, 19, 20, 21, 22, 23, 24, 25, 26, 27, 28, 7, 29, 9, 30, 31, 32, 33, 34, 35, 36, 37, 38, 39, 40, 41, 42, 43, 5, 6, 8, 44, 45, 46, 47, 48, 49, 50, 51, 52, 53, 54, 55, 56, 57, 58, 59, 60, 61, 62, 63, 64, 65, 66, 67, 68, 69, 70, 71, 72, 73, 74, 75, 76, 77, 78, 79, 80, 81, 82, 83, 84, 85, 86, 87, 88, 89, 90, 91, 92, 93, 94, 95, 96, 97, 98, 99, 100, 101, 102, 103, 104, 105, 106, 107, 108, 109, 110, 111, 112, 113, 114, 115, 116, 117, 118, 119, 120, 121, 122, 123, 124, 125, 157, 158, 159, 160, 161, 162, 163, 154, 155, 156, 164, 165, 166, 167, 168, 169, 170, 171, 172] rfl (by decide +kernel)
set_option maxRecDepth 20000 in
theorem gX8_readings_X3_bring : GoodIn wsX8_readings (wsV RX8 110 RX3 yX3_bring wsX3_bring) := goodIn_app (goodIn_of _ (by decide +kernel)) ggX8_readings_X3_bring
set_option maxRecDepth 20000 in
theorem ggX8_readings_X3_unlike : GoodIn wsX8_readings wsX3_unlike := goodIn_r _ [129, 15, 26, 27, 28, 7, 29, 9, 130, 131, 132, 13, 133, 134, 135, 136, 137, 24, 25, 138, 139, 140, 141, 142, 143, 144, 145, 157, 158, 159, 160, 161, 162, 163, 154, 155, 156] rfl (by decide +kernel)
set_option maxRecDepth 20000 in
theorem gX8_readings_X3_unlike : GoodIn wsX8_readings (wsV RX8 117 RX3 yX3_unlike wsX3_unlike) := goodIn_app (goodIn_of _ (by decide +kernel)) ggX8_readings_X3_unlike
theorem dX8_readings_0 : decode cX8_readings 0 = .ok (.aload_n 0, 1) := by decide +kernel
theorem dX8_readings_1 : decode cX8_readings 1 = .ok (.getfield 25, 3) := by decide +kernel
theorem dX8_readings_4 : decode cX8_readings 4 = .ok (.iload_n 1, 1) := by decide +kernel
theorem dX8_readings_5 : decode cX8_readings 5 = .ok (.invokevirtual 107, 3) := by decide +kernel
theorem dX8_readings_8 : decode cX8_readings 8 = .ok (.ifCond .ne 5, 3) := by decide +kernel
theorem dX8_readings_11 : decode cX8_readings 11 = .ok (.iconst (-1), 1) := by decide +kernel
theorem dX8_readings_12 : decode cX8_readings 12 = .ok (.ireturn, 1) := by decide +kernel
theorem dX8_readings_13 : decode cX8_readings 13 = .ok (.aload_n 0, 1) := by decide +kernel
theorem dX8_readings_14 : decode cX8_readings 14 = .ok (.getfield 33, 3) := by decide +kernel
theorem dX8_readings_17 : decode cX8_readings 17 = .ok (.iload_n 1, 1) := by decide +kernel
theorem dX8_readings_18 : decode cX8_readings 18 = .ok (.aload_n 0, 1) := by decide +kernel
theorem dX8_readings_19 : decode cX8_readings 19 = .ok (.getfield 53, 3) := by decide +kernel
theorem dX8_readings_22 : decode cX8_readings 22 = .ok (.invokevirtual 110, 3) := by decide +kernel
theorem dX8_readings_25 : decode cX8_readings 25 = .ok (.aload_n 0, 1) := by decide +kernel
theorem dX8_readings_26 : decode cX8_readings 26 = .ok (.getfield 33, 3) := by decide +kernel
theorem dX8_readings_29 : decode cX8_readings 29 = .ok (.iload_n 1, 1) := by decide +kernel
theorem dX8_readings_30 : decode cX8_readings 30 = .ok (.invokevirtual 117, 3) := by decide +kernel
theorem dX8_readings_33 : decode cX8_readings 33 = .ok (.ireturn, 1) := by decide +kernel
set_option maxRecDepth 20000 in
theorem ggX8_cost_X8_settle : GoodIn wsX8_cost wsX8_settle := goodIn_r _ [6, 7, 8, 9, 10, 11, 1, 12, 13, 14, 15, 16, 17, 18, 19, 20, 21, 22, 23, 24, 25, 26, 27, 28, 29, 30, 31, 32, 33, 34, 35, 36, 37, 38, 39, 40, 41, 42, 43, 44, 45, 46, 47, 48, 49, 50, 51, 52, 53, 54, 55, 56, 57, 58, 59, 60, 61, 62, 63, 64, 65, 66, 67, 68, 69, 70, 71, 72, 73, 74, 75, 76, 77, 78, 79, 80, 81, 82, 83, 84, 85, 86, 87, 88, 89, 90, 91, 92, 93, 94, 95, 96, 97, 98, 99, 100, 101, 102, 103, 104, 105, 106, 107, 108, 109, 110, 111, 112, 113, 114, 115, 116, 117, 118, 119, 120, 121, 122, 123, 124, 125, 126, 127, 128, 129, 130, 131, 132, 133, 134, 135, 136, 137, 138, 139, 140, 141, 142, 143, 144, 145, 146, 147, 148, 149, 150, 151, 152, 153, 154, 155, 156, 157, 158, 159, 160, 161, 162, 163, 164, 165, 166, 167, 168, 169, 170, 171, 172, 173, 174, 175, 176, 177, 178, 191, 192, 193, 194, 195, 196, 197, 198, 199, 200, 201, 202, 203, 204, 205, 206, 207, 208, 209, 210, 211, 212, 213, 214, 215, 216, 217, 218, 219, 220, 221, 222, 223, 224, 225] rfl (by decide +kernel)
set_option maxRecDepth 20000 in
theorem gX8_cost_X8_settle : GoodIn wsX8_cost (wsV RX8 120 RX8 yX8_settle wsX8_settle) := goodIn_app (goodIn_of _ (by decide +kernel)) ggX8_cost_X8_settle
set_option maxRecDepth 20000 in
theorem ggX8_cost_X6_leastCost : GoodIn wsX8_cost wsX6_leastCost := goodIn_r _ [182, 183, 184, 185, 137, 186, 143, 145, 187, 188, 189, 190, 144, 151, 174, 218, 219, 220, 221, 222, 223, 224, 225] rfl (by decide +kernel)
set_option maxRecDepth 20000 in
theorem gX8_cost_X6_leastCost : GoodIn wsX8_cost (wsV RX8 123 RX6 yX6_leastCost wsX6_leastCost) := goodIn_app (goodIn_of _ (by decide +kernel)) ggX8_cost_X6_leastCost
theorem dX8_cost_0 : decode cX8_cost 0 = .ok (.aload_n 0, 1) := by decide +kernel
theorem dX8_cost_1 : decode cX8_cost 1 = .ok (.invokevirtual 120, 3) := by decide +kernel
theorem dX8_cost_4 : decode cX8_cost 4 = .ok (.ifCond .eq 13, 3) := by decide +kernel
theorem dX8_cost_7 : decode cX8_cost 7 = .ok (.aload_n 0, 1) := by decide +kernel
theorem dX8_cost_8 : decode cX8_cost 8 = .ok (.getfield 42, 3) := by decide +kernel
theorem dX8_cost_11 : decode cX8_cost 11 = .ok (.invokevirtual 123, 3) := by decide +kernel
theorem dX8_cost_14 : decode cX8_cost 14 = .ok (.goto 4, 3) := by decide +kernel
theorem dX8_cost_17 : decode cX8_cost 17 = .ok (.iconst (-1), 1) := by decide +kernel
theorem dX8_cost_18 : decode cX8_cost 18 = .ok (.ireturn, 1) := by decide +kernel
set_option maxRecDepth 20000 in
theorem ggX8_told_X8_settle : GoodIn wsX8_told wsX8_settle := goodIn_r _ [7, 8, 1, 9, 10, 11, 2, 12, 13, 14, 15, 16, 17, 18, 19, 20, 21, 22, 23, 24, 25, 26, 27, 28, 29, 30, 31, 32, 33, 34, 35, 36, 37, 38, 39, 40, 41, 42, 43, 44, 45, 46, 47, 48, 49, 50, 51, 52, 53, 54, 55, 56, 57, 58, 59, 60, 61, 62, 63, 64, 65, 66, 67, 68, 69, 70, 71, 72, 73, 74, 75, 76, 77, 78, 79, 80, 81, 82, 83, 84, 85, 86, 87, 88, 89, 90, 91, 92, 93, 94, 95, 96, 97, 98, 99, 100, 101, 102, 103, 104, 105, 106, 107, 108, 109, 110, 111, 112, 113, 114, 115, 116, 117, 118, 119, 120, 121, 122, 123, 124, 125, 126, 127, 128, 129, 130, 131, 132, 133, 134, 135, 136, 137, 138, 139, 140, 141, 142, 143, 144, 145, 146, 147, 148, 149, 150, 151, 152, 153, 154, 155, 156, 157, 158, 159, 160, 161, 162, 163, 164, 165, 166, 167, 168, 169, 170, 171, 172, 173, 174, 175, 176, 177, 178, 184, 185, 186, 187, 188, 189, 190, 191, 192, 193, 194, 195, 196, 197, 198, 199, 200, 201, 202, 203, 204, 205, 206, 207, 208, 209, 210, 211, 212, 213, 214, 215, 216, 217, 218] rfl (by decide +kernel)
set_option maxRecDepth 20000 in
theorem gX8_told_X8_settle : GoodIn wsX8_told (wsV RX8 120 RX8 yX8_settle wsX8_settle) := goodIn_app (goodIn_of _ (by decide +kernel)) ggX8_told_X8_settle
set_option maxRecDepth 20000 in
theorem ggX8_told_X5_has : GoodIn wsX8_told wsX5_has := goodIn_r _ [51, 17, 192, 193, 194] rfl (by decide +kernel)
set_option maxRecDepth 20000 in
theorem gX8_told_X5_has : GoodIn wsX8_told (wsV RX8 107 RX5 yX5_has wsX5_has) := goodIn_app (goodIn_of _ (by decide +kernel)) ggX8_told_X5_has
set_option maxRecDepth 20000 in
theorem ggX8_told_X6_styleOf : GoodIn wsX8_told wsX6_styleOf := goodIn_r _ [183, 143, 145, 211, 212, 213, 214, 215, 216, 217, 218] rfl (by decide +kernel)
set_option maxRecDepth 20000 in
theorem gX8_told_X6_styleOf : GoodIn wsX8_told (wsV RX8 126 RX6 yX6_styleOf wsX6_styleOf) := goodIn_app (goodIn_of _ (by decide +kernel)) ggX8_told_X6_styleOf
theorem dX8_told_0 : decode cX8_told 0 = .ok (.aload_n 0, 1) := by decide +kernel
theorem dX8_told_1 : decode cX8_told 1 = .ok (.invokevirtual 120, 3) := by decide +kernel
theorem dX8_told_4 : decode cX8_told 4 = .ok (.ifCond .eq 25, 3) := by decide +kernel
theorem dX8_told_7 : decode cX8_told 7 = .ok (.aload_n 0, 1) := by decide +kernel
theorem dX8_told_8 : decode cX8_told 8 = .ok (.getfield 25, 3) := by decide +kernel
theorem dX8_told_11 : decode cX8_told 11 = .ok (.iload_n 1, 1) := by decide +kernel
theorem dX8_told_12 : decode cX8_told 12 = .ok (.invokevirtual 107, 3) := by decide +kernel
theorem dX8_told_15 : decode cX8_told 15 = .ok (.ifCond .eq 14, 3) := by decide +kernel
theorem dX8_told_18 : decode cX8_told 18 = .ok (.aload_n 0, 1) := by decide +kernel
theorem dX8_told_19 : decode cX8_told 19 = .ok (.getfield 42, 3) := by decide +kernel
theorem dX8_told_22 : decode cX8_told 22 = .ok (.iload_n 1, 1) := by decide +kernel
theorem dX8_told_23 : decode cX8_told 23 = .ok (.invokevirtual 126, 3) := by decide +kernel
theorem dX8_told_26 : decode cX8_told 26 = .ok (.goto 4, 3) := by decide +kernel
theorem dX8_told_29 : decode cX8_told 29 = .ok (.iconst (-1), 1) := by decide +kernel
theorem dX8_told_30 : decode cX8_told 30 = .ok (.ireturn, 1) := by decide +kernel
set_option maxRecDepth 20000 in
theorem ggX8_day_X8_settle : GoodIn wsX8_day wsX8_settle := goodIn_r _ [8, 9, 1, 10, 2, 11, 3, 12, 13, 14, 15, 16, 17, 18, 19, 20, 21, 22, 23, 24, 25, 26, 27, 28, 29, 30, 31, 32, 33, 34, 35, 36, 37, 38, 39, 40, 41, 42, 43, 44, 45, 46, 47, 48, 49, 50, 51, 52, 53, 54, 55, 56, 57, 58, 59, 60, 61, 62, 63, 64, 65, 66, 67, 68, 69, 70, 71, 72, 73, 74, 75, 76, 77, 78, 79, 80, 81, 82, 83, 84, 85, 86, 87, 88, 89, 90, 91, 92, 93, 94, 95, 96, 97, 98, 99, 100, 101, 102, 103, 104, 105, 106, 107, 108, 109, 110, 111, 112, 113, 114, 115, 116, 117, 118, 119, 120, 121, 122, 123, 124, 125, 126, 127, 128, 129, 130, 131, 132, 133, 134, 135, 136, 137, 138, 139, 140, 141, 142, 143, 144, 145, 146, 147, 148, 149, 150, 151, 152, 153, 154, 155, 156, 157, 158, 159, 160, 161, 162, 163, 164, 165, 166, 167, 168, 169, 170, 171, 172, 173, 174, 175, 176, 177, 178, 185, 186, 187, 188, 189, 190, 191, 192, 193, 194, 195, 196, 197, 198, 199, 200, 201, 202, 203, 204, 205, 206, 207, 208, 209, 210, 211, 212, 213, 214, 215, 216, 217, 218, 219] rfl (by decide +kernel)
set_option maxRecDepth 20000 in
theorem gX8_day_X8_settle : GoodIn wsX8_day (wsV RX8 120 RX8 yX8_settle wsX8_settle) := goodIn_app (goodIn_of _ (by decide +kernel)) ggX8_day_X8_settle
set_option maxRecDepth 20000 in
theorem ggX8_day_X5_has : GoodIn wsX8_day wsX5_has := goodIn_r _ [51, 17, 193, 194, 195] rfl (by decide +kernel)
set_option maxRecDepth 20000 in
theorem gX8_day_X5_has : GoodIn wsX8_day (wsV RX8 107 RX5 yX5_has wsX5_has) := goodIn_app (goodIn_of _ (by decide +kernel)) ggX8_day_X5_has
set_option maxRecDepth 20000 in
theorem ggX8_day_X6_styleOf : GoodIn wsX8_day wsX6_styleOf := goodIn_r _ [183, 143, 145, 212, 213, 214, 215, 216, 217, 218, 219] rfl (by decide +kernel)
set_option maxRecDepth 20000 in
theorem gX8_day_X6_styleOf : GoodIn wsX8_day (wsV RX8 126 RX6 yX6_styleOf wsX6_styleOf) := goodIn_app (goodIn_of _ (by decide +kernel)) ggX8_day_X6_styleOf
set_option maxRecDepth 20000 in
theorem ggX8_day_X3_edge : GoodIn wsX8_day wsX3_edge := goodIn_r _ [161, 32, 33, 196, 197, 198, 199, 200, 201, 202] rfl (by decide +kernel)
set_option maxRecDepth 20000 in
theorem gX8_day_X3_edge : GoodIn wsX8_day (wsV RX8 113 RX3 yX3_edge wsX3_edge) := goodIn_app (goodIn_of _ (by decide +kernel)) ggX8_day_X3_edge
theorem dX8_day_0 : decode cX8_day 0 = .ok (.aload_n 0, 1) := by decide +kernel
theorem dX8_day_1 : decode cX8_day 1 = .ok (.invokevirtual 120, 3) := by decide +kernel
theorem dX8_day_4 : decode cX8_day 4 = .ok (.ifCond .eq 34, 3) := by decide +kernel
theorem dX8_day_7 : decode cX8_day 7 = .ok (.aload_n 0, 1) := by decide +kernel
theorem dX8_day_8 : decode cX8_day 8 = .ok (.getfield 25, 3) := by decide +kernel
theorem dX8_day_11 : decode cX8_day 11 = .ok (.iload_n 1, 1) := by decide +kernel
theorem dX8_day_12 : decode cX8_day 12 = .ok (.invokevirtual 107, 3) := by decide +kernel
theorem dX8_day_15 : decode cX8_day 15 = .ok (.ifCond .eq 23, 3) := by decide +kernel
theorem dX8_day_18 : decode cX8_day 18 = .ok (.aload_n 0, 1) := by decide +kernel
theorem dX8_day_19 : decode cX8_day 19 = .ok (.getfield 33, 3) := by decide +kernel
theorem dX8_day_22 : decode cX8_day 22 = .ok (.iload_n 1, 1) := by decide +kernel
theorem dX8_day_23 : decode cX8_day 23 = .ok (.aload_n 0, 1) := by decide +kernel
theorem dX8_day_24 : decode cX8_day 24 = .ok (.getfield 42, 3) := by decide +kernel
theorem dX8_day_27 : decode cX8_day 27 = .ok (.iload_n 1, 1) := by decide +kernel
theorem dX8_day_28 : decode cX8_day 28 = .ok (.invokevirtual 126, 3) := by decide +kernel
theorem dX8_day_31 : decode cX8_day 31 = .ok (.iload_n 2, 1) := by decide +kernel
theorem dX8_day_32 : decode cX8_day 32 = .ok (.invokevirtual 113, 3) := by decide +kernel
theorem dX8_day_35 : decode cX8_day 35 = .ok (.goto 4, 3) := by decide +kernel
theorem dX8_day_38 : decode cX8_day 38 = .ok (.iconst (-1), 1) := by decide +kernel
theorem dX8_day_39 : decode cX8_day 39 = .ok (.ireturn, 1) := by decide +kernel
set_option maxRecDepth 20000 in
theorem ggX8_kind_X8_settle : GoodIn wsX8_kind wsX8_settle := goodIn_r _ [6, 7, 1, 8, 9, 10, 11, 12, 13, 14, 15, 16, 17, 18, 19, 20, 21, 22, 23, 24, 25, 26, 27, 28, 29, 30, 31, 32, 33, 34, 35, 36, 37, 38, 39, 40, 41, 42, 43, 44, 45, 46, 47, 48, 49, 50, 51, 52, 53, 54, 55, 56, 57, 58, 59, 60, 61, 62, 63, 64, 65, 66, 67, 68, 69, 70, 71, 72, 73, 74, 75, 76, 77, 78, 79, 80, 81, 82, 83, 84, 85, 86, 87, 88, 89, 90, 91, 92, 93, 94, 95, 96, 97, 98, 99, 100, 101, 102, 103, 104, 105, 106, 107, 108, 109, 110, 111, 112, 113, 114, 115, 116, 117, 118, 119, 120, 121, 122, 123, 124, 125, 126, 127, 128, 129, 130, 131, 132, 133, 134, 135, 136, 137, 138, 139, 140, 141, 142, 143, 144, 145, 146, 147, 148, 149, 150, 151, 152, 153, 154, 155, 156, 157, 158, 159, 160, 161, 162, 163, 164, 165, 166, 167, 168, 169, 170, 171, 172, 173, 174, 175, 176, 177, 178, 224, 225, 226, 227, 228, 229, 230, 231, 232, 233, 234, 235, 236, 237, 238, 239, 240, 241, 242, 243, 244, 245, 246, 247, 248, 249, 250, 251, 252, 253, 254, 255, 256, 257, 258] rfl (by decide +kernel)
set_option maxRecDepth 20000 in
theorem gX8_kind_X8_settle : GoodIn wsX8_kind (wsV RX8 120 RX8 yX8_settle wsX8_settle) := goodIn_app (goodIn_of _ (by decide +kernel)) ggX8_kind_X8_settle
set_option maxRecDepth 20000 in
theorem ggX8_kind_X5_has : GoodIn wsX8_kind wsX5_has := goodIn_r _ [51, 17, 232, 233, 234] rfl (by decide +kernel)
set_option maxRecDepth 20000 in
theorem gX8_kind_X5_has : GoodIn wsX8_kind (wsV RX8 107 RX5 yX5_has wsX5_has) := goodIn_app (goodIn_of _ (by decide +kernel)) ggX8_kind_X5_has
set_option maxRecDepth 20000 in
theorem ggX8_kind_X8_kindOf : GoodIn wsX8_kind wsX8_kindOf := goodIn_r _ [183, 9, 11, 184, 185, 186, 5, 187, 188, 189, 190, 137, 191, 143, 145, 192, 193, 194, 21, 195, 196, 159, 160, 161, 32, 33, 197, 198, 199, 200, 23, 34, 13, 14, 15, 16, 17, 201, 202, 203, 204, 205, 206, 207, 208, 209, 210, 211, 212, 213, 144, 156, 139, 25, 26, 27, 214, 215, 216, 217, 218, 219, 151, 174, 220, 221, 222, 223, 224, 225, 226, 227, 228, 229, 230, 231, 251, 252, 253, 254, 255, 256, 257, 258, 235, 236, 237, 238, 239, 240, 241, 232, 233, 234] rfl (by decide +kernel)
set_option maxRecDepth 20000 in
theorem gX8_kind_X8_kindOf : GoodIn wsX8_kind (wsV RX8 129 RX8 yX8_kindOf wsX8_kindOf) := goodIn_app (goodIn_of _ (by decide +kernel)) ggX8_kind_X8_kindOf
theorem dX8_kind_0 : decode cX8_kind 0 = .ok (.aload_n 0, 1) := by decide +kernel
theorem dX8_kind_1 : decode cX8_kind 1 = .ok (.invokevirtual 120, 3) := by decide +kernel
theorem dX8_kind_4 : decode cX8_kind 4 = .ok (.ifCond .eq 22, 3) := by decide +kernel
theorem dX8_kind_7 : decode cX8_kind 7 = .ok (.aload_n 0, 1) := by decide +kernel
theorem dX8_kind_8 : decode cX8_kind 8 = .ok (.getfield 25, 3) := by decide +kernel
theorem dX8_kind_11 : decode cX8_kind 11 = .ok (.iload_n 1, 1) := by decide +kernel
theorem dX8_kind_12 : decode cX8_kind 12 = .ok (.invokevirtual 107, 3) := by decide +kernel
theorem dX8_kind_15 : decode cX8_kind 15 = .ok (.ifCond .eq 11, 3) := by decide +kernel
theorem dX8_kind_18 : decode cX8_kind 18 = .ok (.aload_n 0, 1) := by decide +kernel
theorem dX8_kind_19 : decode cX8_kind 19 = .ok (.iload_n 1, 1) := by decide +kernel
theorem dX8_kind_20 : decode cX8_kind 20 = .ok (.invokevirtual 129, 3) := by decide +kernel
theorem dX8_kind_23 : decode cX8_kind 23 = .ok (.goto 4, 3) := by decide +kernel
theorem dX8_kind_26 : decode cX8_kind 26 = .ok (.iconst (-1), 1) := by decide +kernel
theorem dX8_kind_27 : decode cX8_kind 27 = .ok (.ireturn, 1) := by decide +kernel
set_option maxRecDepth 20000 in
theorem ggX8_second_X8_settle : GoodIn wsX8_second wsX8_settle := goodIn_r _ [7, 8, 1, 9, 10, 11, 2, 12, 13, 14, 15, 16, 17, 18, 19, 20, 21, 22, 23, 24, 25, 26, 27, 28, 29, 30, 31, 32, 33, 34, 35, 36, 37, 38, 39, 40, 41, 42, 43, 44, 45, 46, 47, 48, 49, 50, 51, 52, 53, 54, 55, 56, 57, 58, 59, 60, 61, 62, 63, 64, 65, 66, 67, 68, 69, 70, 71, 72, 73, 74, 75, 76, 77, 78, 79, 80, 81, 82, 83, 84, 85, 86, 87, 88, 89, 90, 91, 92, 93, 94, 95, 96, 97, 98, 99, 100, 101, 102, 103, 104, 105, 106, 107, 108, 109, 110, 111, 112, 113, 114, 115, 116, 117, 118, 119, 120, 121, 122, 123, 124, 125, 126, 127, 128, 129, 130, 131, 132, 133, 134, 135, 136, 137, 138, 139, 140, 141, 142, 143, 144, 145, 146, 147, 148, 149, 150, 151, 152, 153, 154, 155, 156, 157, 158, 159, 160, 161, 162, 163, 164, 165, 166, 167, 168, 169, 170, 171, 172, 173, 174, 175, 176, 177, 178, 206, 207, 208, 209, 210, 211, 212, 213, 214, 215, 216, 217, 218, 219, 220, 221, 222, 223, 224, 225, 226, 227, 228, 229, 230, 231, 232, 233, 234, 235, 236, 237, 238, 239, 240] rfl (by decide +kernel)
set_option maxRecDepth 20000 in
theorem gX8_second_X8_settle : GoodIn wsX8_second (wsV RX8 120 RX8 yX8_settle wsX8_settle) := goodIn_app (goodIn_of _ (by decide +kernel)) ggX8_second_X8_settle
set_option maxRecDepth 20000 in
theorem ggX8_second_X5_has : GoodIn wsX8_second wsX5_has := goodIn_r _ [51, 17, 214, 215, 216] rfl (by decide +kernel)
set_option maxRecDepth 20000 in
theorem gX8_second_X5_has : GoodIn wsX8_second (wsV RX8 107 RX5 yX5_has wsX5_has) := goodIn_app (goodIn_of _ (by decide +kernel)) ggX8_second_X5_has
set_option maxRecDepth 20000 in
theorem ggX8_second_X8_isReadByBest : GoodIn wsX8_second wsX8_isReadByBest := goodIn_r _ [183, 10, 2, 184, 185, 186, 137, 187, 143, 145, 188, 189, 190, 21, 191, 192, 159, 160, 161, 32, 33, 206, 207, 208, 209, 210, 211, 212, 213, 233, 234, 235, 236, 237, 238, 239, 240, 217, 218, 219, 220, 221, 222, 223] rfl (by decide +kernel)
set_option maxRecDepth 20000 in
theorem gX8_second_X8_isReadByBest : GoodIn wsX8_second (wsV RX8 132 RX8 yX8_isReadByBest wsX8_isReadByBest) := goodIn_app (goodIn_of _ (by decide +kernel)) ggX8_second_X8_isReadByBest
set_option maxRecDepth 20000 in
theorem ggX8_second_X6_leastOtherwise : GoodIn wsX8_second wsX6_leastOtherwise := goodIn_r _ [196, 144, 156, 139, 25, 26, 27, 197, 185, 186, 137, 187, 143, 145, 198, 199, 200, 21, 201, 192, 159, 160, 161, 32, 33, 202, 203, 204, 205, 151, 174, 233, 234, 235, 236, 237, 238, 239, 240, 217, 218, 219, 220, 221, 222, 223] rfl (by decide +kernel)
set_option maxRecDepth 20000 in
theorem gX8_second_X6_leastOtherwise : GoodIn wsX8_second (wsV RX8 135 RX6 yX6_leastOtherwise wsX6_leastOtherwise) := goodIn_app (goodIn_of _ (by decide +kernel)) ggX8_second_X6_leastOtherwise
theorem dX8_second_0 : decode cX8_second 0 = .ok (.aload_n 0, 1) := by decide +kernel
theorem dX8_second_1 : decode cX8_second 1 = .ok (.invokevirtual 120, 3) := by decide +kernel
theorem dX8_second_4 : decode cX8_second 4 = .ok (.ifCond .eq 33, 3) := by decide +kernel
theorem dX8_second_7 : decode cX8_second 7 = .ok (.aload_n 0, 1) := by decide +kernel
theorem dX8_second_8 : decode cX8_second 8 = .ok (.getfield 25, 3) := by decide +kernel
theorem dX8_second_11 : decode cX8_second 11 = .ok (.iload_n 1, 1) := by decide +kernel
theorem dX8_second_12 : decode cX8_second 12 = .ok (.invokevirtual 107, 3) := by decide +kernel
theorem dX8_second_15 : decode cX8_second 15 = .ok (.ifCond .eq 22, 3) := by decide +kernel
theorem dX8_second_18 : decode cX8_second 18 = .ok (.aload_n 0, 1) := by decide +kernel
theorem dX8_second_19 : decode cX8_second 19 = .ok (.iload_n 1, 1) := by decide +kernel
theorem dX8_second_20 : decode cX8_second 20 = .ok (.invokevirtual 132, 3) := by decide +kernel
theorem dX8_second_23 : decode cX8_second 23 = .ok (.ifCond .eq 14, 3) := by decide +kernel
theorem dX8_second_26 : decode cX8_second 26 = .ok (.aload_n 0, 1) := by decide +kernel
theorem dX8_second_27 : decode cX8_second 27 = .ok (.getfield 42, 3) := by decide +kernel
theorem dX8_second_30 : decode cX8_second 30 = .ok (.iload_n 1, 1) := by decide +kernel
theorem dX8_second_31 : decode cX8_second 31 = .ok (.invokevirtual 135, 3) := by decide +kernel
theorem dX8_second_34 : decode cX8_second 34 = .ok (.goto 4, 3) := by decide +kernel
theorem dX8_second_37 : decode cX8_second 37 = .ok (.iconst (-1), 1) := by decide +kernel
theorem dX8_second_38 : decode cX8_second 38 = .ok (.ireturn, 1) := by decide +kernel
set_option maxRecDepth 20000 in
theorem ggX8_many_X8_settle : GoodIn wsX8_many wsX8_settle := goodIn_r _ [6, 7, 1, 8, 9, 10, 11, 12, 13, 14, 15, 16, 17, 18, 19, 20, 21, 22, 23, 24, 25, 26, 27, 28, 29, 30, 31, 32, 33, 34, 35, 36, 37, 38, 39, 40, 41, 42, 43, 44, 45, 46, 47, 48, 49, 50, 51, 52, 53, 54, 55, 56, 57, 58, 59, 60, 61, 62, 63, 64, 65, 66, 67, 68, 69, 70, 71, 72, 73, 74, 75, 76, 77, 78, 79, 80, 81, 82, 83, 84, 85, 86, 87, 88, 89, 90, 91, 92, 93, 94, 95, 96, 97, 98, 99, 100, 101, 102, 103, 104, 105, 106, 107, 108, 109, 110, 111, 112, 113, 114, 115, 116, 117, 118, 119, 120, 121, 122, 123, 124, 125, 126, 127, 128, 129, 130, 131, 132, 133, 134, 135, 136, 137, 138, 139, 140, 141, 142, 143, 144, 145, 146, 147, 148, 149, 150, 151, 152, 153, 154, 155, 156, 157, 158, 159, 160, 161, 162, 163, 164, 165, 166, 167, 168, 169, 170, 171, 172, 173, 174, 175, 176, 177, 178, 223, 224, 225, 226, 227, 228, 229, 230, 231, 232, 233, 234, 235, 236, 237, 238, 239, 240, 241, 242, 243, 244, 245, 246, 247, 248, 249, 250, 251, 252, 253, 254, 255, 256, 257] rfl (by decide +kernel)
set_option maxRecDepth 20000 in
theorem gX8_many_X8_settle : GoodIn wsX8_many (wsV RX8 120 RX8 yX8_settle wsX8_settle) := goodIn_app (goodIn_of _ (by decide +kernel)) ggX8_many_X8_settle
set_option maxRecDepth 20000 in
theorem ggX8_many_X5_size : GoodIn wsX8_many wsX5_size := goodIn_r _ [16, 17, 231, 232, 233] rfl (by decide +kernel)
set_option maxRecDepth 20000 in
theorem gX8_many_X5_size : GoodIn wsX8_many (wsV RX8 138 RX5 yX5_size wsX5_size) := goodIn_app (goodIn_of _ (by decide +kernel)) ggX8_many_X5_size
set_option maxRecDepth 20000 in
theorem ggX8_many_X8_kindOf : GoodIn wsX8_many wsX8_kindOf := goodIn_r _ [182, 9, 11, 183, 184, 185, 5, 186, 187, 188, 189, 137, 190, 143, 145, 191, 192, 193, 21, 194, 195, 159, 160, 161, 32, 33, 196, 197, 198, 199, 23, 34, 13, 14, 15, 16, 17, 200, 201, 202, 203, 204, 205, 206, 207, 208, 209, 210, 211, 212, 144, 156, 139, 25, 26, 27, 213, 214, 215, 216, 217, 218, 151, 174, 219, 220, 221, 222, 223, 224, 225, 226, 227, 228, 229, 230, 250, 251, 252, 253, 254, 255, 256, 257, 234, 235, 236, 237, 238, 239, 240, 231, 232, 233] rfl (by decide +kernel)
set_option maxRecDepth 20000 in
theorem gX8_many_X8_kindOf : GoodIn wsX8_many (wsV RX8 129 RX8 yX8_kindOf wsX8_kindOf) := goodIn_app (goodIn_of _ (by decide +kernel)) ggX8_many_X8_kindOf
theorem dX8_many_0 : decode cX8_many 0 = .ok (.iload_n 1, 1) := by decide +kernel
theorem dX8_many_1 : decode cX8_many 1 = .ok (.ifCond .lt 15, 3) := by decide +kernel
theorem dX8_many_4 : decode cX8_many 4 = .ok (.iload_n 1, 1) := by decide +kernel
theorem dX8_many_5 : decode cX8_many 5 = .ok (.iconst 3, 1) := by decide +kernel
theorem dX8_many_6 : decode cX8_many 6 = .ok (.if_icmp .gt 10, 3) := by decide +kernel
theorem dX8_many_9 : decode cX8_many 9 = .ok (.aload_n 0, 1) := by decide +kernel
theorem dX8_many_10 : decode cX8_many 10 = .ok (.invokevirtual 120, 3) := by decide +kernel
theorem dX8_many_13 : decode cX8_many 13 = .ok (.ifCond .ne 5, 3) := by decide +kernel
theorem dX8_many_16 : decode cX8_many 16 = .ok (.iconst (-1), 1) := by decide +kernel
theorem dX8_many_17 : decode cX8_many 17 = .ok (.ireturn, 1) := by decide +kernel
theorem dX8_many_18 : decode cX8_many 18 = .ok (.iconst 0, 1) := by decide +kernel
theorem dX8_many_19 : decode cX8_many 19 = .ok (.istore_n 2, 1) := by decide +kernel
theorem dX8_many_20 : decode cX8_many 20 = .ok (.iconst 0, 1) := by decide +kernel
theorem dX8_many_21 : decode cX8_many 21 = .ok (.istore_n 3, 1) := by decide +kernel
theorem dX8_many_22 : decode cX8_many 22 = .ok (.iload_n 3, 1) := by decide +kernel
theorem dX8_many_23 : decode cX8_many 23 = .ok (.aload_n 0, 1) := by decide +kernel
theorem dX8_many_24 : decode cX8_many 24 = .ok (.getfield 25, 3) := by decide +kernel
theorem dX8_many_27 : decode cX8_many 27 = .ok (.invokevirtual 138, 3) := by decide +kernel
theorem dX8_many_30 : decode cX8_many 30 = .ok (.if_icmp .ge 21, 3) := by decide +kernel
theorem dX8_many_33 : decode cX8_many 33 = .ok (.aload_n 0, 1) := by decide +kernel
theorem dX8_many_34 : decode cX8_many 34 = .ok (.iload_n 3, 1) := by decide +kernel
theorem dX8_many_35 : decode cX8_many 35 = .ok (.invokevirtual 129, 3) := by decide +kernel
theorem dX8_many_38 : decode cX8_many 38 = .ok (.iload_n 1, 1) := by decide +kernel
theorem dX8_many_39 : decode cX8_many 39 = .ok (.if_icmp .ne 6, 3) := by decide +kernel
theorem dX8_many_42 : decode cX8_many 42 = .ok (.iinc 2 1, 3) := by decide +kernel
theorem dX8_many_45 : decode cX8_many 45 = .ok (.iinc 3 1, 3) := by decide +kernel
theorem dX8_many_48 : decode cX8_many 48 = .ok (.goto (-26), 3) := by decide +kernel
theorem dX8_many_51 : decode cX8_many 51 = .ok (.iload_n 2, 1) := by decide +kernel
theorem dX8_many_52 : decode cX8_many 52 = .ok (.ireturn, 1) := by decide +kernel
set_option maxRecDepth 20000 in
theorem ggX8_spans_X8_settle : GoodIn wsX8_spans wsX8_settle := goodIn_r _ [7, 8, 1, 9, 10, 11, 2, 12, 13, 14, 15, 16, 17, 18, 19, 20, 21, 22, 23, 24, 25, 26, 27, 28, 29, 30, 31, 32, 33, 34, 35, 36, 37, 38, 39, 40, 41, 42, 43, 44, 45, 46, 47, 48, 49, 50, 51, 52, 53, 54, 55, 56, 57, 58, 59, 60, 61, 62, 63, 64, 65, 66, 67, 68, 69, 70, 71, 72, 73, 74, 75, 76, 77, 78, 79, 80, 81, 82, 83, 84, 85, 86, 87, 88, 89, 90, 91, 92, 93, 94, 95, 96, 97, 98, 99, 100, 101, 102, 103, 104, 105, 106, 107, 108, 109, 110, 111, 112, 113, 114, 115, 116, 117, 118, 119, 120, 121, 122, 123, 124, 125, 126, 127, 128, 129, 130, 131, 132, 133, 134, 135, 136, 137, 138, 139, 140, 141, 142, 143, 144, 145, 146, 147, 148, 149, 150, 151, 152, 153, 154, 155, 156, 157, 158, 159, 160, 161, 162, 163, 164, 165, 166, 167, 168, 169, 170, 171, 172, 173, 174, 175, 176, 177, 178, 183, 184, 185, 186, 187, 188, 189, 190, 191, 192, 193, 194, 195, 196, 197, 198, 199, 200, 201, 202, 203, 204, 205, 206, 207, 208, 209, 210, 211, 212, 213, 214, 215, 216, 217] rfl (by decide +kernel)
set_option maxRecDepth 20000 in
theorem gX8_spans_X8_settle : GoodIn wsX8_spans (wsV RX8 120 RX8 yX8_settle wsX8_settle) := goodIn_app (goodIn_of _ (by decide +kernel)) ggX8_spans_X8_settle
set_option maxRecDepth 20000 in
theorem ggX8_spans_X5_size : GoodIn wsX8_spans wsX5_size := goodIn_r _ [16, 17, 191, 192, 193] rfl (by decide +kernel)
set_option maxRecDepth 20000 in
theorem gX8_spans_X5_size : GoodIn wsX8_spans (wsV RX8 138 RX5 yX5_size wsX5_size) := goodIn_app (goodIn_of _ (by decide +kernel)) ggX8_spans_X5_size
set_option maxRecDepth 20000 in
theorem ggX8_spans_X6_styleOf : GoodIn wsX8_spans wsX6_styleOf := goodIn_r _ [182, 143, 145, 210, 211, 212, 213, 214, 215, 216, 217] rfl (by decide +kernel)
set_option maxRecDepth 20000 in
theorem gX8_spans_X6_styleOf : GoodIn wsX8_spans (wsV RX8 126 RX6 yX6_styleOf wsX6_styleOf) := goodIn_app (goodIn_of _ (by decide +kernel)) ggX8_spans_X6_styleOf
theorem dX8_spans_0 : decode cX8_spans 0 = .ok (.aload_n 0, 1) := by decide +kernel
theorem dX8_spans_1 : decode cX8_spans 1 = .ok (.invokevirtual 120, 3) := by decide +kernel
theorem dX8_spans_4 : decode cX8_spans 4 = .ok (.ifCond .ne 5, 3) := by decide +kernel
theorem dX8_spans_7 : decode cX8_spans 7 = .ok (.iconst (-1), 1) := by decide +kernel
theorem dX8_spans_8 : decode cX8_spans 8 = .ok (.ireturn, 1) := by decide +kernel
theorem dX8_spans_9 : decode cX8_spans 9 = .ok (.iconst 1, 1) := by decide +kernel
theorem dX8_spans_10 : decode cX8_spans 10 = .ok (.istore_n 1, 1) := by decide +kernel
theorem dX8_spans_11 : decode cX8_spans 11 = .ok (.iconst 1, 1) := by decide +kernel
theorem dX8_spans_12 : decode cX8_spans 12 = .ok (.istore_n 2, 1) := by decide +kernel
theorem dX8_spans_13 : decode cX8_spans 13 = .ok (.iload_n 2, 1) := by decide +kernel
theorem dX8_spans_14 : decode cX8_spans 14 = .ok (.aload_n 0, 1) := by decide +kernel
theorem dX8_spans_15 : decode cX8_spans 15 = .ok (.getfield 25, 3) := by decide +kernel
theorem dX8_spans_18 : decode cX8_spans 18 = .ok (.invokevirtual 138, 3) := by decide +kernel
theorem dX8_spans_21 : decode cX8_spans 21 = .ok (.if_icmp .ge 33, 3) := by decide +kernel
theorem dX8_spans_24 : decode cX8_spans 24 = .ok (.aload_n 0, 1) := by decide +kernel
theorem dX8_spans_25 : decode cX8_spans 25 = .ok (.getfield 42, 3) := by decide +kernel
theorem dX8_spans_28 : decode cX8_spans 28 = .ok (.iload_n 2, 1) := by decide +kernel
theorem dX8_spans_29 : decode cX8_spans 29 = .ok (.invokevirtual 126, 3) := by decide +kernel
theorem dX8_spans_32 : decode cX8_spans 32 = .ok (.aload_n 0, 1) := by decide +kernel
theorem dX8_spans_33 : decode cX8_spans 33 = .ok (.getfield 42, 3) := by decide +kernel
theorem dX8_spans_36 : decode cX8_spans 36 = .ok (.iload_n 2, 1) := by decide +kernel
theorem dX8_spans_37 : decode cX8_spans 37 = .ok (.iconst 1, 1) := by decide +kernel
theorem dX8_spans_38 : decode cX8_spans 38 = .ok (.isub, 1) := by decide +kernel
theorem dX8_spans_39 : decode cX8_spans 39 = .ok (.invokevirtual 126, 3) := by decide +kernel
theorem dX8_spans_42 : decode cX8_spans 42 = .ok (.if_icmp .eq 6, 3) := by decide +kernel
theorem dX8_spans_45 : decode cX8_spans 45 = .ok (.iinc 1 1, 3) := by decide +kernel
theorem dX8_spans_48 : decode cX8_spans 48 = .ok (.iinc 2 1, 3) := by decide +kernel
theorem dX8_spans_51 : decode cX8_spans 51 = .ok (.goto (-38), 3) := by decide +kernel
theorem dX8_spans_54 : decode cX8_spans 54 = .ok (.iload_n 1, 1) := by decide +kernel
theorem dX8_spans_55 : decode cX8_spans 55 = .ok (.ireturn, 1) := by decide +kernel
set_option maxRecDepth 20000 in
theorem ggX8_part_X0_isDay : GoodIn wsX8_part wsX0_isDay := goodIn_r _ [6, 7] rfl (by decide +kernel)
set_option maxRecDepth 20000 in
theorem gX8_part_X0_isDay : GoodIn wsX8_part (va_wsS RX8 141 yX0_isDay wsX0_isDay) := goodIn_app (goodIn_of _ (by decide +kernel)) ggX8_part_X0_isDay
set_option maxRecDepth 20000 in
theorem ggX8_part_X0_dayOfMonth : GoodIn wsX8_part wsX0_dayOfMonth := goodIn_r _ [10, 11, 12, 5, 13, 14, 15, 16, 17, 18, 19, 20, 21, 22, 23, 24, 25, 26] rfl (by decide +kernel)
set_option maxRecDepth 20000 in
theorem gX8_part_X0_dayOfMonth : GoodIn wsX8_part (va_wsS RX8 153 yX0_dayOfMonth wsX0_dayOfMonth) := goodIn_app (goodIn_of _ (by decide +kernel)) ggX8_part_X0_dayOfMonth
set_option maxRecDepth 20000 in
theorem ggX8_part_X0_monthOf : GoodIn wsX8_part wsX0_monthOf := goodIn_r _ [13, 14, 15, 5, 16, 17, 18, 19, 20, 21, 22, 23] rfl (by decide +kernel)
set_option maxRecDepth 20000 in
theorem gX8_part_X0_monthOf : GoodIn wsX8_part (va_wsS RX8 156 yX0_monthOf wsX0_monthOf) := goodIn_app (goodIn_of _ (by decide +kernel)) ggX8_part_X0_monthOf
set_option maxRecDepth 20000 in
theorem ggX8_part_X0_yearOf : GoodIn wsX8_part wsX0_yearOf := goodIn_r _ [16, 17, 18, 5, 19] rfl (by decide +kernel)
set_option maxRecDepth 20000 in
theorem gX8_part_X0_yearOf : GoodIn wsX8_part (va_wsS RX8 159 yX0_yearOf wsX0_yearOf) := goodIn_app (goodIn_of _ (by decide +kernel)) ggX8_part_X0_yearOf
set_option maxRecDepth 20000 in
theorem ggX8_part_X0_weekdayOf : GoodIn wsX8_part wsX0_weekdayOf := goodIn_r _ [31] rfl (by decide +kernel)
set_option maxRecDepth 20000 in
theorem gX8_part_X0_weekdayOf : GoodIn wsX8_part (va_wsS RX8 162 yX0_weekdayOf wsX0_weekdayOf) := goodIn_app (goodIn_of _ (by decide +kernel)) ggX8_part_X0_weekdayOf
theorem dX8_part_0 : decode cX8_part 0 = .ok (.iload_n 1, 1) := by decide +kernel
theorem dX8_part_1 : decode cX8_part 1 = .ok (.invokestatic 141, 3) := by decide +kernel
theorem dX8_part_4 : decode cX8_part 4 = .ok (.ifCond .ne 13, 3) := by decide +kernel
theorem dX8_part_7 : decode cX8_part 7 = .ok (.new 146, 3) := by decide +kernel
theorem dX8_part_10 : decode cX8_part 10 = .ok (.dup, 1) := by decide +kernel
theorem dX8_part_11 : decode cX8_part 11 = .ok (.ldc 148, 2) := by decide +kernel
theorem dX8_part_13 : decode cX8_part 13 = .ok (.invokespecial 150, 3) := by decide +kernel
theorem dX8_part_16 : decode cX8_part 16 = .ok (.athrow, 1) := by decide +kernel
theorem dX8_part_17 : decode cX8_part 17 = .ok (.iload_n 2, 1) := by decide +kernel
theorem dX8_part_18 : decode cX8_part 18 = .ok (.tableswitch 50 0 3 #[30, 35, 40, 45], 30) := by decide +kernel
theorem dX8_part_48 : decode cX8_part 48 = .ok (.iload_n 1, 1) := by decide +kernel
theorem dX8_part_49 : decode cX8_part 49 = .ok (.invokestatic 153, 3) := by decide +kernel
theorem dX8_part_52 : decode cX8_part 52 = .ok (.ireturn, 1) := by decide +kernel
theorem dX8_part_53 : decode cX8_part 53 = .ok (.iload_n 1, 1) := by decide +kernel
theorem dX8_part_54 : decode cX8_part 54 = .ok (.invokestatic 156, 3) := by decide +kernel
theorem dX8_part_57 : decode cX8_part 57 = .ok (.ireturn, 1) := by decide +kernel
theorem dX8_part_58 : decode cX8_part 58 = .ok (.iload_n 1, 1) := by decide +kernel
theorem dX8_part_59 : decode cX8_part 59 = .ok (.invokestatic 159, 3) := by decide +kernel
theorem dX8_part_62 : decode cX8_part 62 = .ok (.ireturn, 1) := by decide +kernel
theorem dX8_part_63 : decode cX8_part 63 = .ok (.iload_n 1, 1) := by decide +kernel
theorem dX8_part_64 : decode cX8_part 64 = .ok (.invokestatic 162, 3) := by decide +kernel
theorem dX8_part_67 : decode cX8_part 67 = .ok (.ireturn, 1) := by decide +kernel
theorem dX8_part_68 : decode cX8_part 68 = .ok (.new 146, 3) := by decide +kernel
theorem dX8_part_71 : decode cX8_part 71 = .ok (.dup, 1) := by decide +kernel
theorem dX8_part_72 : decode cX8_part 72 = .ok (.ldc 165, 2) := by decide +kernel
theorem dX8_part_74 : decode cX8_part 74 = .ok (.invokespecial 150, 3) := by decide +kernel
theorem dX8_part_77 : decode cX8_part 77 = .ok (.athrow, 1) := by decide +kernel
set_option maxRecDepth 20000 in
theorem ggX8_number_X0_dayNumber : GoodIn wsX8_number wsX0_dayNumber := goodIn_r _ [4, 5, 6, 3, 7, 8, 9, 10, 11] rfl (by decide +kernel)
set_option maxRecDepth 20000 in
theorem gX8_number_X0_dayNumber : GoodIn wsX8_number (va_wsS RX8 167 yX0_dayNumber wsX0_dayNumber) := goodIn_app (goodIn_of _ (by decide +kernel)) ggX8_number_X0_dayNumber
theorem dX8_number_0 : decode cX8_number 0 = .ok (.iload_n 1, 1) := by decide +kernel
theorem dX8_number_1 : decode cX8_number 1 = .ok (.iload_n 2, 1) := by decide +kernel
theorem dX8_number_2 : decode cX8_number 2 = .ok (.iload_n 3, 1) := by decide +kernel
theorem dX8_number_3 : decode cX8_number 3 = .ok (.invokestatic 167, 3) := by decide +kernel
theorem dX8_number_6 : decode cX8_number 6 = .ok (.ireturn, 1) := by decide +kernel
set_option maxRecDepth 20000 in
theorem ggX8_write_X0_isDay : GoodIn wsX8_write wsX0_isDay := goodIn_r _ [6, 7] rfl (by decide +kernel)
set_option maxRecDepth 20000 in
theorem gX8_write_X0_isDay : GoodIn wsX8_write (va_wsS RX8 141 yX0_isDay wsX0_isDay) := goodIn_app (goodIn_of _ (by decide +kernel)) ggX8_write_X0_isDay
set_option maxRecDepth 20000 in
theorem ggX8_write_X5_has : GoodIn wsX8_write wsX5_has := goodIn_r _ [12, 13, 91, 92, 93] rfl (by decide +kernel)
set_option maxRecDepth 20000 in
theorem gX8_write_X5_has : GoodIn wsX8_write (wsV RX8 107 RX5 yX5_has wsX5_has) := goodIn_app (goodIn_of _ (by decide +kernel)) ggX8_write_X5_has
set_option maxRecDepth 20000 in
theorem ggX8_write_X1_setDown : GoodIn wsX8_write wsX1_setDown := goodIn_r _ [18, 19, 20, 21, 22, 11, 23, 24, 25, 9, 10, 12, 13, 26, 27, 28, 29, 30, 31, 32, 33, 34, 17, 35, 36, 37, 38, 39, 5, 40, 41, 42, 43, 44, 45, 46, 47, 48, 49, 50, 51, 52, 53, 54, 55, 56, 57, 58, 59, 60, 61, 62, 63, 64, 65, 66, 67, 68, 69, 70, 71, 72, 73, 74, 75, 76, 77, 78, 94, 95, 91, 92, 93] rfl (by decide +kernel)
set_option maxRecDepth 20000 in
theorem gX8_write_X1_setDown : GoodIn wsX8_write (wsV RX8 170 RX1 yX1_setDown wsX1_setDown) := goodIn_app (goodIn_of _ (by decide +kernel)) ggX8_write_X1_setDown
set_option maxRecDepth 20000 in
theorem ggX8_write_X1_byteAt : GoodIn wsX8_write wsX1_byteAt := goodIn_r _ [82, 19, 69, 94, 95] rfl (by decide +kernel)
set_option maxRecDepth 20000 in
theorem gX8_write_X1_byteAt : GoodIn wsX8_write (wsV RX8 174 RX1 yX1_byteAt wsX1_byteAt) := goodIn_app (goodIn_of _ (by decide +kernel)) ggX8_write_X1_byteAt
theorem dX8_write_0 : decode cX8_write 0 = .ok (.iload_n 1, 1) := by decide +kernel
theorem dX8_write_1 : decode cX8_write 1 = .ok (.invokestatic 141, 3) := by decide +kernel
theorem dX8_write_4 : decode cX8_write 4 = .ok (.ifCond .eq 14, 3) := by decide +kernel
theorem dX8_write_7 : decode cX8_write 7 = .ok (.aload_n 0, 1) := by decide +kernel
theorem dX8_write_8 : decode cX8_write 8 = .ok (.getfield 21, 3) := by decide +kernel
theorem dX8_write_11 : decode cX8_write 11 = .ok (.iload_n 2, 1) := by decide +kernel
theorem dX8_write_12 : decode cX8_write 12 = .ok (.invokevirtual 107, 3) := by decide +kernel
theorem dX8_write_15 : decode cX8_write 15 = .ok (.ifCond .ne 5, 3) := by decide +kernel
theorem dX8_write_18 : decode cX8_write 18 = .ok (.iconst (-1), 1) := by decide +kernel
theorem dX8_write_19 : decode cX8_write 19 = .ok (.ireturn, 1) := by decide +kernel
theorem dX8_write_20 : decode cX8_write 20 = .ok (.aload_n 0, 1) := by decide +kernel
theorem dX8_write_21 : decode cX8_write 21 = .ok (.getfield 49, 3) := by decide +kernel
theorem dX8_write_24 : decode cX8_write 24 = .ok (.iload_n 1, 1) := by decide +kernel
theorem dX8_write_25 : decode cX8_write 25 = .ok (.aload_n 0, 1) := by decide +kernel
theorem dX8_write_26 : decode cX8_write 26 = .ok (.getfield 21, 3) := by decide +kernel
theorem dX8_write_29 : decode cX8_write 29 = .ok (.iload_n 2, 1) := by decide +kernel
theorem dX8_write_30 : decode cX8_write 30 = .ok (.invokevirtual 170, 3) := by decide +kernel
theorem dX8_write_33 : decode cX8_write 33 = .ok (.aload_n 0, 1) := by decide +kernel
theorem dX8_write_34 : decode cX8_write 34 = .ok (.getfield 49, 3) := by decide +kernel
theorem dX8_write_37 : decode cX8_write 37 = .ok (.iload_n 3, 1) := by decide +kernel
theorem dX8_write_38 : decode cX8_write 38 = .ok (.invokevirtual 174, 3) := by decide +kernel
theorem dX8_write_41 : decode cX8_write 41 = .ok (.ireturn, 1) := by decide +kernel
set_option maxRecDepth 20000 in
theorem ggX8_same_X8_settle : GoodIn wsX8_same wsX8_settle := goodIn_r _ [10, 5, 1, 11, 4, 12, 2, 13, 14, 15, 16, 17, 18, 19, 20, 21, 22, 23, 24, 25, 26, 27, 28, 29, 30, 31, 32, 33, 34, 35, 36, 37, 38, 39, 40, 41, 42, 43, 44, 45, 46, 47, 48, 49, 50, 51, 52, 53, 54, 55, 56, 57, 58, 59, 60, 61, 62, 63, 64, 65, 66, 67, 68, 69, 70, 71, 72, 73, 74, 75, 76, 77, 78, 79, 80, 81, 82, 83, 84, 85, 86, 87, 88, 89, 90, 91, 92, 93, 94, 95, 96, 97, 98, 99, 100, 101, 102, 103, 104, 105, 106, 107, 108, 109, 110, 111, 112, 113, 114, 115, 116, 117, 118, 119, 120, 121, 122, 123, 124, 125, 126, 127, 128, 129, 130, 131, 132, 133, 134, 135, 136, 137, 138, 139, 140, 141, 142, 143, 144, 145, 146, 147, 148, 149, 150, 151, 152, 153, 154, 155, 156, 157, 158, 159, 160, 161, 162, 163, 164, 165, 166, 167, 168, 169, 170, 171, 172, 173, 174, 175, 176, 177, 178, 179, 247, 248, 249, 250, 251, 252, 253, 254, 255, 256, 257, 258, 259, 260, 261, 262, 263, 264, 265, 266, 267, 268, 269, 270, 271, 272, 273, 274, 275, 276, 277, 278, 279, 280, 281] rfl (by decide +kernel)
set_option maxRecDepth 20000 in
theorem gX8_same_X8_settle : GoodIn wsX8_same (wsV RX8 120 RX8 yX8_settle wsX8_settle) := goodIn_app (goodIn_of _ (by decide +kernel)) ggX8_same_X8_settle
set_option maxRecDepth 20000 in
theorem ggX8_same_X5_has : GoodIn wsX8_same wsX5_has := goodIn_r _ [52, 18, 255, 256, 257] rfl (by decide +kernel)
set_option maxRecDepth 20000 in
theorem gX8_same_X5_has : GoodIn wsX8_same (wsV RX8 107 RX5 yX5_has wsX5_has) := goodIn_app (goodIn_of _ (by decide +kernel)) ggX8_same_X5_has
set_option maxRecDepth 20000 in
theorem ggX8_same_X8_isReadByBest : GoodIn wsX8_same wsX8_isReadByBest := goodIn_r _ [184, 4, 2, 185, 186, 187, 138, 188, 144, 146, 189, 190, 191, 22, 192, 193, 160, 161, 162, 33, 34, 247, 248, 249, 250, 251, 252, 253, 254, 274, 275, 276, 277, 278, 279, 280, 281, 258, 259, 260, 261, 262, 263, 264] rfl (by decide +kernel)
set_option maxRecDepth 20000 in
theorem gX8_same_X8_isReadByBest : GoodIn wsX8_same (wsV RX8 132 RX8 yX8_isReadByBest wsX8_isReadByBest) := goodIn_app (goodIn_of _ (by decide +kernel)) ggX8_same_X8_isReadByBest
set_option maxRecDepth 20000 in
theorem ggX8_same_X6_styleOf : GoodIn wsX8_same wsX6_styleOf := goodIn_r _ [188, 144, 146, 274, 275, 276, 277, 278, 279, 280, 281] rfl (by decide +kernel)
set_option maxRecDepth 20000 in
theorem gX8_same_X6_styleOf : GoodIn wsX8_same (wsV RX8 126 RX6 yX6_styleOf wsX6_styleOf) := goodIn_app (goodIn_of _ (by decide +kernel)) ggX8_same_X6_styleOf
set_option maxRecDepth 20000 in
theorem ggX8_same_X3_edge : GoodIn wsX8_same wsX3_edge := goodIn_r _ [162, 33, 34, 258, 259, 260, 261, 262, 263, 264] rfl (by decide +kernel)
set_option maxRecDepth 20000 in
theorem gX8_same_X3_edge : GoodIn wsX8_same (wsV RX8 113 RX3 yX3_edge wsX3_edge) := goodIn_app (goodIn_of _ (by decide +kernel)) ggX8_same_X3_edge
set_option maxRecDepth 20000 in
theorem ggX8_same_X1_setDown : GoodIn wsX8_same wsX1_setDown := goodIn_r _ [199, 200, 201, 45, 46, 16, 47, 48, 49, 50, 51, 52, 18, 202, 54, 55, 56, 57, 58, 203, 204, 205, 198, 206, 207, 208, 209, 210, 114, 211, 212, 213, 214, 215, 216, 217, 120, 121, 122, 116, 117, 118, 119, 218, 113, 115, 219, 220, 221, 222, 223, 224, 225, 226, 227, 228, 229, 230, 231, 232, 233, 234, 235, 236, 237, 238, 124, 125, 282, 283, 255, 256, 257] rfl (by decide +kernel)
set_option maxRecDepth 20000 in
theorem gX8_same_X1_setDown : GoodIn wsX8_same (wsV RX8 170 RX1 yX1_setDown wsX1_setDown) := goodIn_app (goodIn_of _ (by decide +kernel)) ggX8_same_X1_setDown
set_option maxRecDepth 20000 in
theorem ggX8_same_X1_equalsText : GoodIn wsX8_same wsX1_equalsText := goodIn_r _ [242, 200, 201, 45, 46, 16, 47, 48, 49, 50, 51, 52, 18, 243, 244, 245, 198, 246, 231, 202, 54, 55, 56, 57, 58, 282, 283, 255, 256, 257] rfl (by decide +kernel)
set_option maxRecDepth 20000 in
theorem gX8_same_X1_equalsText : GoodIn wsX8_same (wsV RX8 177 RX1 yX1_equalsText wsX1_equalsText) := goodIn_app (goodIn_of _ (by decide +kernel)) ggX8_same_X1_equalsText
theorem dX8_same_0 : decode cX8_same 0 = .ok (.aload_n 0, 1) := by decide +kernel
theorem dX8_same_1 : decode cX8_same 1 = .ok (.invokevirtual 120, 3) := by decide +kernel
theorem dX8_same_4 : decode cX8_same 4 = .ok (.ifCond .eq 22, 3) := by decide +kernel
theorem dX8_same_7 : decode cX8_same 7 = .ok (.aload_n 0, 1) := by decide +kernel
theorem dX8_same_8 : decode cX8_same 8 = .ok (.getfield 25, 3) := by decide +kernel
theorem dX8_same_11 : decode cX8_same 11 = .ok (.iload_n 1, 1) := by decide +kernel
theorem dX8_same_12 : decode cX8_same 12 = .ok (.invokevirtual 107, 3) := by decide +kernel
theorem dX8_same_15 : decode cX8_same 15 = .ok (.ifCond .eq 11, 3) := by decide +kernel
theorem dX8_same_18 : decode cX8_same 18 = .ok (.aload_n 0, 1) := by decide +kernel
theorem dX8_same_19 : decode cX8_same 19 = .ok (.iload_n 1, 1) := by decide +kernel
theorem dX8_same_20 : decode cX8_same 20 = .ok (.invokevirtual 132, 3) := by decide +kernel
theorem dX8_same_23 : decode cX8_same 23 = .ok (.ifCond .ne 5, 3) := by decide +kernel
theorem dX8_same_26 : decode cX8_same 26 = .ok (.iconst (-1), 1) := by decide +kernel
theorem dX8_same_27 : decode cX8_same 27 = .ok (.ireturn, 1) := by decide +kernel
theorem dX8_same_28 : decode cX8_same 28 = .ok (.aload_n 0, 1) := by decide +kernel
theorem dX8_same_29 : decode cX8_same 29 = .ok (.getfield 42, 3) := by decide +kernel
theorem dX8_same_32 : decode cX8_same 32 = .ok (.iload_n 1, 1) := by decide +kernel
theorem dX8_same_33 : decode cX8_same 33 = .ok (.invokevirtual 126, 3) := by decide +kernel
theorem dX8_same_36 : decode cX8_same 36 = .ok (.istore_n 2, 1) := by decide +kernel
theorem dX8_same_37 : decode cX8_same 37 = .ok (.aload_n 0, 1) := by decide +kernel
theorem dX8_same_38 : decode cX8_same 38 = .ok (.getfield 49, 3) := by decide +kernel
theorem dX8_same_41 : decode cX8_same 41 = .ok (.aload_n 0, 1) := by decide +kernel
theorem dX8_same_42 : decode cX8_same 42 = .ok (.getfield 33, 3) := by decide +kernel
theorem dX8_same_45 : decode cX8_same 45 = .ok (.iload_n 1, 1) := by decide +kernel
theorem dX8_same_46 : decode cX8_same 46 = .ok (.iload_n 2, 1) := by decide +kernel
theorem dX8_same_47 : decode cX8_same 47 = .ok (.iconst 0, 1) := by decide +kernel
theorem dX8_same_48 : decode cX8_same 48 = .ok (.invokevirtual 113, 3) := by decide +kernel
theorem dX8_same_51 : decode cX8_same 51 = .ok (.aload_n 0, 1) := by decide +kernel
theorem dX8_same_52 : decode cX8_same 52 = .ok (.getfield 21, 3) := by decide +kernel
theorem dX8_same_55 : decode cX8_same 55 = .ok (.iload_n 2, 1) := by decide +kernel
theorem dX8_same_56 : decode cX8_same 56 = .ok (.invokevirtual 170, 3) := by decide +kernel
theorem dX8_same_59 : decode cX8_same 59 = .ok (.aload_n 0, 1) := by decide +kernel
theorem dX8_same_60 : decode cX8_same 60 = .ok (.getfield 49, 3) := by decide +kernel
theorem dX8_same_63 : decode cX8_same 63 = .ok (.aload_n 0, 1) := by decide +kernel
theorem dX8_same_64 : decode cX8_same 64 = .ok (.getfield 25, 3) := by decide +kernel
theorem dX8_same_67 : decode cX8_same 67 = .ok (.iload_n 1, 1) := by decide +kernel
theorem dX8_same_68 : decode cX8_same 68 = .ok (.invokevirtual 177, 3) := by decide +kernel
theorem dX8_same_71 : decode cX8_same 71 = .ok (.ifCond .eq 7, 3) := by decide +kernel
theorem dX8_same_74 : decode cX8_same 74 = .ok (.iconst 1, 1) := by decide +kernel
theorem dX8_same_75 : decode cX8_same 75 = .ok (.goto 4, 3) := by decide +kernel
theorem dX8_same_78 : decode cX8_same 78 = .ok (.iconst 0, 1) := by decide +kernel
theorem dX8_same_79 : decode cX8_same 79 = .ok (.ireturn, 1) := by decide +kernel
set_option maxRecDepth 20000 in
theorem ggX8_count_X5_size : GoodIn wsX8_count wsX5_size := goodIn_r _ [9, 10, 25, 26, 27] rfl (by decide +kernel)
set_option maxRecDepth 20000 in
theorem gX8_count_X5_size : GoodIn wsX8_count (wsV RX8 138 RX5 yX5_size wsX5_size) := goodIn_app (goodIn_of _ (by decide +kernel)) ggX8_count_X5_size
set_option maxRecDepth 20000 in
theorem ggX8_count_X4_length : GoodIn wsX8_count wsX4_length := goodIn_r _ [15, 16, 28, 29] rfl (by decide +kernel)
set_option maxRecDepth 20000 in
theorem gX8_count_X4_length : GoodIn wsX8_count (wsV RX8 65 RX4 yX4_length wsX4_length) := goodIn_app (goodIn_of _ (by decide +kernel)) ggX8_count_X4_length
theorem dX8_count_0 : decode cX8_count 0 = .ok (.iload_n 1, 1) := by decide +kernel
theorem dX8_count_1 : decode cX8_count 1 = .ok (.tableswitch 60 0 3 #[31, 39, 47, 55], 31) := by decide +kernel
theorem dX8_count_32 : decode cX8_count 32 = .ok (.aload_n 0, 1) := by decide +kernel
theorem dX8_count_33 : decode cX8_count 33 = .ok (.getfield 21, 3) := by decide +kernel
theorem dX8_count_36 : decode cX8_count 36 = .ok (.invokevirtual 138, 3) := by decide +kernel
theorem dX8_count_39 : decode cX8_count 39 = .ok (.ireturn, 1) := by decide +kernel
theorem dX8_count_40 : decode cX8_count 40 = .ok (.aload_n 0, 1) := by decide +kernel
theorem dX8_count_41 : decode cX8_count 41 = .ok (.getfield 25, 3) := by decide +kernel
theorem dX8_count_44 : decode cX8_count 44 = .ok (.invokevirtual 138, 3) := by decide +kernel
theorem dX8_count_47 : decode cX8_count 47 = .ok (.ireturn, 1) := by decide +kernel
theorem dX8_count_48 : decode cX8_count 48 = .ok (.aload_n 0, 1) := by decide +kernel
theorem dX8_count_49 : decode cX8_count 49 = .ok (.getfield 10, 3) := by decide +kernel
theorem dX8_count_52 : decode cX8_count 52 = .ok (.invokevirtual 65, 3) := by decide +kernel
theorem dX8_count_55 : decode cX8_count 55 = .ok (.ireturn, 1) := by decide +kernel
theorem dX8_count_56 : decode cX8_count 56 = .ok (.aload_n 0, 1) := by decide +kernel
theorem dX8_count_57 : decode cX8_count 57 = .ok (.getfield 53, 3) := by decide +kernel
theorem dX8_count_60 : decode cX8_count 60 = .ok (.ireturn, 1) := by decide +kernel
theorem dX8_count_61 : decode cX8_count 61 = .ok (.iconst (-1), 1) := by decide +kernel
theorem dX8_count_62 : decode cX8_count 62 = .ok (.ireturn, 1) := by decide +kernel
theorem dX8_isPrice_0 : decode cX8_isPrice 0 = .ok (.iload_n 0, 1) := by decide +kernel
theorem dX8_isPrice_1 : decode cX8_isPrice 1 = .ok (.ifCond .lt 14, 3) := by decide +kernel
theorem dX8_isPrice_4 : decode cX8_isPrice 4 = .ok (.iload_n 0, 1) := by decide +kernel
theorem dX8_isPrice_5 : decode cX8_isPrice 5 = .ok (.sipush 1000, 3) := by decide +kernel
theorem dX8_isPrice_8 : decode cX8_isPrice 8 = .ok (.if_icmp .gt 7, 3) := by decide +kernel
theorem dX8_isPrice_11 : decode cX8_isPrice 11 = .ok (.iconst 1, 1) := by decide +kernel
theorem dX8_isPrice_12 : decode cX8_isPrice 12 = .ok (.goto 4, 3) := by decide +kernel
theorem dX8_isPrice_15 : decode cX8_isPrice 15 = .ok (.iconst 0, 1) := by decide +kernel
theorem dX8_isPrice_16 : decode cX8_isPrice 16 = .ok (.ireturn, 1) := by decide +kernel
set_option maxRecDepth 20000 in
theorem ggX8_settle_X5_size : GoodIn wsX8_settle wsX5_size := goodIn_r _ [11, 12, 182, 183, 184] rfl (by decide +kernel)
set_option maxRecDepth 20000 in
theorem gX8_settle_X5_size : GoodIn wsX8_settle (wsV RX8 138 RX5 yX5_size wsX5_size) := goodIn_app (goodIn_of _ (by decide +kernel)) ggX8_settle_X5_size
set_option maxRecDepth 20000 in
theorem ggX8_settle_X3_bring : GoodIn wsX8_settle wsX3_bring := goodIn_r _ [17, 18, 19, 20, 21, 22, 23, 24, 25, 26, 27, 28, 29, 8, 9, 10, 11, 12, 30, 31, 32, 33, 34, 35, 36, 37, 38, 39, 40, 41, 42, 43, 44, 45, 46, 47, 48, 49, 50, 51, 52, 53, 54, 55, 56, 57, 58, 59, 60, 61, 62, 63, 64, 65, 66, 67, 68, 69, 70, 71, 72, 73, 74, 75, 76, 77, 78, 79, 80, 81, 82, 83, 84, 85, 86, 87, 88, 89, 90, 91, 92, 93, 94, 95, 96, 97, 98, 99, 100, 101, 102, 103, 104, 105, 106, 107, 108, 109, 110, 111, 112, 113, 114, 115, 116, 117, 118, 119, 120, 121, 122, 123, 124, 125, 126, 127, 128, 185, 186, 187, 188, 189, 190, 191, 182, 183, 184, 192, 193, 194, 195, 196, 197, 198, 199, 200] rfl (by decide +kernel)
set_option maxRecDepth 20000 in
theorem gX8_settle_X3_bring : GoodIn wsX8_settle (wsV RX8 110 RX3 yX3_bring wsX3_bring) := goodIn_app (goodIn_of _ (by decide +kernel)) ggX8_settle_X3_bring
set_option maxRecDepth 20000 in
theorem ggX8_settle_X6_settle : GoodIn wsX8_settle wsX6_settle := goodIn_r _ [133, 134, 20, 21, 22, 135, 136, 137, 138, 139, 140, 141, 142, 143, 132, 144, 145, 146, 147, 148, 149, 150, 151, 152, 153, 154, 155, 16, 156, 27, 28, 157, 158, 159, 160, 161, 162, 163, 164, 165, 166, 167, 168, 169, 170, 171, 172, 173, 201, 202, 203, 204, 205, 206, 207, 208, 185, 186, 187, 188, 189, 190, 191] rfl (by decide +kernel)
set_option maxRecDepth 20000 in
theorem gX8_settle_X6_settle : GoodIn wsX8_settle (wsV RX8 181 RX6 yX6_settle wsX6_settle) := goodIn_app (goodIn_of _ (by decide +kernel)) ggX8_settle_X6_settle
theorem dX8_settle_0 : decode cX8_settle 0 = .ok (.aload_n 0, 1) := by decide +kernel
theorem dX8_settle_1 : decode cX8_settle 1 = .ok (.getfield 21, 3) := by decide +kernel
theorem dX8_settle_4 : decode cX8_settle 4 = .ok (.invokevirtual 138, 3) := by decide +kernel
theorem dX8_settle_7 : decode cX8_settle 7 = .ok (.ifCond .eq 13, 3) := by decide +kernel
theorem dX8_settle_10 : decode cX8_settle 10 = .ok (.aload_n 0, 1) := by decide +kernel
theorem dX8_settle_11 : decode cX8_settle 11 = .ok (.getfield 25, 3) := by decide +kernel
theorem dX8_settle_14 : decode cX8_settle 14 = .ok (.invokevirtual 138, 3) := by decide +kernel
theorem dX8_settle_17 : decode cX8_settle 17 = .ok (.ifCond .ne 5, 3) := by decide +kernel
theorem dX8_settle_20 : decode cX8_settle 20 = .ok (.iconst 0, 1) := by decide +kernel
theorem dX8_settle_21 : decode cX8_settle 21 = .ok (.ireturn, 1) := by decide +kernel
theorem dX8_settle_22 : decode cX8_settle 22 = .ok (.aload_n 0, 1) := by decide +kernel
theorem dX8_settle_23 : decode cX8_settle 23 = .ok (.getfield 57, 3) := by decide +kernel
theorem dX8_settle_26 : decode cX8_settle 26 = .ok (.ifCond .ne 60, 3) := by decide +kernel
theorem dX8_settle_29 : decode cX8_settle 29 = .ok (.iconst 0, 1) := by decide +kernel
theorem dX8_settle_30 : decode cX8_settle 30 = .ok (.istore_n 1, 1) := by decide +kernel
theorem dX8_settle_31 : decode cX8_settle 31 = .ok (.iload_n 1, 1) := by decide +kernel
theorem dX8_settle_32 : decode cX8_settle 32 = .ok (.aload_n 0, 1) := by decide +kernel
theorem dX8_settle_33 : decode cX8_settle 33 = .ok (.getfield 25, 3) := by decide +kernel
theorem dX8_settle_36 : decode cX8_settle 36 = .ok (.invokevirtual 138, 3) := by decide +kernel
theorem dX8_settle_39 : decode cX8_settle 39 = .ok (.if_icmp .ge 21, 3) := by decide +kernel
theorem dX8_settle_42 : decode cX8_settle 42 = .ok (.aload_n 0, 1) := by decide +kernel
theorem dX8_settle_43 : decode cX8_settle 43 = .ok (.getfield 33, 3) := by decide +kernel
theorem dX8_settle_46 : decode cX8_settle 46 = .ok (.iload_n 1, 1) := by decide +kernel
theorem dX8_settle_47 : decode cX8_settle 47 = .ok (.aload_n 0, 1) := by decide +kernel
theorem dX8_settle_48 : decode cX8_settle 48 = .ok (.getfield 53, 3) := by decide +kernel
theorem dX8_settle_51 : decode cX8_settle 51 = .ok (.invokevirtual 110, 3) := by decide +kernel
theorem dX8_settle_54 : decode cX8_settle 54 = .ok (.iinc 1 1, 3) := by decide +kernel
theorem dX8_settle_57 : decode cX8_settle 57 = .ok (.goto (-26), 3) := by decide +kernel
theorem dX8_settle_60 : decode cX8_settle 60 = .ok (.aload_n 0, 1) := by decide +kernel
theorem dX8_settle_61 : decode cX8_settle 61 = .ok (.getfield 42, 3) := by decide +kernel
theorem dX8_settle_64 : decode cX8_settle 64 = .ok (.aload_n 0, 1) := by decide +kernel
theorem dX8_settle_65 : decode cX8_settle 65 = .ok (.getfield 25, 3) := by decide +kernel
theorem dX8_settle_68 : decode cX8_settle 68 = .ok (.invokevirtual 138, 3) := by decide +kernel
theorem dX8_settle_71 : decode cX8_settle 71 = .ok (.aload_n 0, 1) := by decide +kernel
theorem dX8_settle_72 : decode cX8_settle 72 = .ok (.getfield 21, 3) := by decide +kernel
theorem dX8_settle_75 : decode cX8_settle 75 = .ok (.invokevirtual 138, 3) := by decide +kernel
theorem dX8_settle_78 : decode cX8_settle 78 = .ok (.invokevirtual 181, 3) := by decide +kernel
theorem dX8_settle_81 : decode cX8_settle 81 = .ok (.aload_n 0, 1) := by decide +kernel
theorem dX8_settle_82 : decode cX8_settle 82 = .ok (.iconst 1, 1) := by decide +kernel
theorem dX8_settle_83 : decode cX8_settle 83 = .ok (.putfield 57, 3) := by decide +kernel
theorem dX8_settle_86 : decode cX8_settle 86 = .ok (.iconst 1, 1) := by decide +kernel
theorem dX8_settle_87 : decode cX8_settle 87 = .ok (.ireturn, 1) := by decide +kernel
set_option maxRecDepth 20000 in
theorem ggX8_isReadByBest_X6_styleOf : GoodIn wsX8_isReadByBest wsX6_styleOf := goodIn_r _ [7, 8, 9, 29, 30, 31, 32, 33, 34, 35, 36] rfl (by decide +kernel)
set_option maxRecDepth 20000 in
theorem gX8_isReadByBest_X6_styleOf : GoodIn wsX8_isReadByBest (wsV RX8 126 RX6 yX6_styleOf wsX6_styleOf) := goodIn_app (goodIn_of _ (by decide +kernel)) ggX8_isReadByBest_X6_styleOf
set_option maxRecDepth 20000 in
theorem ggX8_isReadByBest_X3_isRead : GoodIn wsX8_isReadByBest wsX3_isRead := goodIn_r _ [14, 15, 16, 17, 13, 18, 19, 20, 37, 38, 39, 40, 41, 42, 43] rfl (by decide +kernel)
set_option maxRecDepth 20000 in
theorem gX8_isReadByBest_X3_isRead : GoodIn wsX8_isReadByBest (wsV RX8 183 RX3 yX3_isRead wsX3_isRead) := goodIn_app (goodIn_of _ (by decide +kernel)) ggX8_isReadByBest_X3_isRead
theorem dX8_isReadByBest_0 : decode cX8_isReadByBest 0 = .ok (.aload_n 0, 1) := by decide +kernel
theorem dX8_isReadByBest_1 : decode cX8_isReadByBest 1 = .ok (.getfield 33, 3) := by decide +kernel
theorem dX8_isReadByBest_4 : decode cX8_isReadByBest 4 = .ok (.iload_n 1, 1) := by decide +kernel
theorem dX8_isReadByBest_5 : decode cX8_isReadByBest 5 = .ok (.aload_n 0, 1) := by decide +kernel
theorem dX8_isReadByBest_6 : decode cX8_isReadByBest 6 = .ok (.getfield 42, 3) := by decide +kernel
theorem dX8_isReadByBest_9 : decode cX8_isReadByBest 9 = .ok (.iload_n 1, 1) := by decide +kernel
theorem dX8_isReadByBest_10 : decode cX8_isReadByBest 10 = .ok (.invokevirtual 126, 3) := by decide +kernel
theorem dX8_isReadByBest_13 : decode cX8_isReadByBest 13 = .ok (.invokevirtual 183, 3) := by decide +kernel
theorem dX8_isReadByBest_16 : decode cX8_isReadByBest 16 = .ok (.ireturn, 1) := by decide +kernel
set_option maxRecDepth 20000 in
theorem ggX8_kindOf_X8_isReadByBest : GoodIn wsX8_kindOf wsX8_isReadByBest := goodIn_r _ [7, 1, 2, 8, 9, 10, 11, 12, 13, 14, 15, 16, 17, 18, 19, 20, 21, 22, 23, 24, 25, 68, 69, 70, 71, 72, 73, 74, 75, 76, 77, 78, 79, 80, 81, 82, 83, 84, 85, 86, 87, 88, 89, 90] rfl (by decide +kernel)
set_option maxRecDepth 20000 in
theorem gX8_kindOf_X8_isReadByBest : GoodIn wsX8_kindOf (wsV RX8 132 RX8 yX8_isReadByBest wsX8_isReadByBest) := goodIn_app (goodIn_of _ (by decide +kernel)) ggX8_kindOf_X8_isReadByBest
set_option maxRecDepth 20000 in
theorem ggX8_kindOf_X3_unlike : GoodIn wsX8_kindOf wsX3_unlike := goodIn_r _ [29, 30, 31, 32, 33, 34, 35, 36, 37, 16, 17, 18, 19, 20, 21, 22, 23, 24, 25, 38, 39, 40, 41, 42, 43, 44, 45, 84, 85, 86, 87, 88, 89, 90, 91, 92, 93] rfl (by decide +kernel)
set_option maxRecDepth 20000 in
theorem gX8_kindOf_X3_unlike : GoodIn wsX8_kindOf (wsV RX8 117 RX3 yX3_unlike wsX3_unlike) := goodIn_app (goodIn_of _ (by decide +kernel)) ggX8_kindOf_X3_unlike
set_option maxRecDepth 20000 in
theorem ggX8_kindOf_X6_leastOtherwise : GoodIn wsX8_kindOf wsX6_leastOtherwise := goodIn_r _ [49, 50, 51, 52, 53, 54, 55, 56, 9, 10, 11, 12, 13, 14, 57, 43, 44, 18, 45, 20, 21, 22, 23, 24, 25, 58, 59, 60, 61, 62, 63, 76, 77, 78, 79, 80, 81, 82, 83, 84, 85, 86, 87, 88, 89, 90] rfl (by decide +kernel)
set_option maxRecDepth 20000 in
theorem gX8_kindOf_X6_leastOtherwise : GoodIn wsX8_kindOf (wsV RX8 135 RX6 yX6_leastOtherwise wsX6_leastOtherwise) := goodIn_app (goodIn_of _ (by decide +kernel)) ggX8_kindOf_X6_leastOtherwise
set_option maxRecDepth 20000 in
theorem ggX8_kindOf_X6_leastCost : GoodIn wsX8_kindOf wsX6_leastCost := goodIn_r _ [67, 56, 9, 10, 11, 12, 13, 14, 58, 59, 60, 61, 50, 62, 63, 76, 77, 78, 79, 80, 81, 82, 83] rfl (by decide +kernel)
set_option maxRecDepth 20000 in
theorem gX8_kindOf_X6_leastCost : GoodIn wsX8_kindOf (wsV RX8 123 RX6 yX6_leastCost wsX6_leastCost) := goodIn_app (goodIn_of _ (by decide +kernel)) ggX8_kindOf_X6_leastCost
theorem dX8_kindOf_0 : decode cX8_kindOf 0 = .ok (.aload_n 0, 1) := by decide +kernel
theorem dX8_kindOf_1 : decode cX8_kindOf 1 = .ok (.iload_n 1, 1) := by decide +kernel
theorem dX8_kindOf_2 : decode cX8_kindOf 2 = .ok (.invokevirtual 132, 3) := by decide +kernel
theorem dX8_kindOf_5 : decode cX8_kindOf 5 = .ok (.ifCond .ne 5, 3) := by decide +kernel
theorem dX8_kindOf_8 : decode cX8_kindOf 8 = .ok (.iconst 3, 1) := by decide +kernel
theorem dX8_kindOf_9 : decode cX8_kindOf 9 = .ok (.ireturn, 1) := by decide +kernel
theorem dX8_kindOf_10 : decode cX8_kindOf 10 = .ok (.aload_n 0, 1) := by decide +kernel
theorem dX8_kindOf_11 : decode cX8_kindOf 11 = .ok (.getfield 33, 3) := by decide +kernel
theorem dX8_kindOf_14 : decode cX8_kindOf 14 = .ok (.iload_n 1, 1) := by decide +kernel
theorem dX8_kindOf_15 : decode cX8_kindOf 15 = .ok (.invokevirtual 117, 3) := by decide +kernel
theorem dX8_kindOf_18 : decode cX8_kindOf 18 = .ok (.iconst 1, 1) := by decide +kernel
theorem dX8_kindOf_19 : decode cX8_kindOf 19 = .ok (.if_icmp .ne 5, 3) := by decide +kernel
theorem dX8_kindOf_22 : decode cX8_kindOf 22 = .ok (.iconst 0, 1) := by decide +kernel
theorem dX8_kindOf_23 : decode cX8_kindOf 23 = .ok (.ireturn, 1) := by decide +kernel
theorem dX8_kindOf_24 : decode cX8_kindOf 24 = .ok (.aload_n 0, 1) := by decide +kernel
theorem dX8_kindOf_25 : decode cX8_kindOf 25 = .ok (.getfield 42, 3) := by decide +kernel
theorem dX8_kindOf_28 : decode cX8_kindOf 28 = .ok (.iload_n 1, 1) := by decide +kernel
theorem dX8_kindOf_29 : decode cX8_kindOf 29 = .ok (.invokevirtual 135, 3) := by decide +kernel
theorem dX8_kindOf_32 : decode cX8_kindOf 32 = .ok (.aload_n 0, 1) := by decide +kernel
theorem dX8_kindOf_33 : decode cX8_kindOf 33 = .ok (.getfield 42, 3) := by decide +kernel
theorem dX8_kindOf_36 : decode cX8_kindOf 36 = .ok (.invokevirtual 123, 3) := by decide +kernel
theorem dX8_kindOf_39 : decode cX8_kindOf 39 = .ok (.if_icmp .ne 7, 3) := by decide +kernel
theorem dX8_kindOf_42 : decode cX8_kindOf 42 = .ok (.iconst 2, 1) := by decide +kernel
theorem dX8_kindOf_43 : decode cX8_kindOf 43 = .ok (.goto 4, 3) := by decide +kernel
theorem dX8_kindOf_46 : decode cX8_kindOf 46 = .ok (.iconst 1, 1) := by decide +kernel
theorem dX8_kindOf_47 : decode cX8_kindOf 47 = .ok (.ireturn, 1) := by decide +kernel
theorem dX9_init_0 : decode cX9_init 0 = .ok (.aload_n 0, 1) := by decide +kernel
theorem dX9_init_1 : decode cX9_init 1 = .ok (.invokespecial 1, 3) := by decide +kernel
theorem dX9_init_4 : decode cX9_init 4 = .ok (.aload_n 0, 1) := by decide +kernel
theorem dX9_init_5 : decode cX9_init 5 = .ok (.bipush 24, 2) := by decide +kernel
theorem dX9_init_7 : decode cX9_init 7 = .ok (.newarray .byte, 2) := by decide +kernel
theorem dX9_init_9 : decode cX9_init 9 = .ok (.putfield 9, 3) := by decide +kernel
theorem dX9_init_12 : decode cX9_init 12 = .ok (.aload_n 0, 1) := by decide +kernel
theorem dX9_init_13 : decode cX9_init 13 = .ok (.sipush 192, 3) := by decide +kernel
theorem dX9_init_16 : decode cX9_init 16 = .ok (.newarray .byte, 2) := by decide +kernel
theorem dX9_init_18 : decode cX9_init 18 = .ok (.putfield 13, 3) := by decide +kernel
theorem dX9_init_21 : decode cX9_init 21 = .ok (.aload_n 0, 1) := by decide +kernel
theorem dX9_init_22 : decode cX9_init 22 = .ok (.sipush 720, 3) := by decide +kernel
theorem dX9_init_25 : decode cX9_init 25 = .ok (.newarray .byte, 2) := by decide +kernel
theorem dX9_init_27 : decode cX9_init 27 = .ok (.putfield 16, 3) := by decide +kernel
theorem dX9_init_30 : decode cX9_init 30 = .ok (.aload_n 0, 1) := by decide +kernel
theorem dX9_init_31 : decode cX9_init 31 = .ok (.bipush 8, 2) := by decide +kernel
theorem dX9_init_33 : decode cX9_init 33 = .ok (.newarray .int, 2) := by decide +kernel
theorem dX9_init_35 : decode cX9_init 35 = .ok (.putfield 19, 3) := by decide +kernel
theorem dX9_init_38 : decode cX9_init 38 = .ok (.aload_n 0, 1) := by decide +kernel
theorem dX9_init_39 : decode cX9_init 39 = .ok (.bipush 8, 2) := by decide +kernel
theorem dX9_init_41 : decode cX9_init 41 = .ok (.newarray .int, 2) := by decide +kernel
theorem dX9_init_43 : decode cX9_init 43 = .ok (.putfield 23, 3) := by decide +kernel
theorem dX9_init_46 : decode cX9_init 46 = .ok (.aload_n 0, 1) := by decide +kernel
theorem dX9_init_47 : decode cX9_init 47 = .ok (.bipush 30, 2) := by decide +kernel
theorem dX9_init_49 : decode cX9_init 49 = .ok (.newarray .int, 2) := by decide +kernel
theorem dX9_init_51 : decode cX9_init 51 = .ok (.putfield 26, 3) := by decide +kernel
theorem dX9_init_54 : decode cX9_init 54 = .ok (.aload_n 0, 1) := by decide +kernel
theorem dX9_init_55 : decode cX9_init 55 = .ok (.iconst 3, 1) := by decide +kernel
theorem dX9_init_56 : decode cX9_init 56 = .ok (.newarray .int, 2) := by decide +kernel
theorem dX9_init_58 : decode cX9_init 58 = .ok (.dup, 1) := by decide +kernel
theorem dX9_init_59 : decode cX9_init 59 = .ok (.iconst 0, 1) := by decide +kernel
theorem dX9_init_60 : decode cX9_init 60 = .ok (.bipush 20, 2) := by decide +kernel
theorem dX9_init_62 : decode cX9_init 62 = .ok (.iastore, 1) := by decide +kernel
theorem dX9_init_63 : decode cX9_init 63 = .ok (.dup, 1) := by decide +kernel
theorem dX9_init_64 : decode cX9_init 64 = .ok (.iconst 1, 1) := by decide +kernel
theorem dX9_init_65 : decode cX9_init 65 = .ok (.bipush 10, 2) := by decide +kernel
theorem dX9_init_67 : decode cX9_init 67 = .ok (.iastore, 1) := by decide +kernel
theorem dX9_init_68 : decode cX9_init 68 = .ok (.dup, 1) := by decide +kernel
theorem dX9_init_69 : decode cX9_init 69 = .ok (.iconst 2, 1) := by decide +kernel
theorem dX9_init_70 : decode cX9_init 70 = .ok (.iconst 5, 1) := by decide +kernel
theorem dX9_init_71 : decode cX9_init 71 = .ok (.iastore, 1) := by decide +kernel
theorem dX9_init_72 : decode cX9_init 72 = .ok (.putfield 29, 3) := by decide +kernel
theorem dX9_init_75 : decode cX9_init 75 = .ok (.aload_n 0, 1) := by decide +kernel
theorem dX9_init_76 : decode cX9_init 76 = .ok (.sipush 1950, 3) := by decide +kernel
theorem dX9_init_79 : decode cX9_init 79 = .ok (.putfield 32, 3) := by decide +kernel
theorem dX9_init_82 : decode cX9_init 82 = .ok (.aload_n 0, 1) := by decide +kernel
theorem dX9_init_83 : decode cX9_init 83 = .ok (.sipush 240, 3) := by decide +kernel
theorem dX9_init_86 : decode cX9_init 86 = .ok (.newarray .int, 2) := by decide +kernel
theorem dX9_init_88 : decode cX9_init 88 = .ok (.putfield 36, 3) := by decide +kernel
theorem dX9_init_91 : decode cX9_init 91 = .ok (.aload_n 0, 1) := by decide +kernel
theorem dX9_init_92 : decode cX9_init 92 = .ok (.sipush 240, 3) := by decide +kernel
theorem dX9_init_95 : decode cX9_init 95 = .ok (.newarray .int, 2) := by decide +kernel
theorem dX9_init_97 : decode cX9_init 97 = .ok (.putfield 39, 3) := by decide +kernel
theorem dX9_init_100 : decode cX9_init 100 = .ok (.aload_n 0, 1) := by decide +kernel
theorem dX9_init_101 : decode cX9_init 101 = .ok (.sipush 240, 3) := by decide +kernel
theorem dX9_init_104 : decode cX9_init 104 = .ok (.newarray .int, 2) := by decide +kernel
theorem dX9_init_106 : decode cX9_init 106 = .ok (.putfield 42, 3) := by decide +kernel
theorem dX9_init_109 : decode cX9_init 109 = .ok (.aload_n 0, 1) := by decide +kernel
theorem dX9_init_110 : decode cX9_init 110 = .ok (.sipush 240, 3) := by decide +kernel
theorem dX9_init_113 : decode cX9_init 113 = .ok (.newarray .int, 2) := by decide +kernel
theorem dX9_init_115 : decode cX9_init 115 = .ok (.putfield 45, 3) := by decide +kernel
theorem dX9_init_118 : decode cX9_init 118 = .ok (.aload_n 0, 1) := by decide +kernel
theorem dX9_init_119 : decode cX9_init 119 = .ok (.bipush 30, 2) := by decide +kernel
theorem dX9_init_121 : decode cX9_init 121 = .ok (.newarray .int, 2) := by decide +kernel
theorem dX9_init_123 : decode cX9_init 123 = .ok (.putfield 48, 3) := by decide +kernel
theorem dX9_init_126 : decode cX9_init 126 = .ok (.aload_n 0, 1) := by decide +kernel
theorem dX9_init_127 : decode cX9_init 127 = .ok (.sipush 200, 3) := by decide +kernel
theorem dX9_init_130 : decode cX9_init 130 = .ok (.newarray .byte, 2) := by decide +kernel
theorem dX9_init_132 : decode cX9_init 132 = .ok (.putfield 51, 3) := by decide +kernel
theorem dX9_init_135 : decode cX9_init 135 = .ok (.return_, 1) := by decide +kernel
theorem dX9_thrown_0 : decode cX9_thrown 0 = .ok (.aload_n 0, 1) := by decide +kernel
theorem dX9_thrown_1 : decode cX9_thrown 1 = .ok (.getfield 54, 3) := by decide +kernel
theorem dX9_thrown_4 : decode cX9_thrown 4 = .ok (.ireturn, 1) := by decide +kernel
theorem dX9_isIn_0 : decode cX9_isIn 0 = .ok (.iload_n 0, 1) := by decide +kernel
theorem dX9_isIn_1 : decode cX9_isIn 1 = .ok (.iload_n 1, 1) := by decide +kernel
theorem dX9_isIn_2 : decode cX9_isIn 2 = .ok (.if_icmp .lt 12, 3) := by decide +kernel
theorem dX9_isIn_5 : decode cX9_isIn 5 = .ok (.iload_n 0, 1) := by decide +kernel
theorem dX9_isIn_6 : decode cX9_isIn 6 = .ok (.iload_n 2, 1) := by decide +kernel
theorem dX9_isIn_7 : decode cX9_isIn 7 = .ok (.if_icmp .gt 7, 3) := by decide +kernel
theorem dX9_isIn_10 : decode cX9_isIn 10 = .ok (.iconst 1, 1) := by decide +kernel
theorem dX9_isIn_11 : decode cX9_isIn 11 = .ok (.goto 4, 3) := by decide +kernel
theorem dX9_isIn_14 : decode cX9_isIn 14 = .ok (.iconst 0, 1) := by decide +kernel
theorem dX9_isIn_15 : decode cX9_isIn 15 = .ok (.ireturn, 1) := by decide +kernel
theorem dX9_isLeap_0 : decode cX9_isLeap 0 = .ok (.iload_n 0, 1) := by decide +kernel
theorem dX9_isLeap_1 : decode cX9_isLeap 1 = .ok (.iconst 4, 1) := by decide +kernel
theorem dX9_isLeap_2 : decode cX9_isLeap 2 = .ok (.irem, 1) := by decide +kernel
theorem dX9_isLeap_3 : decode cX9_isLeap 3 = .ok (.ifCond .ne 10, 3) := by decide +kernel
theorem dX9_isLeap_6 : decode cX9_isLeap 6 = .ok (.iload_n 0, 1) := by decide +kernel
theorem dX9_isLeap_7 : decode cX9_isLeap 7 = .ok (.bipush 100, 2) := by decide +kernel
theorem dX9_isLeap_9 : decode cX9_isLeap 9 = .ok (.irem, 1) := by decide +kernel
theorem dX9_isLeap_10 : decode cX9_isLeap 10 = .ok (.ifCond .ne 11, 3) := by decide +kernel
theorem dX9_isLeap_13 : decode cX9_isLeap 13 = .ok (.iload_n 0, 1) := by decide +kernel
theorem dX9_isLeap_14 : decode cX9_isLeap 14 = .ok (.sipush 400, 3) := by decide +kernel
theorem dX9_isLeap_17 : decode cX9_isLeap 17 = .ok (.irem, 1) := by decide +kernel
theorem dX9_isLeap_18 : decode cX9_isLeap 18 = .ok (.ifCond .ne 7, 3) := by decide +kernel
theorem dX9_isLeap_21 : decode cX9_isLeap 21 = .ok (.iconst 1, 1) := by decide +kernel
theorem dX9_isLeap_22 : decode cX9_isLeap 22 = .ok (.goto 4, 3) := by decide +kernel
theorem dX9_isLeap_25 : decode cX9_isLeap 25 = .ok (.iconst 0, 1) := by decide +kernel
theorem dX9_isLeap_26 : decode cX9_isLeap 26 = .ok (.ireturn, 1) := by decide +kernel
set_option maxRecDepth 20000 in
theorem ggX9_daysOf_X9_isLeap : GoodIn wsX9_daysOf wsX9_isLeap := goodIn_r _ [4] rfl (by decide +kernel)
set_option maxRecDepth 20000 in
theorem gX9_daysOf_X9_isLeap : GoodIn wsX9_daysOf (va_wsS RX9 57 yX9_isLeap wsX9_isLeap) := goodIn_app (goodIn_of _ (by decide +kernel)) ggX9_daysOf_X9_isLeap
theorem dX9_daysOf_0 : decode cX9_daysOf 0 = .ok (.iload_n 0, 1) := by decide +kernel
theorem dX9_daysOf_1 : decode cX9_daysOf 1 = .ok (.iconst 2, 1) := by decide +kernel
theorem dX9_daysOf_2 : decode cX9_daysOf 2 = .ok (.if_icmp .ne 18, 3) := by decide +kernel
theorem dX9_daysOf_5 : decode cX9_daysOf 5 = .ok (.iload_n 1, 1) := by decide +kernel
theorem dX9_daysOf_6 : decode cX9_daysOf 6 = .ok (.invokestatic 57, 3) := by decide +kernel
theorem dX9_daysOf_9 : decode cX9_daysOf 9 = .ok (.ifCond .eq 8, 3) := by decide +kernel
theorem dX9_daysOf_12 : decode cX9_daysOf 12 = .ok (.bipush 29, 2) := by decide +kernel
theorem dX9_daysOf_14 : decode cX9_daysOf 14 = .ok (.goto 5, 3) := by decide +kernel
theorem dX9_daysOf_17 : decode cX9_daysOf 17 = .ok (.bipush 28, 2) := by decide +kernel
theorem dX9_daysOf_19 : decode cX9_daysOf 19 = .ok (.ireturn, 1) := by decide +kernel
theorem dX9_daysOf_20 : decode cX9_daysOf 20 = .ok (.iload_n 0, 1) := by decide +kernel
theorem dX9_daysOf_21 : decode cX9_daysOf 21 = .ok (.iconst 4, 1) := by decide +kernel
theorem dX9_daysOf_22 : decode cX9_daysOf 22 = .ok (.if_icmp .eq 21, 3) := by decide +kernel
theorem dX9_daysOf_25 : decode cX9_daysOf 25 = .ok (.iload_n 0, 1) := by decide +kernel
theorem dX9_daysOf_26 : decode cX9_daysOf 26 = .ok (.bipush 6, 2) := by decide +kernel
theorem dX9_daysOf_28 : decode cX9_daysOf 28 = .ok (.if_icmp .eq 15, 3) := by decide +kernel
theorem dX9_daysOf_31 : decode cX9_daysOf 31 = .ok (.iload_n 0, 1) := by decide +kernel
theorem dX9_daysOf_32 : decode cX9_daysOf 32 = .ok (.bipush 9, 2) := by decide +kernel
theorem dX9_daysOf_34 : decode cX9_daysOf 34 = .ok (.if_icmp .eq 9, 3) := by decide +kernel
theorem dX9_daysOf_37 : decode cX9_daysOf 37 = .ok (.iload_n 0, 1) := by decide +kernel
theorem dX9_daysOf_38 : decode cX9_daysOf 38 = .ok (.bipush 11, 2) := by decide +kernel
theorem dX9_daysOf_40 : decode cX9_daysOf 40 = .ok (.if_icmp .ne 8, 3) := by decide +kernel
theorem dX9_daysOf_43 : decode cX9_daysOf 43 = .ok (.bipush 30, 2) := by decide +kernel
theorem dX9_daysOf_45 : decode cX9_daysOf 45 = .ok (.goto 5, 3) := by decide +kernel
theorem dX9_daysOf_48 : decode cX9_daysOf 48 = .ok (.bipush 31, 2) := by decide +kernel
theorem dX9_daysOf_50 : decode cX9_daysOf 50 = .ok (.ireturn, 1) := by decide +kernel
set_option maxRecDepth 20000 in
theorem ggX9_isDate_X9_isIn : GoodIn wsX9_isDate wsX9_isIn := goodIn_r _ [4] rfl (by decide +kernel)
set_option maxRecDepth 20000 in
theorem gX9_isDate_X9_isIn : GoodIn wsX9_isDate (va_wsS RX9 61 yX9_isIn wsX9_isIn) := goodIn_app (goodIn_of _ (by decide +kernel)) ggX9_isDate_X9_isIn
set_option maxRecDepth 20000 in
theorem ggX9_isDate_X9_daysOf : GoodIn wsX9_isDate wsX9_daysOf := goodIn_r _ [7, 8, 9, 3, 10] rfl (by decide +kernel)
set_option maxRecDepth 20000 in
theorem gX9_isDate_X9_daysOf : GoodIn wsX9_isDate (va_wsS RX9 65 yX9_daysOf wsX9_daysOf) := goodIn_app (goodIn_of _ (by decide +kernel)) ggX9_isDate_X9_daysOf
theorem dX9_isDate_0 : decode cX9_isDate 0 = .ok (.iload_n 2, 1) := by decide +kernel
theorem dX9_isDate_1 : decode cX9_isDate 1 = .ok (.sipush 1900, 3) := by decide +kernel
theorem dX9_isDate_4 : decode cX9_isDate 4 = .ok (.sipush 2199, 3) := by decide +kernel
theorem dX9_isDate_7 : decode cX9_isDate 7 = .ok (.invokestatic 61, 3) := by decide +kernel
theorem dX9_isDate_10 : decode cX9_isDate 10 = .ok (.ifCond .eq 30, 3) := by decide +kernel
theorem dX9_isDate_13 : decode cX9_isDate 13 = .ok (.iload_n 1, 1) := by decide +kernel
theorem dX9_isDate_14 : decode cX9_isDate 14 = .ok (.iconst 1, 1) := by decide +kernel
theorem dX9_isDate_15 : decode cX9_isDate 15 = .ok (.bipush 12, 2) := by decide +kernel
theorem dX9_isDate_17 : decode cX9_isDate 17 = .ok (.invokestatic 61, 3) := by decide +kernel
theorem dX9_isDate_20 : decode cX9_isDate 20 = .ok (.ifCond .eq 20, 3) := by decide +kernel
theorem dX9_isDate_23 : decode cX9_isDate 23 = .ok (.iload_n 0, 1) := by decide +kernel
theorem dX9_isDate_24 : decode cX9_isDate 24 = .ok (.iconst 1, 1) := by decide +kernel
theorem dX9_isDate_25 : decode cX9_isDate 25 = .ok (.iload_n 1, 1) := by decide +kernel
theorem dX9_isDate_26 : decode cX9_isDate 26 = .ok (.iload_n 2, 1) := by decide +kernel
theorem dX9_isDate_27 : decode cX9_isDate 27 = .ok (.invokestatic 65, 3) := by decide +kernel
theorem dX9_isDate_30 : decode cX9_isDate 30 = .ok (.invokestatic 61, 3) := by decide +kernel
theorem dX9_isDate_33 : decode cX9_isDate 33 = .ok (.ifCond .eq 7, 3) := by decide +kernel
theorem dX9_isDate_36 : decode cX9_isDate 36 = .ok (.iconst 1, 1) := by decide +kernel
theorem dX9_isDate_37 : decode cX9_isDate 37 = .ok (.goto 4, 3) := by decide +kernel
theorem dX9_isDate_40 : decode cX9_isDate 40 = .ok (.iconst 0, 1) := by decide +kernel
theorem dX9_isDate_41 : decode cX9_isDate 41 = .ok (.ireturn, 1) := by decide +kernel
set_option maxRecDepth 20000 in
theorem ggX9_numberOf_X9_isLeap : GoodIn wsX9_numberOf wsX9_isLeap := goodIn_r _ [4] rfl (by decide +kernel)
set_option maxRecDepth 20000 in
theorem gX9_numberOf_X9_isLeap : GoodIn wsX9_numberOf (va_wsS RX9 57 yX9_isLeap wsX9_isLeap) := goodIn_app (goodIn_of _ (by decide +kernel)) ggX9_numberOf_X9_isLeap
set_option maxRecDepth 20000 in
theorem ggX9_numberOf_X9_daysOf : GoodIn wsX9_numberOf wsX9_daysOf := goodIn_r _ [7, 1, 2, 3, 4] rfl (by decide +kernel)
set_option maxRecDepth 20000 in
theorem gX9_numberOf_X9_daysOf : GoodIn wsX9_numberOf (va_wsS RX9 65 yX9_daysOf wsX9_daysOf) := goodIn_app (goodIn_of _ (by decide +kernel)) ggX9_numberOf_X9_daysOf
theorem dX9_numberOf_0 : decode cX9_numberOf 0 = .ok (.iload_n 0, 1) := by decide +kernel
theorem dX9_numberOf_1 : decode cX9_numberOf 1 = .ok (.iconst 1, 1) := by decide +kernel
theorem dX9_numberOf_2 : decode cX9_numberOf 2 = .ok (.isub, 1) := by decide +kernel
theorem dX9_numberOf_3 : decode cX9_numberOf 3 = .ok (.istore_n 3, 1) := by decide +kernel
theorem dX9_numberOf_4 : decode cX9_numberOf 4 = .ok (.sipush 1900, 3) := by decide +kernel
theorem dX9_numberOf_7 : decode cX9_numberOf 7 = .ok (.istore 4, 2) := by decide +kernel
theorem dX9_numberOf_9 : decode cX9_numberOf 9 = .ok (.iload 4, 2) := by decide +kernel
theorem dX9_numberOf_11 : decode cX9_numberOf 11 = .ok (.iload_n 2, 1) := by decide +kernel
theorem dX9_numberOf_12 : decode cX9_numberOf 12 = .ok (.if_icmp .ge 29, 3) := by decide +kernel
theorem dX9_numberOf_15 : decode cX9_numberOf 15 = .ok (.iload_n 3, 1) := by decide +kernel
theorem dX9_numberOf_16 : decode cX9_numberOf 16 = .ok (.iload 4, 2) := by decide +kernel
theorem dX9_numberOf_18 : decode cX9_numberOf 18 = .ok (.invokestatic 57, 3) := by decide +kernel
theorem dX9_numberOf_21 : decode cX9_numberOf 21 = .ok (.ifCond .eq 9, 3) := by decide +kernel
theorem dX9_numberOf_24 : decode cX9_numberOf 24 = .ok (.sipush 366, 3) := by decide +kernel
theorem dX9_numberOf_27 : decode cX9_numberOf 27 = .ok (.goto 6, 3) := by decide +kernel
theorem dX9_numberOf_30 : decode cX9_numberOf 30 = .ok (.sipush 365, 3) := by decide +kernel
theorem dX9_numberOf_33 : decode cX9_numberOf 33 = .ok (.iadd, 1) := by decide +kernel
theorem dX9_numberOf_34 : decode cX9_numberOf 34 = .ok (.istore_n 3, 1) := by decide +kernel
theorem dX9_numberOf_35 : decode cX9_numberOf 35 = .ok (.iinc 4 1, 3) := by decide +kernel
theorem dX9_numberOf_38 : decode cX9_numberOf 38 = .ok (.goto (-29), 3) := by decide +kernel
theorem dX9_numberOf_41 : decode cX9_numberOf 41 = .ok (.iconst 1, 1) := by decide +kernel
theorem dX9_numberOf_42 : decode cX9_numberOf 42 = .ok (.istore 4, 2) := by decide +kernel
theorem dX9_numberOf_44 : decode cX9_numberOf 44 = .ok (.iload 4, 2) := by decide +kernel
theorem dX9_numberOf_46 : decode cX9_numberOf 46 = .ok (.iload_n 1, 1) := by decide +kernel
theorem dX9_numberOf_47 : decode cX9_numberOf 47 = .ok (.if_icmp .ge 18, 3) := by decide +kernel
theorem dX9_numberOf_50 : decode cX9_numberOf 50 = .ok (.iload_n 3, 1) := by decide +kernel
theorem dX9_numberOf_51 : decode cX9_numberOf 51 = .ok (.iload 4, 2) := by decide +kernel
theorem dX9_numberOf_53 : decode cX9_numberOf 53 = .ok (.iload_n 2, 1) := by decide +kernel
theorem dX9_numberOf_54 : decode cX9_numberOf 54 = .ok (.invokestatic 65, 3) := by decide +kernel
theorem dX9_numberOf_57 : decode cX9_numberOf 57 = .ok (.iadd, 1) := by decide +kernel
theorem dX9_numberOf_58 : decode cX9_numberOf 58 = .ok (.istore_n 3, 1) := by decide +kernel
theorem dX9_numberOf_59 : decode cX9_numberOf 59 = .ok (.iinc 4 1, 3) := by decide +kernel
theorem dX9_numberOf_62 : decode cX9_numberOf 62 = .ok (.goto (-18), 3) := by decide +kernel
theorem dX9_numberOf_65 : decode cX9_numberOf 65 = .ok (.iload_n 3, 1) := by decide +kernel
theorem dX9_numberOf_66 : decode cX9_numberOf 66 = .ok (.ireturn, 1) := by decide +kernel
set_option maxRecDepth 20000 in
theorem ggX9_number_X9_isDate : GoodIn wsX9_number wsX9_isDate := goodIn_r _ [5, 6, 7, 4, 8, 9, 10, 11, 12, 13, 14] rfl (by decide +kernel)
set_option maxRecDepth 20000 in
theorem gX9_number_X9_isDate : GoodIn wsX9_number (va_wsS RX9 69 yX9_isDate wsX9_isDate) := goodIn_app (goodIn_of _ (by decide +kernel)) ggX9_number_X9_isDate
set_option maxRecDepth 20000 in
theorem ggX9_number_X9_numberOf : GoodIn wsX9_number wsX9_numberOf := goodIn_r _ [17, 12, 13, 4, 14, 9, 10, 11] rfl (by decide +kernel)
set_option maxRecDepth 20000 in
theorem gX9_number_X9_numberOf : GoodIn wsX9_number (va_wsS RX9 72 yX9_numberOf wsX9_numberOf) := goodIn_app (goodIn_of _ (by decide +kernel)) ggX9_number_X9_numberOf
theorem dX9_number_0 : decode cX9_number 0 = .ok (.aload_n 0, 1) := by decide +kernel
theorem dX9_number_1 : decode cX9_number 1 = .ok (.iconst 0, 1) := by decide +kernel
theorem dX9_number_2 : decode cX9_number 2 = .ok (.putfield 54, 3) := by decide +kernel
theorem dX9_number_5 : decode cX9_number 5 = .ok (.iload_n 1, 1) := by decide +kernel
theorem dX9_number_6 : decode cX9_number 6 = .ok (.iload_n 2, 1) := by decide +kernel
theorem dX9_number_7 : decode cX9_number 7 = .ok (.iload_n 3, 1) := by decide +kernel
theorem dX9_number_8 : decode cX9_number 8 = .ok (.invokestatic 69, 3) := by decide +kernel
theorem dX9_number_11 : decode cX9_number 11 = .ok (.ifCond .eq 12, 3) := by decide +kernel
theorem dX9_number_14 : decode cX9_number 14 = .ok (.iload_n 1, 1) := by decide +kernel
theorem dX9_number_15 : decode cX9_number 15 = .ok (.iload_n 2, 1) := by decide +kernel
theorem dX9_number_16 : decode cX9_number 16 = .ok (.iload_n 3, 1) := by decide +kernel
theorem dX9_number_17 : decode cX9_number 17 = .ok (.invokestatic 72, 3) := by decide +kernel
theorem dX9_number_20 : decode cX9_number 20 = .ok (.goto 4, 3) := by decide +kernel
theorem dX9_number_23 : decode cX9_number 23 = .ok (.iconst (-1), 1) := by decide +kernel
theorem dX9_number_24 : decode cX9_number 24 = .ok (.ireturn, 1) := by decide +kernel
set_option maxRecDepth 20000 in
theorem ggX9_split_X9_isLeap : GoodIn wsX9_split wsX9_isLeap := goodIn_r _ [7] rfl (by decide +kernel)
set_option maxRecDepth 20000 in
theorem gX9_split_X9_isLeap : GoodIn wsX9_split (va_wsS RX9 57 yX9_isLeap wsX9_isLeap) := goodIn_app (goodIn_of _ (by decide +kernel)) ggX9_split_X9_isLeap
set_option maxRecDepth 20000 in
theorem ggX9_split_X9_daysOf : GoodIn wsX9_split wsX9_daysOf := goodIn_r _ [10, 4, 5, 6, 7] rfl (by decide +kernel)
set_option maxRecDepth 20000 in
theorem gX9_split_X9_daysOf : GoodIn wsX9_split (va_wsS RX9 65 yX9_daysOf wsX9_daysOf) := goodIn_app (goodIn_of _ (by decide +kernel)) ggX9_split_X9_daysOf
theorem dX9_split_0 : decode cX9_split 0 = .ok (.aload_n 0, 1) := by decide +kernel
theorem dX9_split_1 : decode cX9_split 1 = .ok (.sipush 1900, 3) := by decide +kernel
theorem dX9_split_4 : decode cX9_split 4 = .ok (.putfield 76, 3) := by decide +kernel
theorem dX9_split_7 : decode cX9_split 7 = .ok (.iload_n 1, 1) := by decide +kernel
theorem dX9_split_8 : decode cX9_split 8 = .ok (.istore_n 2, 1) := by decide +kernel
theorem dX9_split_9 : decode cX9_split 9 = .ok (.iload_n 2, 1) := by decide +kernel
theorem dX9_split_10 : decode cX9_split 10 = .ok (.aload_n 0, 1) := by decide +kernel
theorem dX9_split_11 : decode cX9_split 11 = .ok (.getfield 76, 3) := by decide +kernel
theorem dX9_split_14 : decode cX9_split 14 = .ok (.invokestatic 57, 3) := by decide +kernel
theorem dX9_split_17 : decode cX9_split 17 = .ok (.ifCond .eq 9, 3) := by decide +kernel
theorem dX9_split_20 : decode cX9_split 20 = .ok (.sipush 366, 3) := by decide +kernel
theorem dX9_split_23 : decode cX9_split 23 = .ok (.goto 6, 3) := by decide +kernel
theorem dX9_split_26 : decode cX9_split 26 = .ok (.sipush 365, 3) := by decide +kernel
theorem dX9_split_29 : decode cX9_split 29 = .ok (.if_icmp .lt 38, 3) := by decide +kernel
theorem dX9_split_32 : decode cX9_split 32 = .ok (.iload_n 2, 1) := by decide +kernel
theorem dX9_split_33 : decode cX9_split 33 = .ok (.aload_n 0, 1) := by decide +kernel
theorem dX9_split_34 : decode cX9_split 34 = .ok (.getfield 76, 3) := by decide +kernel
theorem dX9_split_37 : decode cX9_split 37 = .ok (.invokestatic 57, 3) := by decide +kernel
theorem dX9_split_40 : decode cX9_split 40 = .ok (.ifCond .eq 9, 3) := by decide +kernel
theorem dX9_split_43 : decode cX9_split 43 = .ok (.sipush 366, 3) := by decide +kernel
theorem dX9_split_46 : decode cX9_split 46 = .ok (.goto 6, 3) := by decide +kernel
theorem dX9_split_49 : decode cX9_split 49 = .ok (.sipush 365, 3) := by decide +kernel
theorem dX9_split_52 : decode cX9_split 52 = .ok (.isub, 1) := by decide +kernel
theorem dX9_split_53 : decode cX9_split 53 = .ok (.istore_n 2, 1) := by decide +kernel
theorem dX9_split_54 : decode cX9_split 54 = .ok (.aload_n 0, 1) := by decide +kernel
theorem dX9_split_55 : decode cX9_split 55 = .ok (.dup, 1) := by decide +kernel
theorem dX9_split_56 : decode cX9_split 56 = .ok (.getfield 76, 3) := by decide +kernel
theorem dX9_split_59 : decode cX9_split 59 = .ok (.iconst 1, 1) := by decide +kernel
theorem dX9_split_60 : decode cX9_split 60 = .ok (.iadd, 1) := by decide +kernel
theorem dX9_split_61 : decode cX9_split 61 = .ok (.putfield 76, 3) := by decide +kernel
theorem dX9_split_64 : decode cX9_split 64 = .ok (.goto (-55), 3) := by decide +kernel
theorem dX9_split_67 : decode cX9_split 67 = .ok (.aload_n 0, 1) := by decide +kernel
theorem dX9_split_68 : decode cX9_split 68 = .ok (.iconst 1, 1) := by decide +kernel
theorem dX9_split_69 : decode cX9_split 69 = .ok (.putfield 79, 3) := by decide +kernel
theorem dX9_split_72 : decode cX9_split 72 = .ok (.iload_n 2, 1) := by decide +kernel
theorem dX9_split_73 : decode cX9_split 73 = .ok (.aload_n 0, 1) := by decide +kernel
theorem dX9_split_74 : decode cX9_split 74 = .ok (.getfield 79, 3) := by decide +kernel
theorem dX9_split_77 : decode cX9_split 77 = .ok (.aload_n 0, 1) := by decide +kernel
theorem dX9_split_78 : decode cX9_split 78 = .ok (.getfield 76, 3) := by decide +kernel
theorem dX9_split_81 : decode cX9_split 81 = .ok (.invokestatic 65, 3) := by decide +kernel
theorem dX9_split_84 : decode cX9_split 84 = .ok (.if_icmp .lt 30, 3) := by decide +kernel
theorem dX9_split_87 : decode cX9_split 87 = .ok (.iload_n 2, 1) := by decide +kernel
theorem dX9_split_88 : decode cX9_split 88 = .ok (.aload_n 0, 1) := by decide +kernel
theorem dX9_split_89 : decode cX9_split 89 = .ok (.getfield 79, 3) := by decide +kernel
theorem dX9_split_92 : decode cX9_split 92 = .ok (.aload_n 0, 1) := by decide +kernel
theorem dX9_split_93 : decode cX9_split 93 = .ok (.getfield 76, 3) := by decide +kernel
theorem dX9_split_96 : decode cX9_split 96 = .ok (.invokestatic 65, 3) := by decide +kernel
theorem dX9_split_99 : decode cX9_split 99 = .ok (.isub, 1) := by decide +kernel
theorem dX9_split_100 : decode cX9_split 100 = .ok (.istore_n 2, 1) := by decide +kernel
theorem dX9_split_101 : decode cX9_split 101 = .ok (.aload_n 0, 1) := by decide +kernel
theorem dX9_split_102 : decode cX9_split 102 = .ok (.dup, 1) := by decide +kernel
theorem dX9_split_103 : decode cX9_split 103 = .ok (.getfield 79, 3) := by decide +kernel
theorem dX9_split_106 : decode cX9_split 106 = .ok (.iconst 1, 1) := by decide +kernel
theorem dX9_split_107 : decode cX9_split 107 = .ok (.iadd, 1) := by decide +kernel
theorem dX9_split_108 : decode cX9_split 108 = .ok (.putfield 79, 3) := by decide +kernel
theorem dX9_split_111 : decode cX9_split 111 = .ok (.goto (-39), 3) := by decide +kernel
theorem dX9_split_114 : decode cX9_split 114 = .ok (.aload_n 0, 1) := by decide +kernel
theorem dX9_split_115 : decode cX9_split 115 = .ok (.iload_n 2, 1) := by decide +kernel
theorem dX9_split_116 : decode cX9_split 116 = .ok (.iconst 1, 1) := by decide +kernel
theorem dX9_split_117 : decode cX9_split 117 = .ok (.iadd, 1) := by decide +kernel
theorem dX9_split_118 : decode cX9_split 118 = .ok (.putfield 82, 3) := by decide +kernel
theorem dX9_split_121 : decode cX9_split 121 = .ok (.return_, 1) := by decide +kernel
set_option maxRecDepth 20000 in
theorem ggX9_isDay_X9_isIn : GoodIn wsX9_isDay wsX9_isIn := goodIn_r _ [5] rfl (by decide +kernel)
set_option maxRecDepth 20000 in
theorem gX9_isDay_X9_isIn : GoodIn wsX9_isDay (va_wsS RX9 61 yX9_isIn wsX9_isIn) := goodIn_app (goodIn_of _ (by decide +kernel)) ggX9_isDay_X9_isIn
theorem dX9_isDay_0 : decode cX9_isDay 0 = .ok (.iload_n 0, 1) := by decide +kernel
theorem dX9_isDay_1 : decode cX9_isDay 1 = .ok (.iconst 0, 1) := by decide +kernel
theorem dX9_isDay_2 : decode cX9_isDay 2 = .ok (.ldc 85, 2) := by decide +kernel
theorem dX9_isDay_4 : decode cX9_isDay 4 = .ok (.invokestatic 61, 3) := by decide +kernel
theorem dX9_isDay_7 : decode cX9_isDay 7 = .ok (.ireturn, 1) := by decide +kernel
set_option maxRecDepth 20000 in
theorem ggX9_part_X9_isDay : GoodIn wsX9_part wsX9_isDay := goodIn_r _ [8, 9, 10, 11, 7, 12] rfl (by decide +kernel)
set_option maxRecDepth 20000 in
theorem gX9_part_X9_isDay : GoodIn wsX9_part (va_wsS RX9 86 yX9_isDay wsX9_isDay) := goodIn_app (goodIn_of _ (by decide +kernel)) ggX9_part_X9_isDay
set_option maxRecDepth 20000 in
theorem ggX9_part_X9_isIn : GoodIn wsX9_part wsX9_isIn := goodIn_r _ [12] rfl (by decide +kernel)
set_option maxRecDepth 20000 in
theorem gX9_part_X9_isIn : GoodIn wsX9_part (va_wsS RX9 61 yX9_isIn wsX9_isIn) := goodIn_app (goodIn_of _ (by decide +kernel)) ggX9_part_X9_isIn
set_option maxRecDepth 20000 in
theorem ggX9_part_X9_split : GoodIn wsX9_part wsX9_split := goodIn_r _ [16, 4, 3, 2, 17, 18, 7, 19, 20, 21, 22, 23, 24, 25, 26, 27, 28, 29, 30, 31, 32, 33, 34, 35, 36, 37, 38, 39, 40, 41, 42, 43, 44, 45, 46, 47, 48, 49] rfl (by decide +kernel)
set_option maxRecDepth 20000 in
theorem gX9_part_X9_split : GoodIn wsX9_part (wsV RX9 89 RX9 yX9_split wsX9_split) := goodIn_app (goodIn_of _ (by decide +kernel)) ggX9_part_X9_split
theorem dX9_part_0 : decode cX9_part 0 = .ok (.aload_n 0, 1) := by decide +kernel
theorem dX9_part_1 : decode cX9_part 1 = .ok (.iload_n 1, 1) := by decide +kernel
theorem dX9_part_2 : decode cX9_part 2 = .ok (.invokestatic 86, 3) := by decide +kernel
theorem dX9_part_5 : decode cX9_part 5 = .ok (.ifCond .eq 16, 3) := by decide +kernel
theorem dX9_part_8 : decode cX9_part 8 = .ok (.iload_n 2, 1) := by decide +kernel
theorem dX9_part_9 : decode cX9_part 9 = .ok (.iconst 0, 1) := by decide +kernel
theorem dX9_part_10 : decode cX9_part 10 = .ok (.iconst 3, 1) := by decide +kernel
theorem dX9_part_11 : decode cX9_part 11 = .ok (.invokestatic 61, 3) := by decide +kernel
theorem dX9_part_14 : decode cX9_part 14 = .ok (.ifCond .eq 7, 3) := by decide +kernel
theorem dX9_part_17 : decode cX9_part 17 = .ok (.iconst 0, 1) := by decide +kernel
theorem dX9_part_18 : decode cX9_part 18 = .ok (.goto 4, 3) := by decide +kernel
theorem dX9_part_21 : decode cX9_part 21 = .ok (.iconst 1, 1) := by decide +kernel
theorem dX9_part_22 : decode cX9_part 22 = .ok (.putfield 54, 3) := by decide +kernel
theorem dX9_part_25 : decode cX9_part 25 = .ok (.aload_n 0, 1) := by decide +kernel
theorem dX9_part_26 : decode cX9_part 26 = .ok (.getfield 54, 3) := by decide +kernel
theorem dX9_part_29 : decode cX9_part 29 = .ok (.ifCond .le 5, 3) := by decide +kernel
theorem dX9_part_32 : decode cX9_part 32 = .ok (.iconst 0, 1) := by decide +kernel
theorem dX9_part_33 : decode cX9_part 33 = .ok (.ireturn, 1) := by decide +kernel
theorem dX9_part_34 : decode cX9_part 34 = .ok (.aload_n 0, 1) := by decide +kernel
theorem dX9_part_35 : decode cX9_part 35 = .ok (.iload_n 1, 1) := by decide +kernel
theorem dX9_part_36 : decode cX9_part 36 = .ok (.invokevirtual 89, 3) := by decide +kernel
theorem dX9_part_39 : decode cX9_part 39 = .ok (.iload_n 2, 1) := by decide +kernel
theorem dX9_part_40 : decode cX9_part 40 = .ok (.ifCond .ne 10, 3) := by decide +kernel
theorem dX9_part_43 : decode cX9_part 43 = .ok (.aload_n 0, 1) := by decide +kernel
theorem dX9_part_44 : decode cX9_part 44 = .ok (.getfield 82, 3) := by decide +kernel
theorem dX9_part_47 : decode cX9_part 47 = .ok (.goto 31, 3) := by decide +kernel
theorem dX9_part_50 : decode cX9_part 50 = .ok (.iload_n 2, 1) := by decide +kernel
theorem dX9_part_51 : decode cX9_part 51 = .ok (.iconst 1, 1) := by decide +kernel
theorem dX9_part_52 : decode cX9_part 52 = .ok (.if_icmp .ne 10, 3) := by decide +kernel
theorem dX9_part_55 : decode cX9_part 55 = .ok (.aload_n 0, 1) := by decide +kernel
theorem dX9_part_56 : decode cX9_part 56 = .ok (.getfield 79, 3) := by decide +kernel
theorem dX9_part_59 : decode cX9_part 59 = .ok (.goto 19, 3) := by decide +kernel
theorem dX9_part_62 : decode cX9_part 62 = .ok (.iload_n 2, 1) := by decide +kernel
theorem dX9_part_63 : decode cX9_part 63 = .ok (.iconst 2, 1) := by decide +kernel
theorem dX9_part_64 : decode cX9_part 64 = .ok (.if_icmp .ne 10, 3) := by decide +kernel
theorem dX9_part_67 : decode cX9_part 67 = .ok (.aload_n 0, 1) := by decide +kernel
theorem dX9_part_68 : decode cX9_part 68 = .ok (.getfield 76, 3) := by decide +kernel
theorem dX9_part_71 : decode cX9_part 71 = .ok (.goto 7, 3) := by decide +kernel
theorem dX9_part_74 : decode cX9_part 74 = .ok (.iload_n 1, 1) := by decide +kernel
theorem dX9_part_75 : decode cX9_part 75 = .ok (.bipush 7, 2) := by decide +kernel
theorem dX9_part_77 : decode cX9_part 77 = .ok (.irem, 1) := by decide +kernel
theorem dX9_part_78 : decode cX9_part 78 = .ok (.ireturn, 1) := by decide +kernel
theorem dX9_bytesIn_0 : decode cX9_bytesIn 0 = .ok (.iconst 0, 1) := by decide +kernel
theorem dX9_bytesIn_1 : decode cX9_bytesIn 1 = .ok (.istore_n 1, 1) := by decide +kernel
theorem dX9_bytesIn_2 : decode cX9_bytesIn 2 = .ok (.bipush 24, 2) := by decide +kernel
theorem dX9_bytesIn_4 : decode cX9_bytesIn 4 = .ok (.istore_n 2, 1) := by decide +kernel
theorem dX9_bytesIn_5 : decode cX9_bytesIn 5 = .ok (.iload_n 2, 1) := by decide +kernel
theorem dX9_bytesIn_6 : decode cX9_bytesIn 6 = .ok (.ifCond .lt 27, 3) := by decide +kernel
theorem dX9_bytesIn_9 : decode cX9_bytesIn 9 = .ok (.iload_n 1, 1) := by decide +kernel
theorem dX9_bytesIn_10 : decode cX9_bytesIn 10 = .ok (.iload_n 0, 1) := by decide +kernel
theorem dX9_bytesIn_11 : decode cX9_bytesIn 11 = .ok (.iload_n 2, 1) := by decide +kernel
theorem dX9_bytesIn_12 : decode cX9_bytesIn 12 = .ok (.ishr, 1) := by decide +kernel
theorem dX9_bytesIn_13 : decode cX9_bytesIn 13 = .ok (.sipush 255, 3) := by decide +kernel
theorem dX9_bytesIn_16 : decode cX9_bytesIn 16 = .ok (.iand, 1) := by decide +kernel
theorem dX9_bytesIn_17 : decode cX9_bytesIn 17 = .ok (.ifCond .eq 7, 3) := by decide +kernel
theorem dX9_bytesIn_20 : decode cX9_bytesIn 20 = .ok (.iconst 1, 1) := by decide +kernel
theorem dX9_bytesIn_21 : decode cX9_bytesIn 21 = .ok (.goto 4, 3) := by decide +kernel
theorem dX9_bytesIn_24 : decode cX9_bytesIn 24 = .ok (.iconst 0, 1) := by decide +kernel
theorem dX9_bytesIn_25 : decode cX9_bytesIn 25 = .ok (.iadd, 1) := by decide +kernel
theorem dX9_bytesIn_26 : decode cX9_bytesIn 26 = .ok (.istore_n 1, 1) := by decide +kernel
theorem dX9_bytesIn_27 : decode cX9_bytesIn 27 = .ok (.iinc 2 (-8), 3) := by decide +kernel
theorem dX9_bytesIn_30 : decode cX9_bytesIn 30 = .ok (.goto (-25), 3) := by decide +kernel
theorem dX9_bytesIn_33 : decode cX9_bytesIn 33 = .ok (.iload_n 1, 1) := by decide +kernel
theorem dX9_bytesIn_34 : decode cX9_bytesIn 34 = .ok (.ireturn, 1) := by decide +kernel
theorem dX9_put_0 : decode cX9_put 0 = .ok (.bipush 24, 2) := by decide +kernel
theorem dX9_put_2 : decode cX9_put 2 = .ok (.istore_n 2, 1) := by decide +kernel
theorem dX9_put_3 : decode cX9_put 3 = .ok (.iload_n 2, 1) := by decide +kernel
theorem dX9_put_4 : decode cX9_put 4 = .ok (.ifCond .lt 45, 3) := by decide +kernel
theorem dX9_put_7 : decode cX9_put 7 = .ok (.iload_n 1, 1) := by decide +kernel
theorem dX9_put_8 : decode cX9_put 8 = .ok (.iload_n 2, 1) := by decide +kernel
theorem dX9_put_9 : decode cX9_put 9 = .ok (.ishr, 1) := by decide +kernel
theorem dX9_put_10 : decode cX9_put 10 = .ok (.sipush 255, 3) := by decide +kernel
theorem dX9_put_13 : decode cX9_put 13 = .ok (.iand, 1) := by decide +kernel
theorem dX9_put_14 : decode cX9_put 14 = .ok (.ifCond .ne 6, 3) := by decide +kernel
theorem dX9_put_17 : decode cX9_put 17 = .ok (.goto 26, 3) := by decide +kernel
theorem dX9_put_20 : decode cX9_put 20 = .ok (.aload_n 0, 1) := by decide +kernel
theorem dX9_put_21 : decode cX9_put 21 = .ok (.getfield 9, 3) := by decide +kernel
theorem dX9_put_24 : decode cX9_put 24 = .ok (.aload_n 0, 1) := by decide +kernel
theorem dX9_put_25 : decode cX9_put 25 = .ok (.getfield 93, 3) := by decide +kernel
theorem dX9_put_28 : decode cX9_put 28 = .ok (.iload_n 1, 1) := by decide +kernel
theorem dX9_put_29 : decode cX9_put 29 = .ok (.iload_n 2, 1) := by decide +kernel
theorem dX9_put_30 : decode cX9_put 30 = .ok (.ishr, 1) := by decide +kernel
theorem dX9_put_31 : decode cX9_put 31 = .ok (.i2b, 1) := by decide +kernel
theorem dX9_put_32 : decode cX9_put 32 = .ok (.bastore, 1) := by decide +kernel
theorem dX9_put_33 : decode cX9_put 33 = .ok (.aload_n 0, 1) := by decide +kernel
theorem dX9_put_34 : decode cX9_put 34 = .ok (.dup, 1) := by decide +kernel
theorem dX9_put_35 : decode cX9_put 35 = .ok (.getfield 93, 3) := by decide +kernel
theorem dX9_put_38 : decode cX9_put 38 = .ok (.iconst 1, 1) := by decide +kernel
theorem dX9_put_39 : decode cX9_put 39 = .ok (.iadd, 1) := by decide +kernel
theorem dX9_put_40 : decode cX9_put 40 = .ok (.putfield 93, 3) := by decide +kernel
theorem dX9_put_43 : decode cX9_put 43 = .ok (.iinc 2 (-8), 3) := by decide +kernel
theorem dX9_put_46 : decode cX9_put 46 = .ok (.goto (-43), 3) := by decide +kernel
theorem dX9_put_49 : decode cX9_put 49 = .ok (.return_, 1) := by decide +kernel
set_option maxRecDepth 20000 in
theorem ggX9_feed_X9_bytesIn : GoodIn wsX9_feed wsX9_bytesIn := goodIn_r _ [6] rfl (by decide +kernel)
set_option maxRecDepth 20000 in
theorem gX9_feed_X9_bytesIn : GoodIn wsX9_feed (va_wsS RX9 96 yX9_bytesIn wsX9_bytesIn) := goodIn_app (goodIn_of _ (by decide +kernel)) ggX9_feed_X9_bytesIn
set_option maxRecDepth 20000 in
theorem ggX9_feed_X9_put : GoodIn wsX9_feed wsX9_put := goodIn_r _ [10, 11, 2, 12, 13, 14, 15, 16, 17, 18, 19, 20, 21, 22, 23, 24, 25, 26, 27, 28, 29, 30, 31, 32, 33, 34, 35, 36, 37, 38] rfl (by decide +kernel)
set_option maxRecDepth 20000 in
theorem gX9_feed_X9_put : GoodIn wsX9_feed (wsV RX9 100 RX9 yX9_put wsX9_put) := goodIn_app (goodIn_of _ (by decide +kernel)) ggX9_feed_X9_put
theorem dX9_feed_0 : decode cX9_feed 0 = .ok (.aload_n 0, 1) := by decide +kernel
theorem dX9_feed_1 : decode cX9_feed 1 = .ok (.iconst 0, 1) := by decide +kernel
theorem dX9_feed_2 : decode cX9_feed 2 = .ok (.putfield 54, 3) := by decide +kernel
theorem dX9_feed_5 : decode cX9_feed 5 = .ok (.aload_n 0, 1) := by decide +kernel
theorem dX9_feed_6 : decode cX9_feed 6 = .ok (.getfield 93, 3) := by decide +kernel
theorem dX9_feed_9 : decode cX9_feed 9 = .ok (.iload_n 1, 1) := by decide +kernel
theorem dX9_feed_10 : decode cX9_feed 10 = .ok (.invokestatic 96, 3) := by decide +kernel
theorem dX9_feed_13 : decode cX9_feed 13 = .ok (.iadd, 1) := by decide +kernel
theorem dX9_feed_14 : decode cX9_feed 14 = .ok (.iload_n 2, 1) := by decide +kernel
theorem dX9_feed_15 : decode cX9_feed 15 = .ok (.invokestatic 96, 3) := by decide +kernel
theorem dX9_feed_18 : decode cX9_feed 18 = .ok (.iadd, 1) := by decide +kernel
theorem dX9_feed_19 : decode cX9_feed 19 = .ok (.bipush 24, 2) := by decide +kernel
theorem dX9_feed_21 : decode cX9_feed 21 = .ok (.if_icmp .le 5, 3) := by decide +kernel
theorem dX9_feed_24 : decode cX9_feed 24 = .ok (.iconst (-1), 1) := by decide +kernel
theorem dX9_feed_25 : decode cX9_feed 25 = .ok (.ireturn, 1) := by decide +kernel
theorem dX9_feed_26 : decode cX9_feed 26 = .ok (.aload_n 0, 1) := by decide +kernel
theorem dX9_feed_27 : decode cX9_feed 27 = .ok (.iload_n 1, 1) := by decide +kernel
theorem dX9_feed_28 : decode cX9_feed 28 = .ok (.invokevirtual 100, 3) := by decide +kernel
theorem dX9_feed_31 : decode cX9_feed 31 = .ok (.aload_n 0, 1) := by decide +kernel
theorem dX9_feed_32 : decode cX9_feed 32 = .ok (.iload_n 2, 1) := by decide +kernel
theorem dX9_feed_33 : decode cX9_feed 33 = .ok (.invokevirtual 100, 3) := by decide +kernel
theorem dX9_feed_36 : decode cX9_feed 36 = .ok (.aload_n 0, 1) := by decide +kernel
theorem dX9_feed_37 : decode cX9_feed 37 = .ok (.getfield 93, 3) := by decide +kernel
theorem dX9_feed_40 : decode cX9_feed 40 = .ok (.ireturn, 1) := by decide +kernel
theorem dX9_end_0 : decode cX9_end 0 = .ok (.aload_n 0, 1) := by decide +kernel
theorem dX9_end_1 : decode cX9_end 1 = .ok (.iconst 0, 1) := by decide +kernel
theorem dX9_end_2 : decode cX9_end 2 = .ok (.putfield 54, 3) := by decide +kernel
theorem dX9_end_5 : decode cX9_end 5 = .ok (.iload_n 1, 1) := by decide +kernel
theorem dX9_end_6 : decode cX9_end 6 = .ok (.ifCond .lt 11, 3) := by decide +kernel
theorem dX9_end_9 : decode cX9_end 9 = .ok (.iload_n 1, 1) := by decide +kernel
theorem dX9_end_10 : decode cX9_end 10 = .ok (.aload_n 0, 1) := by decide +kernel
theorem dX9_end_11 : decode cX9_end 11 = .ok (.getfield 93, 3) := by decide +kernel
theorem dX9_end_14 : decode cX9_end 14 = .ok (.if_icmp .le 5, 3) := by decide +kernel
theorem dX9_end_17 : decode cX9_end 17 = .ok (.iconst 0, 1) := by decide +kernel
theorem dX9_end_18 : decode cX9_end 18 = .ok (.ireturn, 1) := by decide +kernel
theorem dX9_end_19 : decode cX9_end 19 = .ok (.aload_n 0, 1) := by decide +kernel
theorem dX9_end_20 : decode cX9_end 20 = .ok (.iload_n 1, 1) := by decide +kernel
theorem dX9_end_21 : decode cX9_end 21 = .ok (.putfield 93, 3) := by decide +kernel
theorem dX9_end_24 : decode cX9_end 24 = .ok (.iconst 1, 1) := by decide +kernel
theorem dX9_end_25 : decode cX9_end 25 = .ok (.ireturn, 1) := by decide +kernel
set_option maxRecDepth 20000 in
theorem ggX9_isPlain_X9_isIn : GoodIn wsX9_isPlain wsX9_isIn := goodIn_r _ [6] rfl (by decide +kernel)
set_option maxRecDepth 20000 in
theorem gX9_isPlain_X9_isIn : GoodIn wsX9_isPlain (va_wsS RX9 61 yX9_isIn wsX9_isIn) := goodIn_app (goodIn_of _ (by decide +kernel)) ggX9_isPlain_X9_isIn
theorem dX9_isPlain_0 : decode cX9_isPlain 0 = .ok (.iconst 1, 1) := by decide +kernel
theorem dX9_isPlain_1 : decode cX9_isPlain 1 = .ok (.istore_n 1, 1) := by decide +kernel
theorem dX9_isPlain_2 : decode cX9_isPlain 2 = .ok (.iconst 0, 1) := by decide +kernel
theorem dX9_isPlain_3 : decode cX9_isPlain 3 = .ok (.istore_n 2, 1) := by decide +kernel
theorem dX9_isPlain_4 : decode cX9_isPlain 4 = .ok (.iload_n 2, 1) := by decide +kernel
theorem dX9_isPlain_5 : decode cX9_isPlain 5 = .ok (.aload_n 0, 1) := by decide +kernel
theorem dX9_isPlain_6 : decode cX9_isPlain 6 = .ok (.getfield 93, 3) := by decide +kernel
theorem dX9_isPlain_9 : decode cX9_isPlain 9 = .ok (.if_icmp .ge 35, 3) := by decide +kernel
theorem dX9_isPlain_12 : decode cX9_isPlain 12 = .ok (.iload_n 1, 1) := by decide +kernel
theorem dX9_isPlain_13 : decode cX9_isPlain 13 = .ok (.ifCond .eq 23, 3) := by decide +kernel
theorem dX9_isPlain_16 : decode cX9_isPlain 16 = .ok (.aload_n 0, 1) := by decide +kernel
theorem dX9_isPlain_17 : decode cX9_isPlain 17 = .ok (.getfield 9, 3) := by decide +kernel
theorem dX9_isPlain_20 : decode cX9_isPlain 20 = .ok (.iload_n 2, 1) := by decide +kernel
theorem dX9_isPlain_21 : decode cX9_isPlain 21 = .ok (.baload, 1) := by decide +kernel
theorem dX9_isPlain_22 : decode cX9_isPlain 22 = .ok (.bipush 32, 2) := by decide +kernel
theorem dX9_isPlain_24 : decode cX9_isPlain 24 = .ok (.bipush 126, 2) := by decide +kernel
theorem dX9_isPlain_26 : decode cX9_isPlain 26 = .ok (.invokestatic 61, 3) := by decide +kernel
theorem dX9_isPlain_29 : decode cX9_isPlain 29 = .ok (.ifCond .eq 7, 3) := by decide +kernel
theorem dX9_isPlain_32 : decode cX9_isPlain 32 = .ok (.iconst 1, 1) := by decide +kernel
theorem dX9_isPlain_33 : decode cX9_isPlain 33 = .ok (.goto 4, 3) := by decide +kernel
theorem dX9_isPlain_36 : decode cX9_isPlain 36 = .ok (.iconst 0, 1) := by decide +kernel
theorem dX9_isPlain_37 : decode cX9_isPlain 37 = .ok (.istore_n 1, 1) := by decide +kernel
theorem dX9_isPlain_38 : decode cX9_isPlain 38 = .ok (.iinc 2 1, 3) := by decide +kernel
theorem dX9_isPlain_41 : decode cX9_isPlain 41 = .ok (.goto (-37), 3) := by decide +kernel
theorem dX9_isPlain_44 : decode cX9_isPlain 44 = .ok (.iload_n 1, 1) := by decide +kernel
theorem dX9_isPlain_45 : decode cX9_isPlain 45 = .ok (.ireturn, 1) := by decide +kernel
theorem dX9_manyOf_0 : decode cX9_manyOf 0 = .ok (.iconst 0, 1) := by decide +kernel
theorem dX9_manyOf_1 : decode cX9_manyOf 1 = .ok (.istore_n 2, 1) := by decide +kernel
theorem dX9_manyOf_2 : decode cX9_manyOf 2 = .ok (.iconst 0, 1) := by decide +kernel
theorem dX9_manyOf_3 : decode cX9_manyOf 3 = .ok (.istore_n 3, 1) := by decide +kernel
theorem dX9_manyOf_4 : decode cX9_manyOf 4 = .ok (.iload_n 3, 1) := by decide +kernel
theorem dX9_manyOf_5 : decode cX9_manyOf 5 = .ok (.aload_n 0, 1) := by decide +kernel
theorem dX9_manyOf_6 : decode cX9_manyOf 6 = .ok (.getfield 93, 3) := by decide +kernel
theorem dX9_manyOf_9 : decode cX9_manyOf 9 = .ok (.if_icmp .ge 27, 3) := by decide +kernel
theorem dX9_manyOf_12 : decode cX9_manyOf 12 = .ok (.iload_n 2, 1) := by decide +kernel
theorem dX9_manyOf_13 : decode cX9_manyOf 13 = .ok (.aload_n 0, 1) := by decide +kernel
theorem dX9_manyOf_14 : decode cX9_manyOf 14 = .ok (.getfield 9, 3) := by decide +kernel
theorem dX9_manyOf_17 : decode cX9_manyOf 17 = .ok (.iload_n 3, 1) := by decide +kernel
theorem dX9_manyOf_18 : decode cX9_manyOf 18 = .ok (.baload, 1) := by decide +kernel
theorem dX9_manyOf_19 : decode cX9_manyOf 19 = .ok (.iload_n 1, 1) := by decide +kernel
theorem dX9_manyOf_20 : decode cX9_manyOf 20 = .ok (.if_icmp .ne 7, 3) := by decide +kernel
theorem dX9_manyOf_23 : decode cX9_manyOf 23 = .ok (.iconst 1, 1) := by decide +kernel
theorem dX9_manyOf_24 : decode cX9_manyOf 24 = .ok (.goto 4, 3) := by decide +kernel
theorem dX9_manyOf_27 : decode cX9_manyOf 27 = .ok (.iconst 0, 1) := by decide +kernel
theorem dX9_manyOf_28 : decode cX9_manyOf 28 = .ok (.iadd, 1) := by decide +kernel
theorem dX9_manyOf_29 : decode cX9_manyOf 29 = .ok (.istore_n 2, 1) := by decide +kernel
theorem dX9_manyOf_30 : decode cX9_manyOf 30 = .ok (.iinc 3 1, 3) := by decide +kernel
theorem dX9_manyOf_33 : decode cX9_manyOf 33 = .ok (.goto (-29), 3) := by decide +kernel
theorem dX9_manyOf_36 : decode cX9_manyOf 36 = .ok (.iload_n 2, 1) := by decide +kernel
theorem dX9_manyOf_37 : decode cX9_manyOf 37 = .ok (.ireturn, 1) := by decide +kernel
set_option maxRecDepth 20000 in
theorem ggX9_style_X9_isIn : GoodIn wsX9_style wsX9_isIn := goodIn_r _ [11] rfl (by decide +kernel)
set_option maxRecDepth 20000 in
theorem gX9_style_X9_isIn : GoodIn wsX9_style (va_wsS RX9 61 yX9_isIn wsX9_isIn) := goodIn_app (goodIn_of _ (by decide +kernel)) ggX9_style_X9_isIn
set_option maxRecDepth 20000 in
theorem ggX9_style_X9_isPlain : GoodIn wsX9_style wsX9_isPlain := goodIn_r _ [15, 3, 5, 8, 9, 10, 11, 20, 21, 22, 23, 24, 25, 26, 27, 28, 29, 30, 31, 32, 33, 34, 35, 36, 37, 38, 39, 40, 41, 42, 43, 44, 45, 46] rfl (by decide +kernel)
set_option maxRecDepth 20000 in
theorem gX9_style_X9_isPlain : GoodIn wsX9_style (wsV RX9 106 RX9 yX9_isPlain wsX9_isPlain) := goodIn_app (goodIn_of _ (by decide +kernel)) ggX9_style_X9_isPlain
set_option maxRecDepth 20000 in
theorem ggX9_style_X9_manyOf : GoodIn wsX9_style wsX9_manyOf := goodIn_r _ [19, 3, 5, 20, 21, 22, 23, 24, 25, 26, 27, 28, 29, 30, 31, 32, 33, 34, 35, 36, 37, 38, 39, 40, 41, 42, 43, 44, 45, 46] rfl (by decide +kernel)
set_option maxRecDepth 20000 in
theorem gX9_style_X9_manyOf : GoodIn wsX9_style (wsV RX9 110 RX9 yX9_manyOf wsX9_manyOf) := goodIn_app (goodIn_of _ (by decide +kernel)) ggX9_style_X9_manyOf
theorem dX9_style_0 : decode cX9_style 0 = .ok (.aload_n 0, 1) := by decide +kernel
theorem dX9_style_1 : decode cX9_style 1 = .ok (.iconst 0, 1) := by decide +kernel
theorem dX9_style_2 : decode cX9_style 2 = .ok (.putfield 54, 3) := by decide +kernel
theorem dX9_style_5 : decode cX9_style 5 = .ok (.aload_n 0, 1) := by decide +kernel
theorem dX9_style_6 : decode cX9_style 6 = .ok (.getfield 103, 3) := by decide +kernel
theorem dX9_style_9 : decode cX9_style 9 = .ok (.bipush 8, 2) := by decide +kernel
theorem dX9_style_11 : decode cX9_style 11 = .ok (.if_icmp .eq 28, 3) := by decide +kernel
theorem dX9_style_14 : decode cX9_style 14 = .ok (.iload_n 1, 1) := by decide +kernel
theorem dX9_style_15 : decode cX9_style 15 = .ok (.iconst 0, 1) := by decide +kernel
theorem dX9_style_16 : decode cX9_style 16 = .ok (.sipush 1000, 3) := by decide +kernel
theorem dX9_style_19 : decode cX9_style 19 = .ok (.invokestatic 61, 3) := by decide +kernel
theorem dX9_style_22 : decode cX9_style 22 = .ok (.ifCond .eq 17, 3) := by decide +kernel
theorem dX9_style_25 : decode cX9_style 25 = .ok (.aload_n 0, 1) := by decide +kernel
theorem dX9_style_26 : decode cX9_style 26 = .ok (.getfield 93, 3) := by decide +kernel
theorem dX9_style_29 : decode cX9_style 29 = .ok (.ifCond .eq 10, 3) := by decide +kernel
theorem dX9_style_32 : decode cX9_style 32 = .ok (.aload_n 0, 1) := by decide +kernel
theorem dX9_style_33 : decode cX9_style 33 = .ok (.invokevirtual 106, 3) := by decide +kernel
theorem dX9_style_36 : decode cX9_style 36 = .ok (.ifCond .ne 5, 3) := by decide +kernel
theorem dX9_style_39 : decode cX9_style 39 = .ok (.iconst (-1), 1) := by decide +kernel
theorem dX9_style_40 : decode cX9_style 40 = .ok (.ireturn, 1) := by decide +kernel
theorem dX9_style_41 : decode cX9_style 41 = .ok (.aload_n 0, 1) := by decide +kernel
theorem dX9_style_42 : decode cX9_style 42 = .ok (.bipush 68, 2) := by decide +kernel
theorem dX9_style_44 : decode cX9_style 44 = .ok (.invokevirtual 110, 3) := by decide +kernel
theorem dX9_style_47 : decode cX9_style 47 = .ok (.iconst 1, 1) := by decide +kernel
theorem dX9_style_48 : decode cX9_style 48 = .ok (.if_icmp .gt 47, 3) := by decide +kernel
theorem dX9_style_51 : decode cX9_style 51 = .ok (.aload_n 0, 1) := by decide +kernel
theorem dX9_style_52 : decode cX9_style 52 = .ok (.bipush 87, 2) := by decide +kernel
theorem dX9_style_54 : decode cX9_style 54 = .ok (.invokevirtual 110, 3) := by decide +kernel
theorem dX9_style_57 : decode cX9_style 57 = .ok (.iconst 1, 1) := by decide +kernel
theorem dX9_style_58 : decode cX9_style 58 = .ok (.if_icmp .gt 37, 3) := by decide +kernel
theorem dX9_style_61 : decode cX9_style 61 = .ok (.aload_n 0, 1) := by decide +kernel
theorem dX9_style_62 : decode cX9_style 62 = .ok (.bipush 77, 2) := by decide +kernel
theorem dX9_style_64 : decode cX9_style 64 = .ok (.invokevirtual 110, 3) := by decide +kernel
theorem dX9_style_67 : decode cX9_style 67 = .ok (.aload_n 0, 1) := by decide +kernel
theorem dX9_style_68 : decode cX9_style 68 = .ok (.bipush 78, 2) := by decide +kernel
theorem dX9_style_70 : decode cX9_style 70 = .ok (.invokevirtual 110, 3) := by decide +kernel
theorem dX9_style_73 : decode cX9_style 73 = .ok (.iadd, 1) := by decide +kernel
theorem dX9_style_74 : decode cX9_style 74 = .ok (.iconst 1, 1) := by decide +kernel
theorem dX9_style_75 : decode cX9_style 75 = .ok (.if_icmp .ne 20, 3) := by decide +kernel
theorem dX9_style_78 : decode cX9_style 78 = .ok (.aload_n 0, 1) := by decide +kernel
theorem dX9_style_79 : decode cX9_style 79 = .ok (.bipush 89, 2) := by decide +kernel
theorem dX9_style_81 : decode cX9_style 81 = .ok (.invokevirtual 110, 3) := by decide +kernel
theorem dX9_style_84 : decode cX9_style 84 = .ok (.aload_n 0, 1) := by decide +kernel
theorem dX9_style_85 : decode cX9_style 85 = .ok (.bipush 121, 2) := by decide +kernel
theorem dX9_style_87 : decode cX9_style 87 = .ok (.invokevirtual 110, 3) := by decide +kernel
theorem dX9_style_90 : decode cX9_style 90 = .ok (.iadd, 1) := by decide +kernel
theorem dX9_style_91 : decode cX9_style 91 = .ok (.iconst 1, 1) := by decide +kernel
theorem dX9_style_92 : decode cX9_style 92 = .ok (.if_icmp .eq 5, 3) := by decide +kernel
theorem dX9_style_95 : decode cX9_style 95 = .ok (.iconst (-1), 1) := by decide +kernel
theorem dX9_style_96 : decode cX9_style 96 = .ok (.ireturn, 1) := by decide +kernel
theorem dX9_style_97 : decode cX9_style 97 = .ok (.iconst 0, 1) := by decide +kernel
theorem dX9_style_98 : decode cX9_style 98 = .ok (.istore_n 2, 1) := by decide +kernel
theorem dX9_style_99 : decode cX9_style 99 = .ok (.iload_n 2, 1) := by decide +kernel
theorem dX9_style_100 : decode cX9_style 100 = .ok (.aload_n 0, 1) := by decide +kernel
theorem dX9_style_101 : decode cX9_style 101 = .ok (.getfield 93, 3) := by decide +kernel
theorem dX9_style_104 : decode cX9_style 104 = .ok (.if_icmp .ge 29, 3) := by decide +kernel
theorem dX9_style_107 : decode cX9_style 107 = .ok (.aload_n 0, 1) := by decide +kernel
theorem dX9_style_108 : decode cX9_style 108 = .ok (.getfield 13, 3) := by decide +kernel
theorem dX9_style_111 : decode cX9_style 111 = .ok (.bipush 24, 2) := by decide +kernel
theorem dX9_style_113 : decode cX9_style 113 = .ok (.aload_n 0, 1) := by decide +kernel
theorem dX9_style_114 : decode cX9_style 114 = .ok (.getfield 103, 3) := by decide +kernel
theorem dX9_style_117 : decode cX9_style 117 = .ok (.imul, 1) := by decide +kernel
theorem dX9_style_118 : decode cX9_style 118 = .ok (.iload_n 2, 1) := by decide +kernel
theorem dX9_style_119 : decode cX9_style 119 = .ok (.iadd, 1) := by decide +kernel
theorem dX9_style_120 : decode cX9_style 120 = .ok (.aload_n 0, 1) := by decide +kernel
theorem dX9_style_121 : decode cX9_style 121 = .ok (.getfield 9, 3) := by decide +kernel
theorem dX9_style_124 : decode cX9_style 124 = .ok (.iload_n 2, 1) := by decide +kernel
theorem dX9_style_125 : decode cX9_style 125 = .ok (.baload, 1) := by decide +kernel
theorem dX9_style_126 : decode cX9_style 126 = .ok (.bastore, 1) := by decide +kernel
theorem dX9_style_127 : decode cX9_style 127 = .ok (.iinc 2 1, 3) := by decide +kernel
theorem dX9_style_130 : decode cX9_style 130 = .ok (.goto (-31), 3) := by decide +kernel
theorem dX9_style_133 : decode cX9_style 133 = .ok (.aload_n 0, 1) := by decide +kernel
theorem dX9_style_134 : decode cX9_style 134 = .ok (.getfield 19, 3) := by decide +kernel
theorem dX9_style_137 : decode cX9_style 137 = .ok (.aload_n 0, 1) := by decide +kernel
theorem dX9_style_138 : decode cX9_style 138 = .ok (.getfield 103, 3) := by decide +kernel
theorem dX9_style_141 : decode cX9_style 141 = .ok (.aload_n 0, 1) := by decide +kernel
theorem dX9_style_142 : decode cX9_style 142 = .ok (.getfield 93, 3) := by decide +kernel
theorem dX9_style_145 : decode cX9_style 145 = .ok (.iastore, 1) := by decide +kernel
theorem dX9_style_146 : decode cX9_style 146 = .ok (.aload_n 0, 1) := by decide +kernel
theorem dX9_style_147 : decode cX9_style 147 = .ok (.getfield 23, 3) := by decide +kernel
theorem dX9_style_150 : decode cX9_style 150 = .ok (.aload_n 0, 1) := by decide +kernel
theorem dX9_style_151 : decode cX9_style 151 = .ok (.getfield 103, 3) := by decide +kernel
theorem dX9_style_154 : decode cX9_style 154 = .ok (.iload_n 1, 1) := by decide +kernel
theorem dX9_style_155 : decode cX9_style 155 = .ok (.iastore, 1) := by decide +kernel
theorem dX9_style_156 : decode cX9_style 156 = .ok (.aload_n 0, 1) := by decide +kernel
theorem dX9_style_157 : decode cX9_style 157 = .ok (.dup, 1) := by decide +kernel
theorem dX9_style_158 : decode cX9_style 158 = .ok (.getfield 103, 3) := by decide +kernel
