theorem dX3_isRead_0 : decode cX3_isRead 0 = .ok (.aload_n 0, 1) := by decide +kernel
theorem dX3_isRead_1 : decode cX3_isRead 1 = .ok (.iload_n 1, 1) := by decide +kernel
theorem dX3_isRead_2 : decode cX3_isRead 2 = .ok (.iload_n 2, 1) := by decide +kernel
theorem dX3_isRead_3 : decode cX3_isRead 3 = .ok (.iconst 0, 1) := by decide +kernel
theorem dX3_isRead_4 : decode cX3_isRead 4 = .ok (.invokevirtual 62, 3) := by decide +kernel
theorem dX3_isRead_7 : decode cX3_isRead 7 = .ok (.iconst (-1), 1) := by decide +kernel
theorem dX3_isRead_8 : decode cX3_isRead 8 = .ok (.if_icmp .eq 7, 3) := by decide +kernel
theorem dX3_isRead_11 : decode cX3_isRead 11 = .ok (.iconst 1, 1) := by decide +kernel
theorem dX3_isRead_12 : decode cX3_isRead 12 = .ok (.goto 4, 3) := by decide +kernel
theorem dX3_isRead_15 : decode cX3_isRead 15 = .ok (.iconst 0, 1) := by decide +kernel
theorem dX3_isRead_16 : decode cX3_isRead 16 = .ok (.ireturn, 1) := by decide +kernel
set_option maxRecDepth 20000 in
theorem ggX3_isAlike_X3_edge : GoodIn wsX3_isAlike wsX3_edge := goodIn_r _ [5, 6, 7, 8, 9, 10, 11, 12, 13, 14] rfl (by decide +kernel)
set_option maxRecDepth 20000 in
theorem gX3_isAlike_X3_edge : GoodIn wsX3_isAlike (wsV RX3 62 RX3 yX3_edge wsX3_edge) := goodIn_app (goodIn_of _ (by decide +kernel)) ggX3_isAlike_X3_edge
theorem dX3_isAlike_0 : decode cX3_isAlike 0 = .ok (.aload_n 0, 1) := by decide +kernel
theorem dX3_isAlike_1 : decode cX3_isAlike 1 = .ok (.iload_n 1, 1) := by decide +kernel
theorem dX3_isAlike_2 : decode cX3_isAlike 2 = .ok (.iload_n 2, 1) := by decide +kernel
theorem dX3_isAlike_3 : decode cX3_isAlike 3 = .ok (.iconst 0, 1) := by decide +kernel
theorem dX3_isAlike_4 : decode cX3_isAlike 4 = .ok (.invokevirtual 62, 3) := by decide +kernel
theorem dX3_isAlike_7 : decode cX3_isAlike 7 = .ok (.aload_n 0, 1) := by decide +kernel
theorem dX3_isAlike_8 : decode cX3_isAlike 8 = .ok (.iload_n 1, 1) := by decide +kernel
theorem dX3_isAlike_9 : decode cX3_isAlike 9 = .ok (.iload_n 3, 1) := by decide +kernel
theorem dX3_isAlike_10 : decode cX3_isAlike 10 = .ok (.iconst 0, 1) := by decide +kernel
theorem dX3_isAlike_11 : decode cX3_isAlike 11 = .ok (.invokevirtual 62, 3) := by decide +kernel
theorem dX3_isAlike_14 : decode cX3_isAlike 14 = .ok (.if_icmp .ne 24, 3) := by decide +kernel
theorem dX3_isAlike_17 : decode cX3_isAlike 17 = .ok (.aload_n 0, 1) := by decide +kernel
theorem dX3_isAlike_18 : decode cX3_isAlike 18 = .ok (.iload_n 1, 1) := by decide +kernel
theorem dX3_isAlike_19 : decode cX3_isAlike 19 = .ok (.iload_n 2, 1) := by decide +kernel
theorem dX3_isAlike_20 : decode cX3_isAlike 20 = .ok (.iconst 1, 1) := by decide +kernel
theorem dX3_isAlike_21 : decode cX3_isAlike 21 = .ok (.invokevirtual 62, 3) := by decide +kernel
theorem dX3_isAlike_24 : decode cX3_isAlike 24 = .ok (.aload_n 0, 1) := by decide +kernel
theorem dX3_isAlike_25 : decode cX3_isAlike 25 = .ok (.iload_n 1, 1) := by decide +kernel
theorem dX3_isAlike_26 : decode cX3_isAlike 26 = .ok (.iload_n 3, 1) := by decide +kernel
theorem dX3_isAlike_27 : decode cX3_isAlike 27 = .ok (.iconst 1, 1) := by decide +kernel
theorem dX3_isAlike_28 : decode cX3_isAlike 28 = .ok (.invokevirtual 62, 3) := by decide +kernel
theorem dX3_isAlike_31 : decode cX3_isAlike 31 = .ok (.if_icmp .ne 7, 3) := by decide +kernel
theorem dX3_isAlike_34 : decode cX3_isAlike 34 = .ok (.iconst 1, 1) := by decide +kernel
theorem dX3_isAlike_35 : decode cX3_isAlike 35 = .ok (.goto 4, 3) := by decide +kernel
theorem dX3_isAlike_38 : decode cX3_isAlike 38 = .ok (.iconst 0, 1) := by decide +kernel
theorem dX3_isAlike_39 : decode cX3_isAlike 39 = .ok (.ireturn, 1) := by decide +kernel
set_option maxRecDepth 20000 in
theorem ggX3_unlike_X5_size : GoodIn wsX3_unlike wsX5_size := goodIn_r _ [6, 7, 34, 35, 36] rfl (by decide +kernel)
set_option maxRecDepth 20000 in
theorem gX3_unlike_X5_size : GoodIn wsX3_unlike (wsV RX3 38 RX5 yX5_size wsX5_size) := goodIn_app (goodIn_of _ (by decide +kernel)) ggX3_unlike_X5_size
set_option maxRecDepth 20000 in
theorem ggX3_unlike_X3_isRead : GoodIn wsX3_unlike wsX3_isRead := goodIn_r _ [12, 13, 14, 15, 11, 16, 17, 18, 27, 28, 29, 30, 31, 32, 33] rfl (by decide +kernel)
set_option maxRecDepth 20000 in
theorem gX3_unlike_X3_isRead : GoodIn wsX3_unlike (wsV RX3 66 RX3 yX3_isRead wsX3_isRead) := goodIn_app (goodIn_of _ (by decide +kernel)) ggX3_unlike_X3_isRead
set_option maxRecDepth 20000 in
theorem ggX3_unlike_X3_isSaidAhead : GoodIn wsX3_unlike wsX3_isSaidAhead := goodIn_r _ [22, 23, 24, 25, 11, 26, 13, 14, 15, 16, 17, 18, 27, 28, 29, 30, 31, 32, 33] rfl (by decide +kernel)
set_option maxRecDepth 20000 in
theorem gX3_unlike_X3_isSaidAhead : GoodIn wsX3_unlike (wsV RX3 70 RX3 yX3_isSaidAhead wsX3_isSaidAhead) := goodIn_app (goodIn_of _ (by decide +kernel)) ggX3_unlike_X3_isSaidAhead
theorem dX3_unlike_0 : decode cX3_unlike 0 = .ok (.iconst 0, 1) := by decide +kernel
theorem dX3_unlike_1 : decode cX3_unlike 1 = .ok (.istore_n 2, 1) := by decide +kernel
theorem dX3_unlike_2 : decode cX3_unlike 2 = .ok (.iconst 0, 1) := by decide +kernel
theorem dX3_unlike_3 : decode cX3_unlike 3 = .ok (.istore_n 3, 1) := by decide +kernel
theorem dX3_unlike_4 : decode cX3_unlike 4 = .ok (.iload_n 3, 1) := by decide +kernel
theorem dX3_unlike_5 : decode cX3_unlike 5 = .ok (.aload_n 0, 1) := by decide +kernel
theorem dX3_unlike_6 : decode cX3_unlike 6 = .ok (.getfield 9, 3) := by decide +kernel
theorem dX3_unlike_9 : decode cX3_unlike 9 = .ok (.invokevirtual 38, 3) := by decide +kernel
theorem dX3_unlike_12 : decode cX3_unlike 12 = .ok (.if_icmp .ge 30, 3) := by decide +kernel
theorem dX3_unlike_15 : decode cX3_unlike 15 = .ok (.aload_n 0, 1) := by decide +kernel
theorem dX3_unlike_16 : decode cX3_unlike 16 = .ok (.iload_n 1, 1) := by decide +kernel
theorem dX3_unlike_17 : decode cX3_unlike 17 = .ok (.iload_n 3, 1) := by decide +kernel
theorem dX3_unlike_18 : decode cX3_unlike 18 = .ok (.invokevirtual 66, 3) := by decide +kernel
theorem dX3_unlike_21 : decode cX3_unlike 21 = .ok (.ifCond .eq 15, 3) := by decide +kernel
theorem dX3_unlike_24 : decode cX3_unlike 24 = .ok (.aload_n 0, 1) := by decide +kernel
theorem dX3_unlike_25 : decode cX3_unlike 25 = .ok (.iload_n 1, 1) := by decide +kernel
theorem dX3_unlike_26 : decode cX3_unlike 26 = .ok (.iload_n 3, 1) := by decide +kernel
theorem dX3_unlike_27 : decode cX3_unlike 27 = .ok (.invokevirtual 70, 3) := by decide +kernel
theorem dX3_unlike_30 : decode cX3_unlike 30 = .ok (.ifCond .ne 6, 3) := by decide +kernel
theorem dX3_unlike_33 : decode cX3_unlike 33 = .ok (.iinc 2 1, 3) := by decide +kernel
theorem dX3_unlike_36 : decode cX3_unlike 36 = .ok (.iinc 3 1, 3) := by decide +kernel
theorem dX3_unlike_39 : decode cX3_unlike 39 = .ok (.goto (-35), 3) := by decide +kernel
theorem dX3_unlike_42 : decode cX3_unlike 42 = .ok (.iload_n 2, 1) := by decide +kernel
theorem dX3_unlike_43 : decode cX3_unlike 43 = .ok (.ireturn, 1) := by decide +kernel
set_option maxRecDepth 20000 in
theorem ggX3_isSaidAhead_X3_isAlike : GoodIn wsX3_isSaidAhead wsX3_isAlike := goodIn_r _ [5, 6, 7, 8, 4, 9, 10, 11, 12, 13, 14, 15, 16, 17, 18] rfl (by decide +kernel)
set_option maxRecDepth 20000 in
theorem gX3_isSaidAhead_X3_isAlike : GoodIn wsX3_isSaidAhead (wsV RX3 73 RX3 yX3_isAlike wsX3_isAlike) := goodIn_app (goodIn_of _ (by decide +kernel)) ggX3_isSaidAhead_X3_isAlike
theorem dX3_isSaidAhead_0 : decode cX3_isSaidAhead 0 = .ok (.iconst 0, 1) := by decide +kernel
theorem dX3_isSaidAhead_1 : decode cX3_isSaidAhead 1 = .ok (.istore_n 3, 1) := by decide +kernel
theorem dX3_isSaidAhead_2 : decode cX3_isSaidAhead 2 = .ok (.iload_n 3, 1) := by decide +kernel
theorem dX3_isSaidAhead_3 : decode cX3_isSaidAhead 3 = .ok (.iload_n 2, 1) := by decide +kernel
theorem dX3_isSaidAhead_4 : decode cX3_isSaidAhead 4 = .ok (.if_icmp .ge 21, 3) := by decide +kernel
theorem dX3_isSaidAhead_7 : decode cX3_isSaidAhead 7 = .ok (.aload_n 0, 1) := by decide +kernel
theorem dX3_isSaidAhead_8 : decode cX3_isSaidAhead 8 = .ok (.iload_n 1, 1) := by decide +kernel
theorem dX3_isSaidAhead_9 : decode cX3_isSaidAhead 9 = .ok (.iload_n 3, 1) := by decide +kernel
theorem dX3_isSaidAhead_10 : decode cX3_isSaidAhead 10 = .ok (.iload_n 2, 1) := by decide +kernel
theorem dX3_isSaidAhead_11 : decode cX3_isSaidAhead 11 = .ok (.invokevirtual 73, 3) := by decide +kernel
theorem dX3_isSaidAhead_14 : decode cX3_isSaidAhead 14 = .ok (.ifCond .eq 5, 3) := by decide +kernel
theorem dX3_isSaidAhead_17 : decode cX3_isSaidAhead 17 = .ok (.iconst 1, 1) := by decide +kernel
theorem dX3_isSaidAhead_18 : decode cX3_isSaidAhead 18 = .ok (.ireturn, 1) := by decide +kernel
theorem dX3_isSaidAhead_19 : decode cX3_isSaidAhead 19 = .ok (.iinc 3 1, 3) := by decide +kernel
theorem dX3_isSaidAhead_22 : decode cX3_isSaidAhead 22 = .ok (.goto (-20), 3) := by decide +kernel
theorem dX3_isSaidAhead_25 : decode cX3_isSaidAhead 25 = .ok (.iconst 0, 1) := by decide +kernel
theorem dX3_isSaidAhead_26 : decode cX3_isSaidAhead 26 = .ok (.ireturn, 1) := by decide +kernel
theorem dX4_init_0 : decode cX4_init 0 = .ok (.aload_n 0, 1) := by decide +kernel
theorem dX4_init_1 : decode cX4_init 1 = .ok (.invokespecial 3, 3) := by decide +kernel
theorem dX4_init_4 : decode cX4_init 4 = .ok (.aload_n 0, 1) := by decide +kernel
theorem dX4_init_5 : decode cX4_init 5 = .ok (.bipush 24, 2) := by decide +kernel
theorem dX4_init_7 : decode cX4_init 7 = .ok (.newarray .int, 2) := by decide +kernel
theorem dX4_init_9 : decode cX4_init 9 = .ok (.putfield 9, 3) := by decide +kernel
theorem dX4_init_12 : decode cX4_init 12 = .ok (.aload_n 0, 1) := by decide +kernel
theorem dX4_init_13 : decode cX4_init 13 = .ok (.iconst 0, 1) := by decide +kernel
theorem dX4_init_14 : decode cX4_init 14 = .ok (.putfield 15, 3) := by decide +kernel
theorem dX4_init_17 : decode cX4_init 17 = .ok (.return_, 1) := by decide +kernel
theorem dX4_bytesIn_0 : decode cX4_bytesIn 0 = .ok (.iconst 0, 1) := by decide +kernel
theorem dX4_bytesIn_1 : decode cX4_bytesIn 1 = .ok (.istore_n 1, 1) := by decide +kernel
theorem dX4_bytesIn_2 : decode cX4_bytesIn 2 = .ok (.bipush 24, 2) := by decide +kernel
theorem dX4_bytesIn_4 : decode cX4_bytesIn 4 = .ok (.istore_n 2, 1) := by decide +kernel
theorem dX4_bytesIn_5 : decode cX4_bytesIn 5 = .ok (.iload_n 2, 1) := by decide +kernel
theorem dX4_bytesIn_6 : decode cX4_bytesIn 6 = .ok (.ifCond .lt 22, 3) := by decide +kernel
theorem dX4_bytesIn_9 : decode cX4_bytesIn 9 = .ok (.iload_n 0, 1) := by decide +kernel
theorem dX4_bytesIn_10 : decode cX4_bytesIn 10 = .ok (.iload_n 2, 1) := by decide +kernel
theorem dX4_bytesIn_11 : decode cX4_bytesIn 11 = .ok (.iushr, 1) := by decide +kernel
theorem dX4_bytesIn_12 : decode cX4_bytesIn 12 = .ok (.sipush 255, 3) := by decide +kernel
theorem dX4_bytesIn_15 : decode cX4_bytesIn 15 = .ok (.iand, 1) := by decide +kernel
theorem dX4_bytesIn_16 : decode cX4_bytesIn 16 = .ok (.ifCond .eq 6, 3) := by decide +kernel
theorem dX4_bytesIn_19 : decode cX4_bytesIn 19 = .ok (.iinc 1 1, 3) := by decide +kernel
theorem dX4_bytesIn_22 : decode cX4_bytesIn 22 = .ok (.iinc 2 (-8), 3) := by decide +kernel
theorem dX4_bytesIn_25 : decode cX4_bytesIn 25 = .ok (.goto (-20), 3) := by decide +kernel
theorem dX4_bytesIn_28 : decode cX4_bytesIn 28 = .ok (.iload_n 1, 1) := by decide +kernel
theorem dX4_bytesIn_29 : decode cX4_bytesIn 29 = .ok (.ireturn, 1) := by decide +kernel
theorem dX4_length_0 : decode cX4_length 0 = .ok (.aload_n 0, 1) := by decide +kernel
theorem dX4_length_1 : decode cX4_length 1 = .ok (.getfield 15, 3) := by decide +kernel
theorem dX4_length_4 : decode cX4_length 4 = .ok (.ireturn, 1) := by decide +kernel
theorem dX4_byteAt_0 : decode cX4_byteAt 0 = .ok (.iload_n 1, 1) := by decide +kernel
theorem dX4_byteAt_1 : decode cX4_byteAt 1 = .ok (.ifCond .lt 11, 3) := by decide +kernel
theorem dX4_byteAt_4 : decode cX4_byteAt 4 = .ok (.iload_n 1, 1) := by decide +kernel
theorem dX4_byteAt_5 : decode cX4_byteAt 5 = .ok (.aload_n 0, 1) := by decide +kernel
theorem dX4_byteAt_6 : decode cX4_byteAt 6 = .ok (.getfield 15, 3) := by decide +kernel
theorem dX4_byteAt_9 : decode cX4_byteAt 9 = .ok (.if_icmp .lt 7, 3) := by decide +kernel
theorem dX4_byteAt_12 : decode cX4_byteAt 12 = .ok (.iconst (-1), 1) := by decide +kernel
theorem dX4_byteAt_13 : decode cX4_byteAt 13 = .ok (.goto 9, 3) := by decide +kernel
theorem dX4_byteAt_16 : decode cX4_byteAt 16 = .ok (.aload_n 0, 1) := by decide +kernel
theorem dX4_byteAt_17 : decode cX4_byteAt 17 = .ok (.getfield 9, 3) := by decide +kernel
theorem dX4_byteAt_20 : decode cX4_byteAt 20 = .ok (.iload_n 1, 1) := by decide +kernel
theorem dX4_byteAt_21 : decode cX4_byteAt 21 = .ok (.iaload, 1) := by decide +kernel
theorem dX4_byteAt_22 : decode cX4_byteAt 22 = .ok (.ireturn, 1) := by decide +kernel
theorem dX4_append_0 : decode cX4_append 0 = .ok (.bipush 24, 2) := by decide +kernel
theorem dX4_append_2 : decode cX4_append 2 = .ok (.istore_n 2, 1) := by decide +kernel
theorem dX4_append_3 : decode cX4_append 3 = .ok (.iload_n 2, 1) := by decide +kernel
theorem dX4_append_4 : decode cX4_append 4 = .ok (.ifCond .lt 50, 3) := by decide +kernel
theorem dX4_append_7 : decode cX4_append 7 = .ok (.iload_n 1, 1) := by decide +kernel
theorem dX4_append_8 : decode cX4_append 8 = .ok (.iload_n 2, 1) := by decide +kernel
theorem dX4_append_9 : decode cX4_append 9 = .ok (.iushr, 1) := by decide +kernel
theorem dX4_append_10 : decode cX4_append 10 = .ok (.sipush 255, 3) := by decide +kernel
theorem dX4_append_13 : decode cX4_append 13 = .ok (.iand, 1) := by decide +kernel
theorem dX4_append_14 : decode cX4_append 14 = .ok (.istore_n 3, 1) := by decide +kernel
theorem dX4_append_15 : decode cX4_append 15 = .ok (.iload_n 3, 1) := by decide +kernel
theorem dX4_append_16 : decode cX4_append 16 = .ok (.ifCond .eq 32, 3) := by decide +kernel
theorem dX4_append_19 : decode cX4_append 19 = .ok (.aload_n 0, 1) := by decide +kernel
theorem dX4_append_20 : decode cX4_append 20 = .ok (.getfield 15, 3) := by decide +kernel
theorem dX4_append_23 : decode cX4_append 23 = .ok (.bipush 24, 2) := by decide +kernel
theorem dX4_append_25 : decode cX4_append 25 = .ok (.if_icmp .ge 23, 3) := by decide +kernel
theorem dX4_append_28 : decode cX4_append 28 = .ok (.aload_n 0, 1) := by decide +kernel
theorem dX4_append_29 : decode cX4_append 29 = .ok (.getfield 9, 3) := by decide +kernel
theorem dX4_append_32 : decode cX4_append 32 = .ok (.aload_n 0, 1) := by decide +kernel
theorem dX4_append_33 : decode cX4_append 33 = .ok (.getfield 15, 3) := by decide +kernel
theorem dX4_append_36 : decode cX4_append 36 = .ok (.iload_n 3, 1) := by decide +kernel
theorem dX4_append_37 : decode cX4_append 37 = .ok (.iastore, 1) := by decide +kernel
theorem dX4_append_38 : decode cX4_append 38 = .ok (.aload_n 0, 1) := by decide +kernel
theorem dX4_append_39 : decode cX4_append 39 = .ok (.dup, 1) := by decide +kernel
theorem dX4_append_40 : decode cX4_append 40 = .ok (.getfield 15, 3) := by decide +kernel
theorem dX4_append_43 : decode cX4_append 43 = .ok (.iconst 1, 1) := by decide +kernel
theorem dX4_append_44 : decode cX4_append 44 = .ok (.iadd, 1) := by decide +kernel
theorem dX4_append_45 : decode cX4_append 45 = .ok (.putfield 15, 3) := by decide +kernel
theorem dX4_append_48 : decode cX4_append 48 = .ok (.iinc 2 (-8), 3) := by decide +kernel
theorem dX4_append_51 : decode cX4_append 51 = .ok (.goto (-48), 3) := by decide +kernel
theorem dX4_append_54 : decode cX4_append 54 = .ok (.return_, 1) := by decide +kernel
theorem dX4_cut_0 : decode cX4_cut 0 = .ok (.iload_n 1, 1) := by decide +kernel
theorem dX4_cut_1 : decode cX4_cut 1 = .ok (.ifCond .lt 11, 3) := by decide +kernel
theorem dX4_cut_4 : decode cX4_cut 4 = .ok (.iload_n 1, 1) := by decide +kernel
theorem dX4_cut_5 : decode cX4_cut 5 = .ok (.aload_n 0, 1) := by decide +kernel
theorem dX4_cut_6 : decode cX4_cut 6 = .ok (.getfield 15, 3) := by decide +kernel
theorem dX4_cut_9 : decode cX4_cut 9 = .ok (.if_icmp .le 5, 3) := by decide +kernel
theorem dX4_cut_12 : decode cX4_cut 12 = .ok (.iconst 0, 1) := by decide +kernel
theorem dX4_cut_13 : decode cX4_cut 13 = .ok (.ireturn, 1) := by decide +kernel
theorem dX4_cut_14 : decode cX4_cut 14 = .ok (.aload_n 0, 1) := by decide +kernel
theorem dX4_cut_15 : decode cX4_cut 15 = .ok (.iload_n 1, 1) := by decide +kernel
theorem dX4_cut_16 : decode cX4_cut 16 = .ok (.putfield 15, 3) := by decide +kernel
theorem dX4_cut_19 : decode cX4_cut 19 = .ok (.iconst 1, 1) := by decide +kernel
theorem dX4_cut_20 : decode cX4_cut 20 = .ok (.ireturn, 1) := by decide +kernel
theorem dX4_isText_0 : decode cX4_isText 0 = .ok (.iconst 0, 1) := by decide +kernel
theorem dX4_isText_1 : decode cX4_isText 1 = .ok (.istore_n 1, 1) := by decide +kernel
theorem dX4_isText_2 : decode cX4_isText 2 = .ok (.iload_n 1, 1) := by decide +kernel
theorem dX4_isText_3 : decode cX4_isText 3 = .ok (.aload_n 0, 1) := by decide +kernel
theorem dX4_isText_4 : decode cX4_isText 4 = .ok (.getfield 15, 3) := by decide +kernel
theorem dX4_isText_7 : decode cX4_isText 7 = .ok (.if_icmp .ge 33, 3) := by decide +kernel
theorem dX4_isText_10 : decode cX4_isText 10 = .ok (.aload_n 0, 1) := by decide +kernel
theorem dX4_isText_11 : decode cX4_isText 11 = .ok (.getfield 9, 3) := by decide +kernel
theorem dX4_isText_14 : decode cX4_isText 14 = .ok (.iload_n 1, 1) := by decide +kernel
theorem dX4_isText_15 : decode cX4_isText 15 = .ok (.iaload, 1) := by decide +kernel
theorem dX4_isText_16 : decode cX4_isText 16 = .ok (.bipush 32, 2) := by decide +kernel
theorem dX4_isText_18 : decode cX4_isText 18 = .ok (.if_icmp .lt 14, 3) := by decide +kernel
theorem dX4_isText_21 : decode cX4_isText 21 = .ok (.aload_n 0, 1) := by decide +kernel
theorem dX4_isText_22 : decode cX4_isText 22 = .ok (.getfield 9, 3) := by decide +kernel
theorem dX4_isText_25 : decode cX4_isText 25 = .ok (.iload_n 1, 1) := by decide +kernel
theorem dX4_isText_26 : decode cX4_isText 26 = .ok (.iaload, 1) := by decide +kernel
theorem dX4_isText_27 : decode cX4_isText 27 = .ok (.bipush 126, 2) := by decide +kernel
theorem dX4_isText_29 : decode cX4_isText 29 = .ok (.if_icmp .le 5, 3) := by decide +kernel
theorem dX4_isText_32 : decode cX4_isText 32 = .ok (.iconst 0, 1) := by decide +kernel
theorem dX4_isText_33 : decode cX4_isText 33 = .ok (.ireturn, 1) := by decide +kernel
theorem dX4_isText_34 : decode cX4_isText 34 = .ok (.iinc 1 1, 3) := by decide +kernel
theorem dX4_isText_37 : decode cX4_isText 37 = .ok (.goto (-35), 3) := by decide +kernel
theorem dX4_isText_40 : decode cX4_isText 40 = .ok (.iconst 1, 1) := by decide +kernel
theorem dX4_isText_41 : decode cX4_isText 41 = .ok (.ireturn, 1) := by decide +kernel
set_option maxRecDepth 20000 in
theorem ggX4_isPattern_X4_countOf : GoodIn wsX4_isPattern wsX4_countOf := goodIn_r _ [5, 6, 7, 12, 13] rfl (by decide +kernel)
set_option maxRecDepth 20000 in
theorem gX4_isPattern_X4_countOf : GoodIn wsX4_isPattern (wsV RX4 19 RX4 yX4_countOf wsX4_countOf) := goodIn_app (goodIn_of _ (by decide +kernel)) ggX4_isPattern_X4_countOf
set_option maxRecDepth 20000 in
theorem ggX4_isPattern_X4_isText : GoodIn wsX4_isPattern wsX4_isText := goodIn_r _ [11, 6, 7, 12, 13] rfl (by decide +kernel)
set_option maxRecDepth 20000 in
theorem gX4_isPattern_X4_isText : GoodIn wsX4_isPattern (wsV RX4 23 RX4 yX4_isText wsX4_isText) := goodIn_app (goodIn_of _ (by decide +kernel)) ggX4_isPattern_X4_isText
theorem dX4_isPattern_0 : decode cX4_isPattern 0 = .ok (.aload_n 0, 1) := by decide +kernel
theorem dX4_isPattern_1 : decode cX4_isPattern 1 = .ok (.bipush 68, 2) := by decide +kernel
theorem dX4_isPattern_3 : decode cX4_isPattern 3 = .ok (.invokevirtual 19, 3) := by decide +kernel
theorem dX4_isPattern_6 : decode cX4_isPattern 6 = .ok (.istore_n 1, 1) := by decide +kernel
theorem dX4_isPattern_7 : decode cX4_isPattern 7 = .ok (.aload_n 0, 1) := by decide +kernel
theorem dX4_isPattern_8 : decode cX4_isPattern 8 = .ok (.bipush 77, 2) := by decide +kernel
theorem dX4_isPattern_10 : decode cX4_isPattern 10 = .ok (.invokevirtual 19, 3) := by decide +kernel
theorem dX4_isPattern_13 : decode cX4_isPattern 13 = .ok (.aload_n 0, 1) := by decide +kernel
theorem dX4_isPattern_14 : decode cX4_isPattern 14 = .ok (.bipush 78, 2) := by decide +kernel
theorem dX4_isPattern_16 : decode cX4_isPattern 16 = .ok (.invokevirtual 19, 3) := by decide +kernel
theorem dX4_isPattern_19 : decode cX4_isPattern 19 = .ok (.iadd, 1) := by decide +kernel
theorem dX4_isPattern_20 : decode cX4_isPattern 20 = .ok (.istore_n 2, 1) := by decide +kernel
theorem dX4_isPattern_21 : decode cX4_isPattern 21 = .ok (.aload_n 0, 1) := by decide +kernel
theorem dX4_isPattern_22 : decode cX4_isPattern 22 = .ok (.bipush 89, 2) := by decide +kernel
theorem dX4_isPattern_24 : decode cX4_isPattern 24 = .ok (.invokevirtual 19, 3) := by decide +kernel
theorem dX4_isPattern_27 : decode cX4_isPattern 27 = .ok (.aload_n 0, 1) := by decide +kernel
theorem dX4_isPattern_28 : decode cX4_isPattern 28 = .ok (.bipush 121, 2) := by decide +kernel
theorem dX4_isPattern_30 : decode cX4_isPattern 30 = .ok (.invokevirtual 19, 3) := by decide +kernel
theorem dX4_isPattern_33 : decode cX4_isPattern 33 = .ok (.iadd, 1) := by decide +kernel
theorem dX4_isPattern_34 : decode cX4_isPattern 34 = .ok (.istore_n 3, 1) := by decide +kernel
theorem dX4_isPattern_35 : decode cX4_isPattern 35 = .ok (.aload_n 0, 1) := by decide +kernel
theorem dX4_isPattern_36 : decode cX4_isPattern 36 = .ok (.bipush 87, 2) := by decide +kernel
theorem dX4_isPattern_38 : decode cX4_isPattern 38 = .ok (.invokevirtual 19, 3) := by decide +kernel
theorem dX4_isPattern_41 : decode cX4_isPattern 41 = .ok (.istore 4, 2) := by decide +kernel
theorem dX4_isPattern_43 : decode cX4_isPattern 43 = .ok (.aload_n 0, 1) := by decide +kernel
theorem dX4_isPattern_44 : decode cX4_isPattern 44 = .ok (.invokevirtual 23, 3) := by decide +kernel
theorem dX4_isPattern_47 : decode cX4_isPattern 47 = .ok (.ifCond .eq 28, 3) := by decide +kernel
theorem dX4_isPattern_50 : decode cX4_isPattern 50 = .ok (.iload_n 1, 1) := by decide +kernel
theorem dX4_isPattern_51 : decode cX4_isPattern 51 = .ok (.iconst 1, 1) := by decide +kernel
theorem dX4_isPattern_52 : decode cX4_isPattern 52 = .ok (.if_icmp .gt 23, 3) := by decide +kernel
theorem dX4_isPattern_55 : decode cX4_isPattern 55 = .ok (.iload_n 2, 1) := by decide +kernel
theorem dX4_isPattern_56 : decode cX4_isPattern 56 = .ok (.iconst 1, 1) := by decide +kernel
theorem dX4_isPattern_57 : decode cX4_isPattern 57 = .ok (.if_icmp .ne 18, 3) := by decide +kernel
theorem dX4_isPattern_60 : decode cX4_isPattern 60 = .ok (.iload_n 3, 1) := by decide +kernel
theorem dX4_isPattern_61 : decode cX4_isPattern 61 = .ok (.iconst 1, 1) := by decide +kernel
theorem dX4_isPattern_62 : decode cX4_isPattern 62 = .ok (.if_icmp .ne 13, 3) := by decide +kernel
theorem dX4_isPattern_65 : decode cX4_isPattern 65 = .ok (.iload 4, 2) := by decide +kernel
theorem dX4_isPattern_67 : decode cX4_isPattern 67 = .ok (.iconst 1, 1) := by decide +kernel
theorem dX4_isPattern_68 : decode cX4_isPattern 68 = .ok (.if_icmp .gt 7, 3) := by decide +kernel
theorem dX4_isPattern_71 : decode cX4_isPattern 71 = .ok (.iconst 1, 1) := by decide +kernel
theorem dX4_isPattern_72 : decode cX4_isPattern 72 = .ok (.goto 4, 3) := by decide +kernel
theorem dX4_isPattern_75 : decode cX4_isPattern 75 = .ok (.iconst 0, 1) := by decide +kernel
theorem dX4_isPattern_76 : decode cX4_isPattern 76 = .ok (.ireturn, 1) := by decide +kernel
theorem dX4_countOf_0 : decode cX4_countOf 0 = .ok (.iconst 0, 1) := by decide +kernel
theorem dX4_countOf_1 : decode cX4_countOf 1 = .ok (.istore_n 2, 1) := by decide +kernel
theorem dX4_countOf_2 : decode cX4_countOf 2 = .ok (.iconst 0, 1) := by decide +kernel
theorem dX4_countOf_3 : decode cX4_countOf 3 = .ok (.istore_n 3, 1) := by decide +kernel
theorem dX4_countOf_4 : decode cX4_countOf 4 = .ok (.iload_n 3, 1) := by decide +kernel
theorem dX4_countOf_5 : decode cX4_countOf 5 = .ok (.aload_n 0, 1) := by decide +kernel
theorem dX4_countOf_6 : decode cX4_countOf 6 = .ok (.getfield 15, 3) := by decide +kernel
theorem dX4_countOf_9 : decode cX4_countOf 9 = .ok (.if_icmp .ge 22, 3) := by decide +kernel
theorem dX4_countOf_12 : decode cX4_countOf 12 = .ok (.aload_n 0, 1) := by decide +kernel
theorem dX4_countOf_13 : decode cX4_countOf 13 = .ok (.getfield 9, 3) := by decide +kernel
theorem dX4_countOf_16 : decode cX4_countOf 16 = .ok (.iload_n 3, 1) := by decide +kernel
theorem dX4_countOf_17 : decode cX4_countOf 17 = .ok (.iaload, 1) := by decide +kernel
theorem dX4_countOf_18 : decode cX4_countOf 18 = .ok (.iload_n 1, 1) := by decide +kernel
theorem dX4_countOf_19 : decode cX4_countOf 19 = .ok (.if_icmp .ne 6, 3) := by decide +kernel
theorem dX4_countOf_22 : decode cX4_countOf 22 = .ok (.iinc 2 1, 3) := by decide +kernel
theorem dX4_countOf_25 : decode cX4_countOf 25 = .ok (.iinc 3 1, 3) := by decide +kernel
theorem dX4_countOf_28 : decode cX4_countOf 28 = .ok (.goto (-24), 3) := by decide +kernel
theorem dX4_countOf_31 : decode cX4_countOf 31 = .ok (.iload_n 2, 1) := by decide +kernel
theorem dX4_countOf_32 : decode cX4_countOf 32 = .ok (.ireturn, 1) := by decide +kernel
theorem dX5_init_0 : decode cX5_init 0 = .ok (.aload_n 0, 1) := by decide +kernel
theorem dX5_init_1 : decode cX5_init 1 = .ok (.invokespecial 3, 3) := by decide +kernel
theorem dX5_init_4 : decode cX5_init 4 = .ok (.iconst 0, 1) := by decide +kernel
theorem dX5_init_5 : decode cX5_init 5 = .ok (.iload_n 1, 1) := by decide +kernel
theorem dX5_init_6 : decode cX5_init 6 = .ok (.bipush 30, 2) := by decide +kernel
theorem dX5_init_8 : decode cX5_init 8 = .ok (.invokestatic 9, 3) := by decide +kernel
theorem dX5_init_11 : decode cX5_init 11 = .ok (.invokestatic 15, 3) := by decide +kernel
theorem dX5_init_14 : decode cX5_init 14 = .ok (.istore_n 2, 1) := by decide +kernel
theorem dX5_init_15 : decode cX5_init 15 = .ok (.aload_n 0, 1) := by decide +kernel
theorem dX5_init_16 : decode cX5_init 16 = .ok (.iload_n 2, 1) := by decide +kernel
theorem dX5_init_17 : decode cX5_init 17 = .ok (.bipush 24, 2) := by decide +kernel
theorem dX5_init_19 : decode cX5_init 19 = .ok (.imul, 1) := by decide +kernel
theorem dX5_init_20 : decode cX5_init 20 = .ok (.newarray .int, 2) := by decide +kernel
theorem dX5_init_22 : decode cX5_init 22 = .ok (.putfield 18, 3) := by decide +kernel
theorem dX5_init_25 : decode cX5_init 25 = .ok (.aload_n 0, 1) := by decide +kernel
theorem dX5_init_26 : decode cX5_init 26 = .ok (.iload_n 2, 1) := by decide +kernel
theorem dX5_init_27 : decode cX5_init 27 = .ok (.newarray .int, 2) := by decide +kernel
theorem dX5_init_29 : decode cX5_init 29 = .ok (.putfield 24, 3) := by decide +kernel
theorem dX5_init_32 : decode cX5_init 32 = .ok (.aload_n 0, 1) := by decide +kernel
theorem dX5_init_33 : decode cX5_init 33 = .ok (.iconst 0, 1) := by decide +kernel
theorem dX5_init_34 : decode cX5_init 34 = .ok (.putfield 27, 3) := by decide +kernel
theorem dX5_init_37 : decode cX5_init 37 = .ok (.return_, 1) := by decide +kernel
theorem dX5_size_0 : decode cX5_size 0 = .ok (.aload_n 0, 1) := by decide +kernel
theorem dX5_size_1 : decode cX5_size 1 = .ok (.getfield 27, 3) := by decide +kernel
theorem dX5_size_4 : decode cX5_size 4 = .ok (.ireturn, 1) := by decide +kernel
theorem dX5_isFull_0 : decode cX5_isFull 0 = .ok (.aload_n 0, 1) := by decide +kernel
theorem dX5_isFull_1 : decode cX5_isFull 1 = .ok (.getfield 27, 3) := by decide +kernel
theorem dX5_isFull_4 : decode cX5_isFull 4 = .ok (.aload_n 0, 1) := by decide +kernel
theorem dX5_isFull_5 : decode cX5_isFull 5 = .ok (.getfield 24, 3) := by decide +kernel
theorem dX5_isFull_8 : decode cX5_isFull 8 = .ok (.arraylength, 1) := by decide +kernel
theorem dX5_isFull_9 : decode cX5_isFull 9 = .ok (.if_icmp .lt 7, 3) := by decide +kernel
theorem dX5_isFull_12 : decode cX5_isFull 12 = .ok (.iconst 1, 1) := by decide +kernel
theorem dX5_isFull_13 : decode cX5_isFull 13 = .ok (.goto 4, 3) := by decide +kernel
theorem dX5_isFull_16 : decode cX5_isFull 16 = .ok (.iconst 0, 1) := by decide +kernel
theorem dX5_isFull_17 : decode cX5_isFull 17 = .ok (.ireturn, 1) := by decide +kernel
theorem dX5_has_0 : decode cX5_has 0 = .ok (.iload_n 1, 1) := by decide +kernel
theorem dX5_has_1 : decode cX5_has 1 = .ok (.ifCond .lt 15, 3) := by decide +kernel
theorem dX5_has_4 : decode cX5_has 4 = .ok (.iload_n 1, 1) := by decide +kernel
theorem dX5_has_5 : decode cX5_has 5 = .ok (.aload_n 0, 1) := by decide +kernel
theorem dX5_has_6 : decode cX5_has 6 = .ok (.getfield 27, 3) := by decide +kernel
theorem dX5_has_9 : decode cX5_has 9 = .ok (.if_icmp .ge 7, 3) := by decide +kernel
theorem dX5_has_12 : decode cX5_has 12 = .ok (.iconst 1, 1) := by decide +kernel
theorem dX5_has_13 : decode cX5_has 13 = .ok (.goto 4, 3) := by decide +kernel
theorem dX5_has_16 : decode cX5_has 16 = .ok (.iconst 0, 1) := by decide +kernel
theorem dX5_has_17 : decode cX5_has 17 = .ok (.ireturn, 1) := by decide +kernel
set_option maxRecDepth 20000 in
theorem ggX5_add_X5_isFull : GoodIn wsX5_add wsX5_isFull := goodIn_r _ [8, 1, 3, 24, 25, 26] rfl (by decide +kernel)
set_option maxRecDepth 20000 in
theorem gX5_add_X5_isFull : GoodIn wsX5_add (wsV RX5 31 RX5 yX5_isFull wsX5_isFull) := goodIn_app (goodIn_of _ (by decide +kernel)) ggX5_add_X5_isFull
set_option maxRecDepth 20000 in
theorem ggX5_add_X4_length : GoodIn wsX5_add wsX4_length := goodIn_r _ [13, 14, 27, 28] rfl (by decide +kernel)
set_option maxRecDepth 20000 in
theorem gX5_add_X4_length : GoodIn wsX5_add (wsV RX5 35 RX4 yX4_length wsX4_length) := goodIn_app (goodIn_of _ (by decide +kernel)) ggX5_add_X4_length
set_option maxRecDepth 20000 in
theorem ggX5_add_X4_byteAt : GoodIn wsX5_add wsX4_byteAt := goodIn_r _ [18, 14, 19, 27, 28] rfl (by decide +kernel)
set_option maxRecDepth 20000 in
theorem gX5_add_X4_byteAt : GoodIn wsX5_add (wsV RX5 41 RX4 yX4_byteAt wsX4_byteAt) := goodIn_app (goodIn_of _ (by decide +kernel)) ggX5_add_X4_byteAt
set_option maxRecDepth 20000 in
theorem ggX5_add_X4_cut : GoodIn wsX5_add wsX4_cut := goodIn_r _ [23, 14, 27, 28] rfl (by decide +kernel)
set_option maxRecDepth 20000 in
theorem gX5_add_X4_cut : GoodIn wsX5_add (wsV RX5 45 RX4 yX4_cut wsX4_cut) := goodIn_app (goodIn_of _ (by decide +kernel)) ggX5_add_X4_cut
theorem dX5_add_0 : decode cX5_add 0 = .ok (.aload_n 0, 1) := by decide +kernel
theorem dX5_add_1 : decode cX5_add 1 = .ok (.invokevirtual 31, 3) := by decide +kernel
theorem dX5_add_4 : decode cX5_add 4 = .ok (.ifCond .eq 5, 3) := by decide +kernel
theorem dX5_add_7 : decode cX5_add 7 = .ok (.iconst (-1), 1) := by decide +kernel
theorem dX5_add_8 : decode cX5_add 8 = .ok (.ireturn, 1) := by decide +kernel
theorem dX5_add_9 : decode cX5_add 9 = .ok (.aload_n 0, 1) := by decide +kernel
theorem dX5_add_10 : decode cX5_add 10 = .ok (.getfield 27, 3) := by decide +kernel
theorem dX5_add_13 : decode cX5_add 13 = .ok (.istore_n 2, 1) := by decide +kernel
theorem dX5_add_14 : decode cX5_add 14 = .ok (.aload_n 1, 1) := by decide +kernel
theorem dX5_add_15 : decode cX5_add 15 = .ok (.invokevirtual 35, 3) := by decide +kernel
theorem dX5_add_18 : decode cX5_add 18 = .ok (.istore_n 3, 1) := by decide +kernel
theorem dX5_add_19 : decode cX5_add 19 = .ok (.iconst 0, 1) := by decide +kernel
theorem dX5_add_20 : decode cX5_add 20 = .ok (.istore 4, 2) := by decide +kernel
theorem dX5_add_22 : decode cX5_add 22 = .ok (.iload 4, 2) := by decide +kernel
theorem dX5_add_24 : decode cX5_add 24 = .ok (.iload_n 3, 1) := by decide +kernel
theorem dX5_add_25 : decode cX5_add 25 = .ok (.if_icmp .ge 34, 3) := by decide +kernel
theorem dX5_add_28 : decode cX5_add 28 = .ok (.iload 4, 2) := by decide +kernel
theorem dX5_add_30 : decode cX5_add 30 = .ok (.bipush 24, 2) := by decide +kernel
theorem dX5_add_32 : decode cX5_add 32 = .ok (.if_icmp .ge 27, 3) := by decide +kernel
theorem dX5_add_35 : decode cX5_add 35 = .ok (.aload_n 0, 1) := by decide +kernel
theorem dX5_add_36 : decode cX5_add 36 = .ok (.getfield 18, 3) := by decide +kernel
theorem dX5_add_39 : decode cX5_add 39 = .ok (.iload_n 2, 1) := by decide +kernel
theorem dX5_add_40 : decode cX5_add 40 = .ok (.bipush 24, 2) := by decide +kernel
theorem dX5_add_42 : decode cX5_add 42 = .ok (.imul, 1) := by decide +kernel
theorem dX5_add_43 : decode cX5_add 43 = .ok (.iload 4, 2) := by decide +kernel
theorem dX5_add_45 : decode cX5_add 45 = .ok (.iadd, 1) := by decide +kernel
theorem dX5_add_46 : decode cX5_add 46 = .ok (.aload_n 1, 1) := by decide +kernel
theorem dX5_add_47 : decode cX5_add 47 = .ok (.iload 4, 2) := by decide +kernel
theorem dX5_add_49 : decode cX5_add 49 = .ok (.invokevirtual 41, 3) := by decide +kernel
theorem dX5_add_52 : decode cX5_add 52 = .ok (.iastore, 1) := by decide +kernel
theorem dX5_add_53 : decode cX5_add 53 = .ok (.iinc 4 1, 3) := by decide +kernel
theorem dX5_add_56 : decode cX5_add 56 = .ok (.goto (-34), 3) := by decide +kernel
theorem dX5_add_59 : decode cX5_add 59 = .ok (.aload_n 0, 1) := by decide +kernel
theorem dX5_add_60 : decode cX5_add 60 = .ok (.getfield 24, 3) := by decide +kernel
theorem dX5_add_63 : decode cX5_add 63 = .ok (.iload_n 2, 1) := by decide +kernel
theorem dX5_add_64 : decode cX5_add 64 = .ok (.iload_n 3, 1) := by decide +kernel
theorem dX5_add_65 : decode cX5_add 65 = .ok (.iastore, 1) := by decide +kernel
theorem dX5_add_66 : decode cX5_add 66 = .ok (.aload_n 0, 1) := by decide +kernel
theorem dX5_add_67 : decode cX5_add 67 = .ok (.dup, 1) := by decide +kernel
theorem dX5_add_68 : decode cX5_add 68 = .ok (.getfield 27, 3) := by decide +kernel
theorem dX5_add_71 : decode cX5_add 71 = .ok (.iconst 1, 1) := by decide +kernel
theorem dX5_add_72 : decode cX5_add 72 = .ok (.iadd, 1) := by decide +kernel
theorem dX5_add_73 : decode cX5_add 73 = .ok (.putfield 27, 3) := by decide +kernel
theorem dX5_add_76 : decode cX5_add 76 = .ok (.aload_n 1, 1) := by decide +kernel
theorem dX5_add_77 : decode cX5_add 77 = .ok (.iconst 0, 1) := by decide +kernel
theorem dX5_add_78 : decode cX5_add 78 = .ok (.invokevirtual 45, 3) := by decide +kernel
theorem dX5_add_81 : decode cX5_add 81 = .ok (.pop, 1) := by decide +kernel
theorem dX5_add_82 : decode cX5_add 82 = .ok (.iload_n 2, 1) := by decide +kernel
theorem dX5_add_83 : decode cX5_add 83 = .ok (.ireturn, 1) := by decide +kernel
theorem dX5_removeAll_0 : decode cX5_removeAll 0 = .ok (.aload_n 0, 1) := by decide +kernel
theorem dX5_removeAll_1 : decode cX5_removeAll 1 = .ok (.iconst 0, 1) := by decide +kernel
theorem dX5_removeAll_2 : decode cX5_removeAll 2 = .ok (.putfield 27, 3) := by decide +kernel
theorem dX5_removeAll_5 : decode cX5_removeAll 5 = .ok (.return_, 1) := by decide +kernel
set_option maxRecDepth 20000 in
theorem ggX5_lengthOf_X5_has : GoodIn wsX5_lengthOf wsX5_has := goodIn_r _ [6, 7, 8, 9, 10] rfl (by decide +kernel)
set_option maxRecDepth 20000 in
theorem gX5_lengthOf_X5_has : GoodIn wsX5_lengthOf (wsV RX5 49 RX5 yX5_has wsX5_has) := goodIn_app (goodIn_of _ (by decide +kernel)) ggX5_lengthOf_X5_has
theorem dX5_lengthOf_0 : decode cX5_lengthOf 0 = .ok (.aload_n 0, 1) := by decide +kernel
theorem dX5_lengthOf_1 : decode cX5_lengthOf 1 = .ok (.iload_n 1, 1) := by decide +kernel
theorem dX5_lengthOf_2 : decode cX5_lengthOf 2 = .ok (.invokevirtual 49, 3) := by decide +kernel
theorem dX5_lengthOf_5 : decode cX5_lengthOf 5 = .ok (.ifCond .eq 12, 3) := by decide +kernel
theorem dX5_lengthOf_8 : decode cX5_lengthOf 8 = .ok (.aload_n 0, 1) := by decide +kernel
theorem dX5_lengthOf_9 : decode cX5_lengthOf 9 = .ok (.getfield 24, 3) := by decide +kernel
theorem dX5_lengthOf_12 : decode cX5_lengthOf 12 = .ok (.iload_n 1, 1) := by decide +kernel
theorem dX5_lengthOf_13 : decode cX5_lengthOf 13 = .ok (.iaload, 1) := by decide +kernel
theorem dX5_lengthOf_14 : decode cX5_lengthOf 14 = .ok (.goto 4, 3) := by decide +kernel
theorem dX5_lengthOf_17 : decode cX5_lengthOf 17 = .ok (.iconst 0, 1) := by decide +kernel
theorem dX5_lengthOf_18 : decode cX5_lengthOf 18 = .ok (.ireturn, 1) := by decide +kernel
set_option maxRecDepth 20000 in
theorem ggX5_byteAt_X5_lengthOf : GoodIn wsX5_byteAt wsX5_lengthOf := goodIn_r _ [6, 7, 8, 9, 10, 5, 11, 12, 13, 14, 15] rfl (by decide +kernel)
set_option maxRecDepth 20000 in
theorem gX5_byteAt_X5_lengthOf : GoodIn wsX5_byteAt (wsV RX5 52 RX5 yX5_lengthOf wsX5_lengthOf) := goodIn_app (goodIn_of _ (by decide +kernel)) ggX5_byteAt_X5_lengthOf
theorem dX5_byteAt_0 : decode cX5_byteAt 0 = .ok (.iload_n 2, 1) := by decide +kernel
theorem dX5_byteAt_1 : decode cX5_byteAt 1 = .ok (.ifCond .lt 12, 3) := by decide +kernel
theorem dX5_byteAt_4 : decode cX5_byteAt 4 = .ok (.iload_n 2, 1) := by decide +kernel
theorem dX5_byteAt_5 : decode cX5_byteAt 5 = .ok (.aload_n 0, 1) := by decide +kernel
theorem dX5_byteAt_6 : decode cX5_byteAt 6 = .ok (.iload_n 1, 1) := by decide +kernel
theorem dX5_byteAt_7 : decode cX5_byteAt 7 = .ok (.invokevirtual 52, 3) := by decide +kernel
theorem dX5_byteAt_10 : decode cX5_byteAt 10 = .ok (.if_icmp .lt 7, 3) := by decide +kernel
theorem dX5_byteAt_13 : decode cX5_byteAt 13 = .ok (.iconst (-1), 1) := by decide +kernel
theorem dX5_byteAt_14 : decode cX5_byteAt 14 = .ok (.goto 14, 3) := by decide +kernel
theorem dX5_byteAt_17 : decode cX5_byteAt 17 = .ok (.aload_n 0, 1) := by decide +kernel
theorem dX5_byteAt_18 : decode cX5_byteAt 18 = .ok (.getfield 18, 3) := by decide +kernel
theorem dX5_byteAt_21 : decode cX5_byteAt 21 = .ok (.iload_n 1, 1) := by decide +kernel
theorem dX5_byteAt_22 : decode cX5_byteAt 22 = .ok (.bipush 24, 2) := by decide +kernel
theorem dX5_byteAt_24 : decode cX5_byteAt 24 = .ok (.imul, 1) := by decide +kernel
theorem dX5_byteAt_25 : decode cX5_byteAt 25 = .ok (.iload_n 2, 1) := by decide +kernel
theorem dX5_byteAt_26 : decode cX5_byteAt 26 = .ok (.iadd, 1) := by decide +kernel
theorem dX5_byteAt_27 : decode cX5_byteAt 27 = .ok (.iaload, 1) := by decide +kernel
theorem dX5_byteAt_28 : decode cX5_byteAt 28 = .ok (.ireturn, 1) := by decide +kernel
theorem dX6_init_0 : decode cX6_init 0 = .ok (.aload_n 0, 1) := by decide +kernel
theorem dX6_init_1 : decode cX6_init 1 = .ok (.invokespecial 3, 3) := by decide +kernel
theorem dX6_init_4 : decode cX6_init 4 = .ok (.aload_n 0, 1) := by decide +kernel
theorem dX6_init_5 : decode cX6_init 5 = .ok (.aload_n 1, 1) := by decide +kernel
theorem dX6_init_6 : decode cX6_init 6 = .ok (.putfield 9, 3) := by decide +kernel
theorem dX6_init_9 : decode cX6_init 9 = .ok (.aload_n 0, 1) := by decide +kernel
theorem dX6_init_10 : decode cX6_init 10 = .ok (.bipush 8, 2) := by decide +kernel
theorem dX6_init_12 : decode cX6_init 12 = .ok (.newarray .int, 2) := by decide +kernel
theorem dX6_init_14 : decode cX6_init 14 = .ok (.putfield 15, 3) := by decide +kernel
theorem dX6_init_17 : decode cX6_init 17 = .ok (.aload_n 0, 1) := by decide +kernel
theorem dX6_init_18 : decode cX6_init 18 = .ok (.iconst 3, 1) := by decide +kernel
theorem dX6_init_19 : decode cX6_init 19 = .ok (.newarray .int, 2) := by decide +kernel
theorem dX6_init_21 : decode cX6_init 21 = .ok (.dup, 1) := by decide +kernel
theorem dX6_init_22 : decode cX6_init 22 = .ok (.iconst 0, 1) := by decide +kernel
theorem dX6_init_23 : decode cX6_init 23 = .ok (.bipush 20, 2) := by decide +kernel
theorem dX6_init_25 : decode cX6_init 25 = .ok (.iastore, 1) := by decide +kernel
theorem dX6_init_26 : decode cX6_init 26 = .ok (.dup, 1) := by decide +kernel
theorem dX6_init_27 : decode cX6_init 27 = .ok (.iconst 1, 1) := by decide +kernel
theorem dX6_init_28 : decode cX6_init 28 = .ok (.bipush 10, 2) := by decide +kernel
theorem dX6_init_30 : decode cX6_init 30 = .ok (.iastore, 1) := by decide +kernel
theorem dX6_init_31 : decode cX6_init 31 = .ok (.dup, 1) := by decide +kernel
theorem dX6_init_32 : decode cX6_init 32 = .ok (.iconst 2, 1) := by decide +kernel
theorem dX6_init_33 : decode cX6_init 33 = .ok (.iconst 5, 1) := by decide +kernel
theorem dX6_init_34 : decode cX6_init 34 = .ok (.iastore, 1) := by decide +kernel
theorem dX6_init_35 : decode cX6_init 35 = .ok (.putfield 19, 3) := by decide +kernel
theorem dX6_init_38 : decode cX6_init 38 = .ok (.aload_n 0, 1) := by decide +kernel
theorem dX6_init_39 : decode cX6_init 39 = .ok (.sipush 240, 3) := by decide +kernel
theorem dX6_init_42 : decode cX6_init 42 = .ok (.newarray .int, 2) := by decide +kernel
theorem dX6_init_44 : decode cX6_init 44 = .ok (.putfield 22, 3) := by decide +kernel
theorem dX6_init_47 : decode cX6_init 47 = .ok (.aload_n 0, 1) := by decide +kernel
theorem dX6_init_48 : decode cX6_init 48 = .ok (.sipush 240, 3) := by decide +kernel
theorem dX6_init_51 : decode cX6_init 51 = .ok (.newarray .int, 2) := by decide +kernel
theorem dX6_init_53 : decode cX6_init 53 = .ok (.putfield 25, 3) := by decide +kernel
theorem dX6_init_56 : decode cX6_init 56 = .ok (.aload_n 0, 1) := by decide +kernel
theorem dX6_init_57 : decode cX6_init 57 = .ok (.bipush 30, 2) := by decide +kernel
theorem dX6_init_59 : decode cX6_init 59 = .ok (.newarray .int, 2) := by decide +kernel
theorem dX6_init_61 : decode cX6_init 61 = .ok (.putfield 28, 3) := by decide +kernel
theorem dX6_init_64 : decode cX6_init 64 = .ok (.aload_n 0, 1) := by decide +kernel
theorem dX6_init_65 : decode cX6_init 65 = .ok (.iconst 0, 1) := by decide +kernel
theorem dX6_init_66 : decode cX6_init 66 = .ok (.putfield 31, 3) := by decide +kernel
theorem dX6_init_69 : decode cX6_init 69 = .ok (.aload_n 0, 1) := by decide +kernel
theorem dX6_init_70 : decode cX6_init 70 = .ok (.iconst 0, 1) := by decide +kernel
theorem dX6_init_71 : decode cX6_init 71 = .ok (.putfield 35, 3) := by decide +kernel
theorem dX6_init_74 : decode cX6_init 74 = .ok (.return_, 1) := by decide +kernel
theorem dX6_setCost_0 : decode cX6_setCost 0 = .ok (.iload_n 1, 1) := by decide +kernel
theorem dX6_setCost_1 : decode cX6_setCost 1 = .ok (.ifCond .lt 19, 3) := by decide +kernel
theorem dX6_setCost_4 : decode cX6_setCost 4 = .ok (.iload_n 1, 1) := by decide +kernel
theorem dX6_setCost_5 : decode cX6_setCost 5 = .ok (.aload_n 0, 1) := by decide +kernel
theorem dX6_setCost_6 : decode cX6_setCost 6 = .ok (.getfield 15, 3) := by decide +kernel
theorem dX6_setCost_9 : decode cX6_setCost 9 = .ok (.arraylength, 1) := by decide +kernel
theorem dX6_setCost_10 : decode cX6_setCost 10 = .ok (.if_icmp .ge 10, 3) := by decide +kernel
theorem dX6_setCost_13 : decode cX6_setCost 13 = .ok (.aload_n 0, 1) := by decide +kernel
theorem dX6_setCost_14 : decode cX6_setCost 14 = .ok (.getfield 15, 3) := by decide +kernel
theorem dX6_setCost_17 : decode cX6_setCost 17 = .ok (.iload_n 1, 1) := by decide +kernel
theorem dX6_setCost_18 : decode cX6_setCost 18 = .ok (.iload_n 2, 1) := by decide +kernel
theorem dX6_setCost_19 : decode cX6_setCost 19 = .ok (.iastore, 1) := by decide +kernel
theorem dX6_setCost_20 : decode cX6_setCost 20 = .ok (.return_, 1) := by decide +kernel
theorem dX6_setPrice_0 : decode cX6_setPrice 0 = .ok (.iload_n 1, 1) := by decide +kernel
theorem dX6_setPrice_1 : decode cX6_setPrice 1 = .ok (.ifCond .lt 12, 3) := by decide +kernel
theorem dX6_setPrice_4 : decode cX6_setPrice 4 = .ok (.iload_n 1, 1) := by decide +kernel
theorem dX6_setPrice_5 : decode cX6_setPrice 5 = .ok (.aload_n 0, 1) := by decide +kernel
theorem dX6_setPrice_6 : decode cX6_setPrice 6 = .ok (.getfield 19, 3) := by decide +kernel
theorem dX6_setPrice_9 : decode cX6_setPrice 9 = .ok (.arraylength, 1) := by decide +kernel
theorem dX6_setPrice_10 : decode cX6_setPrice 10 = .ok (.if_icmp .lt 5, 3) := by decide +kernel
theorem dX6_setPrice_13 : decode cX6_setPrice 13 = .ok (.iconst 0, 1) := by decide +kernel
theorem dX6_setPrice_14 : decode cX6_setPrice 14 = .ok (.ireturn, 1) := by decide +kernel
theorem dX6_setPrice_15 : decode cX6_setPrice 15 = .ok (.aload_n 0, 1) := by decide +kernel
theorem dX6_setPrice_16 : decode cX6_setPrice 16 = .ok (.getfield 19, 3) := by decide +kernel
theorem dX6_setPrice_19 : decode cX6_setPrice 19 = .ok (.iload_n 1, 1) := by decide +kernel
theorem dX6_setPrice_20 : decode cX6_setPrice 20 = .ok (.iload_n 2, 1) := by decide +kernel
theorem dX6_setPrice_21 : decode cX6_setPrice 21 = .ok (.iastore, 1) := by decide +kernel
theorem dX6_setPrice_22 : decode cX6_setPrice 22 = .ok (.iconst 1, 1) := by decide +kernel
theorem dX6_setPrice_23 : decode cX6_setPrice 23 = .ok (.ireturn, 1) := by decide +kernel
set_option maxRecDepth 20000 in
theorem ggX6_settle_X6_addUpAhead : GoodIn wsX6_settle wsX6_addUpAhead := goodIn_r _ [15, 9, 16, 17, 1, 2, 3, 4, 18, 19, 20, 14, 21, 22, 23, 24, 25, 26, 27, 28, 29, 30, 31, 32, 33, 34, 35, 36, 37, 38, 48, 49, 50, 51, 52, 53, 54, 55, 56, 57, 58, 59, 60, 61, 62] rfl (by decide +kernel)
set_option maxRecDepth 20000 in
theorem gX6_settle_X6_addUpAhead : GoodIn wsX6_settle (wsV RX6 47 RX6 yX6_addUpAhead wsX6_addUpAhead) := goodIn_app (goodIn_of _ (by decide +kernel)) ggX6_settle_X6_addUpAhead
set_option maxRecDepth 20000 in
theorem ggX6_settle_X6_addUpBehind : GoodIn wsX6_settle wsX6_addUpBehind := goodIn_r _ [42, 9, 8, 43, 1, 2, 3, 4, 31, 32, 33, 14, 34, 23, 16, 18, 19, 20, 21, 22, 24, 25, 26, 27, 28, 29, 30, 35, 36, 37, 38, 48, 49, 50, 51, 52, 53, 54, 55, 56, 57, 58, 59, 60, 61, 62] rfl (by decide +kernel)
set_option maxRecDepth 20000 in
theorem gX6_settle_X6_addUpBehind : GoodIn wsX6_settle (wsV RX6 51 RX6 yX6_addUpBehind wsX6_addUpBehind) := goodIn_app (goodIn_of _ (by decide +kernel)) ggX6_settle_X6_addUpBehind
set_option maxRecDepth 20000 in
theorem ggX6_settle_X6_cheapestStyle : GoodIn wsX6_settle wsX6_cheapestStyle := goodIn_r _ [47, 9, 16, 10, 43, 18, 19, 20, 14, 21, 22, 23, 24, 25, 26, 27, 28, 29, 30, 31, 32, 33, 34, 35, 36, 37, 38, 48, 49, 50, 51, 52, 53, 54, 55, 56, 57, 58, 59, 60, 61, 62] rfl (by decide +kernel)
set_option maxRecDepth 20000 in
theorem gX6_settle_X6_cheapestStyle : GoodIn wsX6_settle (wsV RX6 54 RX6 yX6_cheapestStyle wsX6_cheapestStyle) := goodIn_app (goodIn_of _ (by decide +kernel)) ggX6_settle_X6_cheapestStyle
theorem dX6_settle_0 : decode cX6_settle 0 = .ok (.aload_n 0, 1) := by decide +kernel
theorem dX6_settle_1 : decode cX6_settle 1 = .ok (.iconst 0, 1) := by decide +kernel
theorem dX6_settle_2 : decode cX6_settle 2 = .ok (.iload_n 1, 1) := by decide +kernel
theorem dX6_settle_3 : decode cX6_settle 3 = .ok (.bipush 30, 2) := by decide +kernel
theorem dX6_settle_5 : decode cX6_settle 5 = .ok (.invokestatic 38, 3) := by decide +kernel
theorem dX6_settle_8 : decode cX6_settle 8 = .ok (.invokestatic 44, 3) := by decide +kernel
theorem dX6_settle_11 : decode cX6_settle 11 = .ok (.putfield 31, 3) := by decide +kernel
theorem dX6_settle_14 : decode cX6_settle 14 = .ok (.aload_n 0, 1) := by decide +kernel
theorem dX6_settle_15 : decode cX6_settle 15 = .ok (.iconst 0, 1) := by decide +kernel
theorem dX6_settle_16 : decode cX6_settle 16 = .ok (.iload_n 2, 1) := by decide +kernel
theorem dX6_settle_17 : decode cX6_settle 17 = .ok (.bipush 8, 2) := by decide +kernel
theorem dX6_settle_19 : decode cX6_settle 19 = .ok (.invokestatic 38, 3) := by decide +kernel
theorem dX6_settle_22 : decode cX6_settle 22 = .ok (.invokestatic 44, 3) := by decide +kernel
theorem dX6_settle_25 : decode cX6_settle 25 = .ok (.putfield 35, 3) := by decide +kernel
theorem dX6_settle_28 : decode cX6_settle 28 = .ok (.iconst 0, 1) := by decide +kernel
theorem dX6_settle_29 : decode cX6_settle 29 = .ok (.istore_n 3, 1) := by decide +kernel
theorem dX6_settle_30 : decode cX6_settle 30 = .ok (.iload_n 3, 1) := by decide +kernel
theorem dX6_settle_31 : decode cX6_settle 31 = .ok (.aload_n 0, 1) := by decide +kernel
theorem dX6_settle_32 : decode cX6_settle 32 = .ok (.getfield 31, 3) := by decide +kernel
theorem dX6_settle_35 : decode cX6_settle 35 = .ok (.if_icmp .ge 14, 3) := by decide +kernel
theorem dX6_settle_38 : decode cX6_settle 38 = .ok (.aload_n 0, 1) := by decide +kernel
theorem dX6_settle_39 : decode cX6_settle 39 = .ok (.iload_n 3, 1) := by decide +kernel
theorem dX6_settle_40 : decode cX6_settle 40 = .ok (.invokevirtual 47, 3) := by decide +kernel
theorem dX6_settle_43 : decode cX6_settle 43 = .ok (.iinc 3 1, 3) := by decide +kernel
theorem dX6_settle_46 : decode cX6_settle 46 = .ok (.goto (-16), 3) := by decide +kernel
theorem dX6_settle_49 : decode cX6_settle 49 = .ok (.aload_n 0, 1) := by decide +kernel
theorem dX6_settle_50 : decode cX6_settle 50 = .ok (.getfield 31, 3) := by decide +kernel
theorem dX6_settle_53 : decode cX6_settle 53 = .ok (.iconst 1, 1) := by decide +kernel
theorem dX6_settle_54 : decode cX6_settle 54 = .ok (.isub, 1) := by decide +kernel
theorem dX6_settle_55 : decode cX6_settle 55 = .ok (.istore_n 3, 1) := by decide +kernel
theorem dX6_settle_56 : decode cX6_settle 56 = .ok (.iload_n 3, 1) := by decide +kernel
theorem dX6_settle_57 : decode cX6_settle 57 = .ok (.ifCond .lt 14, 3) := by decide +kernel
theorem dX6_settle_60 : decode cX6_settle 60 = .ok (.aload_n 0, 1) := by decide +kernel
theorem dX6_settle_61 : decode cX6_settle 61 = .ok (.iload_n 3, 1) := by decide +kernel
theorem dX6_settle_62 : decode cX6_settle 62 = .ok (.invokevirtual 51, 3) := by decide +kernel
theorem dX6_settle_65 : decode cX6_settle 65 = .ok (.iinc 3 (-1), 3) := by decide +kernel
theorem dX6_settle_68 : decode cX6_settle 68 = .ok (.goto (-12), 3) := by decide +kernel
theorem dX6_settle_71 : decode cX6_settle 71 = .ok (.iconst 0, 1) := by decide +kernel
theorem dX6_settle_72 : decode cX6_settle 72 = .ok (.istore_n 3, 1) := by decide +kernel
theorem dX6_settle_73 : decode cX6_settle 73 = .ok (.iload_n 3, 1) := by decide +kernel
theorem dX6_settle_74 : decode cX6_settle 74 = .ok (.aload_n 0, 1) := by decide +kernel
theorem dX6_settle_75 : decode cX6_settle 75 = .ok (.getfield 31, 3) := by decide +kernel
theorem dX6_settle_78 : decode cX6_settle 78 = .ok (.if_icmp .ge 20, 3) := by decide +kernel
theorem dX6_settle_81 : decode cX6_settle 81 = .ok (.aload_n 0, 1) := by decide +kernel
theorem dX6_settle_82 : decode cX6_settle 82 = .ok (.getfield 28, 3) := by decide +kernel
theorem dX6_settle_85 : decode cX6_settle 85 = .ok (.iload_n 3, 1) := by decide +kernel
theorem dX6_settle_86 : decode cX6_settle 86 = .ok (.aload_n 0, 1) := by decide +kernel
theorem dX6_settle_87 : decode cX6_settle 87 = .ok (.iload_n 3, 1) := by decide +kernel
theorem dX6_settle_88 : decode cX6_settle 88 = .ok (.invokevirtual 54, 3) := by decide +kernel
theorem dX6_settle_91 : decode cX6_settle 91 = .ok (.iastore, 1) := by decide +kernel
theorem dX6_settle_92 : decode cX6_settle 92 = .ok (.iinc 3 1, 3) := by decide +kernel
theorem dX6_settle_95 : decode cX6_settle 95 = .ok (.goto (-22), 3) := by decide +kernel
theorem dX6_settle_98 : decode cX6_settle 98 = .ok (.return_, 1) := by decide +kernel
theorem dX6_styleOf_0 : decode cX6_styleOf 0 = .ok (.iload_n 1, 1) := by decide +kernel
theorem dX6_styleOf_1 : decode cX6_styleOf 1 = .ok (.ifCond .lt 11, 3) := by decide +kernel
theorem dX6_styleOf_4 : decode cX6_styleOf 4 = .ok (.iload_n 1, 1) := by decide +kernel
theorem dX6_styleOf_5 : decode cX6_styleOf 5 = .ok (.aload_n 0, 1) := by decide +kernel
theorem dX6_styleOf_6 : decode cX6_styleOf 6 = .ok (.getfield 31, 3) := by decide +kernel
theorem dX6_styleOf_9 : decode cX6_styleOf 9 = .ok (.if_icmp .lt 7, 3) := by decide +kernel
theorem dX6_styleOf_12 : decode cX6_styleOf 12 = .ok (.iconst (-1), 1) := by decide +kernel
theorem dX6_styleOf_13 : decode cX6_styleOf 13 = .ok (.goto 9, 3) := by decide +kernel
theorem dX6_styleOf_16 : decode cX6_styleOf 16 = .ok (.aload_n 0, 1) := by decide +kernel
theorem dX6_styleOf_17 : decode cX6_styleOf 17 = .ok (.getfield 28, 3) := by decide +kernel
theorem dX6_styleOf_20 : decode cX6_styleOf 20 = .ok (.iload_n 1, 1) := by decide +kernel
theorem dX6_styleOf_21 : decode cX6_styleOf 21 = .ok (.iaload, 1) := by decide +kernel
theorem dX6_styleOf_22 : decode cX6_styleOf 22 = .ok (.ireturn, 1) := by decide +kernel
set_option maxRecDepth 20000 in
theorem ggX6_leastCost_X6_styleOf : GoodIn wsX6_leastCost wsX6_styleOf := goodIn_r _ [5, 6, 7, 15, 16, 17, 18, 19, 20, 21, 22] rfl (by decide +kernel)
set_option maxRecDepth 20000 in
theorem gX6_leastCost_X6_styleOf : GoodIn wsX6_leastCost (wsV RX6 58 RX6 yX6_styleOf wsX6_styleOf) := goodIn_app (goodIn_of _ (by decide +kernel)) ggX6_leastCost_X6_styleOf
set_option maxRecDepth 20000 in
theorem ggX6_leastCost_X6_through : GoodIn wsX6_leastCost wsX6_through := goodIn_r _ [11, 6, 12, 13, 14, 15, 16, 17, 18, 19, 20, 21, 22] rfl (by decide +kernel)
set_option maxRecDepth 20000 in
theorem gX6_leastCost_X6_through : GoodIn wsX6_leastCost (wsV RX6 61 RX6 yX6_through wsX6_through) := goodIn_app (goodIn_of _ (by decide +kernel)) ggX6_leastCost_X6_through
theorem dX6_leastCost_0 : decode cX6_leastCost 0 = .ok (.aload_n 0, 1) := by decide +kernel
theorem dX6_leastCost_1 : decode cX6_leastCost 1 = .ok (.iconst 0, 1) := by decide +kernel
theorem dX6_leastCost_2 : decode cX6_leastCost 2 = .ok (.aload_n 0, 1) := by decide +kernel
theorem dX6_leastCost_3 : decode cX6_leastCost 3 = .ok (.iconst 0, 1) := by decide +kernel
theorem dX6_leastCost_4 : decode cX6_leastCost 4 = .ok (.invokevirtual 58, 3) := by decide +kernel
theorem dX6_leastCost_7 : decode cX6_leastCost 7 = .ok (.invokevirtual 61, 3) := by decide +kernel
theorem dX6_leastCost_10 : decode cX6_leastCost 10 = .ok (.ireturn, 1) := by decide +kernel
set_option maxRecDepth 20000 in
theorem ggX6_leastOtherwise_X6_styleOf : GoodIn wsX6_leastOtherwise wsX6_styleOf := goodIn_r _ [11, 12, 13, 31, 32, 33, 34, 35, 36, 37, 38] rfl (by decide +kernel)
set_option maxRecDepth 20000 in
theorem gX6_leastOtherwise_X6_styleOf : GoodIn wsX6_leastOtherwise (wsV RX6 58 RX6 yX6_styleOf wsX6_styleOf) := goodIn_app (goodIn_of _ (by decide +kernel)) ggX6_leastOtherwise_X6_styleOf
set_option maxRecDepth 20000 in
theorem ggX6_leastOtherwise_X3_isAlike : GoodIn wsX6_leastOtherwise wsX3_isAlike := goodIn_r _ [18, 19, 20, 21, 17, 22, 23, 24, 39, 40, 41, 42, 43, 44, 45] rfl (by decide +kernel)
set_option maxRecDepth 20000 in
theorem gX6_leastOtherwise_X3_isAlike : GoodIn wsX6_leastOtherwise (wsV RX6 64 RX3 yX3_isAlike wsX3_isAlike) := goodIn_app (goodIn_of _ (by decide +kernel)) ggX6_leastOtherwise_X3_isAlike
set_option maxRecDepth 20000 in
theorem ggX6_leastOtherwise_X6_through : GoodIn wsX6_leastOtherwise wsX6_through := goodIn_r _ [28, 12, 1, 29, 30, 31, 32, 33, 34, 35, 36, 37, 38] rfl (by decide +kernel)
set_option maxRecDepth 20000 in
theorem gX6_leastOtherwise_X6_through : GoodIn wsX6_leastOtherwise (wsV RX6 61 RX6 yX6_through wsX6_through) := goodIn_app (goodIn_of _ (by decide +kernel)) ggX6_leastOtherwise_X6_through
theorem dX6_leastOtherwise_0 : decode cX6_leastOtherwise 0 = .ok (.aload_n 0, 1) := by decide +kernel
theorem dX6_leastOtherwise_1 : decode cX6_leastOtherwise 1 = .ok (.iload_n 1, 1) := by decide +kernel
theorem dX6_leastOtherwise_2 : decode cX6_leastOtherwise 2 = .ok (.invokevirtual 58, 3) := by decide +kernel
theorem dX6_leastOtherwise_5 : decode cX6_leastOtherwise 5 = .ok (.istore_n 2, 1) := by decide +kernel
theorem dX6_leastOtherwise_6 : decode cX6_leastOtherwise 6 = .ok (.iconst (-1), 1) := by decide +kernel
theorem dX6_leastOtherwise_7 : decode cX6_leastOtherwise 7 = .ok (.istore_n 3, 1) := by decide +kernel
theorem dX6_leastOtherwise_8 : decode cX6_leastOtherwise 8 = .ok (.iconst 0, 1) := by decide +kernel
theorem dX6_leastOtherwise_9 : decode cX6_leastOtherwise 9 = .ok (.istore 4, 2) := by decide +kernel
theorem dX6_leastOtherwise_11 : decode cX6_leastOtherwise 11 = .ok (.iload 4, 2) := by decide +kernel
theorem dX6_leastOtherwise_13 : decode cX6_leastOtherwise 13 = .ok (.aload_n 0, 1) := by decide +kernel
theorem dX6_leastOtherwise_14 : decode cX6_leastOtherwise 14 = .ok (.getfield 35, 3) := by decide +kernel
theorem dX6_leastOtherwise_17 : decode cX6_leastOtherwise 17 = .ok (.if_icmp .ge 49, 3) := by decide +kernel
theorem dX6_leastOtherwise_20 : decode cX6_leastOtherwise 20 = .ok (.aload_n 0, 1) := by decide +kernel
theorem dX6_leastOtherwise_21 : decode cX6_leastOtherwise 21 = .ok (.getfield 9, 3) := by decide +kernel
theorem dX6_leastOtherwise_24 : decode cX6_leastOtherwise 24 = .ok (.iload_n 1, 1) := by decide +kernel
theorem dX6_leastOtherwise_25 : decode cX6_leastOtherwise 25 = .ok (.iload_n 2, 1) := by decide +kernel
theorem dX6_leastOtherwise_26 : decode cX6_leastOtherwise 26 = .ok (.iload 4, 2) := by decide +kernel
theorem dX6_leastOtherwise_28 : decode cX6_leastOtherwise 28 = .ok (.invokevirtual 64, 3) := by decide +kernel
theorem dX6_leastOtherwise_31 : decode cX6_leastOtherwise 31 = .ok (.ifCond .ne 29, 3) := by decide +kernel
theorem dX6_leastOtherwise_34 : decode cX6_leastOtherwise 34 = .ok (.aload_n 0, 1) := by decide +kernel
theorem dX6_leastOtherwise_35 : decode cX6_leastOtherwise 35 = .ok (.iload_n 1, 1) := by decide +kernel
theorem dX6_leastOtherwise_36 : decode cX6_leastOtherwise 36 = .ok (.iload 4, 2) := by decide +kernel
theorem dX6_leastOtherwise_38 : decode cX6_leastOtherwise 38 = .ok (.invokevirtual 61, 3) := by decide +kernel
theorem dX6_leastOtherwise_41 : decode cX6_leastOtherwise 41 = .ok (.istore 5, 2) := by decide +kernel
theorem dX6_leastOtherwise_43 : decode cX6_leastOtherwise 43 = .ok (.iload_n 3, 1) := by decide +kernel
theorem dX6_leastOtherwise_44 : decode cX6_leastOtherwise 44 = .ok (.iconst (-1), 1) := by decide +kernel
theorem dX6_leastOtherwise_45 : decode cX6_leastOtherwise 45 = .ok (.if_icmp .ne 8, 3) := by decide +kernel
theorem dX6_leastOtherwise_48 : decode cX6_leastOtherwise 48 = .ok (.iload 5, 2) := by decide +kernel
theorem dX6_leastOtherwise_50 : decode cX6_leastOtherwise 50 = .ok (.goto 9, 3) := by decide +kernel
theorem dX6_leastOtherwise_53 : decode cX6_leastOtherwise 53 = .ok (.iload_n 3, 1) := by decide +kernel
theorem dX6_leastOtherwise_54 : decode cX6_leastOtherwise 54 = .ok (.iload 5, 2) := by decide +kernel
theorem dX6_leastOtherwise_56 : decode cX6_leastOtherwise 56 = .ok (.invokestatic 38, 3) := by decide +kernel
theorem dX6_leastOtherwise_59 : decode cX6_leastOtherwise 59 = .ok (.istore_n 3, 1) := by decide +kernel
theorem dX6_leastOtherwise_60 : decode cX6_leastOtherwise 60 = .ok (.iinc 4 1, 3) := by decide +kernel
theorem dX6_leastOtherwise_63 : decode cX6_leastOtherwise 63 = .ok (.goto (-52), 3) := by decide +kernel
theorem dX6_leastOtherwise_66 : decode cX6_leastOtherwise 66 = .ok (.iload_n 3, 1) := by decide +kernel
theorem dX6_leastOtherwise_67 : decode cX6_leastOtherwise 67 = .ok (.ireturn, 1) := by decide +kernel
theorem dX6_through_0 : decode cX6_through 0 = .ok (.iload_n 1, 1) := by decide +kernel
theorem dX6_through_1 : decode cX6_through 1 = .ok (.ifCond .lt 23, 3) := by decide +kernel
theorem dX6_through_4 : decode cX6_through 4 = .ok (.iload_n 1, 1) := by decide +kernel
theorem dX6_through_5 : decode cX6_through 5 = .ok (.aload_n 0, 1) := by decide +kernel
theorem dX6_through_6 : decode cX6_through 6 = .ok (.getfield 31, 3) := by decide +kernel
theorem dX6_through_9 : decode cX6_through 9 = .ok (.if_icmp .ge 15, 3) := by decide +kernel
theorem dX6_through_12 : decode cX6_through 12 = .ok (.iload_n 2, 1) := by decide +kernel
theorem dX6_through_13 : decode cX6_through 13 = .ok (.ifCond .lt 11, 3) := by decide +kernel
theorem dX6_through_16 : decode cX6_through 16 = .ok (.iload_n 2, 1) := by decide +kernel
theorem dX6_through_17 : decode cX6_through 17 = .ok (.aload_n 0, 1) := by decide +kernel
theorem dX6_through_18 : decode cX6_through 18 = .ok (.getfield 35, 3) := by decide +kernel
theorem dX6_through_21 : decode cX6_through 21 = .ok (.if_icmp .lt 5, 3) := by decide +kernel
theorem dX6_through_24 : decode cX6_through 24 = .ok (.iconst (-1), 1) := by decide +kernel
theorem dX6_through_25 : decode cX6_through 25 = .ok (.ireturn, 1) := by decide +kernel
theorem dX6_through_26 : decode cX6_through 26 = .ok (.aload_n 0, 1) := by decide +kernel
theorem dX6_through_27 : decode cX6_through 27 = .ok (.getfield 22, 3) := by decide +kernel
theorem dX6_through_30 : decode cX6_through 30 = .ok (.iload_n 1, 1) := by decide +kernel
theorem dX6_through_31 : decode cX6_through 31 = .ok (.bipush 8, 2) := by decide +kernel
theorem dX6_through_33 : decode cX6_through 33 = .ok (.imul, 1) := by decide +kernel
theorem dX6_through_34 : decode cX6_through 34 = .ok (.iload_n 2, 1) := by decide +kernel
theorem dX6_through_35 : decode cX6_through 35 = .ok (.iadd, 1) := by decide +kernel
theorem dX6_through_36 : decode cX6_through 36 = .ok (.iaload, 1) := by decide +kernel
theorem dX6_through_37 : decode cX6_through 37 = .ok (.aload_n 0, 1) := by decide +kernel
theorem dX6_through_38 : decode cX6_through 38 = .ok (.getfield 25, 3) := by decide +kernel
theorem dX6_through_41 : decode cX6_through 41 = .ok (.iload_n 1, 1) := by decide +kernel
theorem dX6_through_42 : decode cX6_through 42 = .ok (.bipush 8, 2) := by decide +kernel
theorem dX6_through_44 : decode cX6_through 44 = .ok (.imul, 1) := by decide +kernel
theorem dX6_through_45 : decode cX6_through 45 = .ok (.iload_n 2, 1) := by decide +kernel
theorem dX6_through_46 : decode cX6_through 46 = .ok (.iadd, 1) := by decide +kernel
theorem dX6_through_47 : decode cX6_through 47 = .ok (.iaload, 1) := by decide +kernel
theorem dX6_through_48 : decode cX6_through 48 = .ok (.iadd, 1) := by decide +kernel
theorem dX6_through_49 : decode cX6_through 49 = .ok (.ireturn, 1) := by decide +kernel
set_option maxRecDepth 20000 in
theorem ggX6_addUpAhead_X6_missOf : GoodIn wsX6_addUpAhead wsX6_missOf := goodIn_r _ [12, 13, 14, 15, 16, 17, 18, 19, 20, 21, 30, 31, 32, 33, 34, 35, 36, 37, 38, 39, 40, 41, 42, 43, 44] rfl (by decide +kernel)
set_option maxRecDepth 20000 in
theorem gX6_addUpAhead_X6_missOf : GoodIn wsX6_addUpAhead (wsV RX6 70 RX6 yX6_missOf wsX6_missOf) := goodIn_app (goodIn_of _ (by decide +kernel)) ggX6_addUpAhead_X6_missOf
set_option maxRecDepth 20000 in
theorem ggX6_addUpAhead_X6_step : GoodIn wsX6_addUpAhead wsX6_step := goodIn_r _ [25, 14, 2, 8, 9, 10, 11, 12, 13, 15, 16, 17, 18, 19, 20, 21, 26, 27, 28, 29, 30, 31, 32, 33, 34, 35, 36, 37, 38, 39, 40, 41, 42, 43, 44] rfl (by decide +kernel)
set_option maxRecDepth 20000 in
theorem gX6_addUpAhead_X6_step : GoodIn wsX6_addUpAhead (wsV RX6 73 RX6 yX6_step wsX6_step) := goodIn_app (goodIn_of _ (by decide +kernel)) ggX6_addUpAhead_X6_step
theorem dX6_addUpAhead_0 : decode cX6_addUpAhead 0 = .ok (.iconst 0, 1) := by decide +kernel
theorem dX6_addUpAhead_1 : decode cX6_addUpAhead 1 = .ok (.istore_n 2, 1) := by decide +kernel
theorem dX6_addUpAhead_2 : decode cX6_addUpAhead 2 = .ok (.iload_n 2, 1) := by decide +kernel
theorem dX6_addUpAhead_3 : decode cX6_addUpAhead 3 = .ok (.aload_n 0, 1) := by decide +kernel
theorem dX6_addUpAhead_4 : decode cX6_addUpAhead 4 = .ok (.getfield 35, 3) := by decide +kernel
theorem dX6_addUpAhead_7 : decode cX6_addUpAhead 7 = .ok (.if_icmp .ge 107, 3) := by decide +kernel
theorem dX6_addUpAhead_10 : decode cX6_addUpAhead 10 = .ok (.iload_n 1, 1) := by decide +kernel
theorem dX6_addUpAhead_11 : decode cX6_addUpAhead 11 = .ok (.ifCond .ne 19, 3) := by decide +kernel
theorem dX6_addUpAhead_14 : decode cX6_addUpAhead 14 = .ok (.aload_n 0, 1) := by decide +kernel
theorem dX6_addUpAhead_15 : decode cX6_addUpAhead 15 = .ok (.getfield 15, 3) := by decide +kernel
theorem dX6_addUpAhead_18 : decode cX6_addUpAhead 18 = .ok (.iload_n 2, 1) := by decide +kernel
theorem dX6_addUpAhead_19 : decode cX6_addUpAhead 19 = .ok (.iaload, 1) := by decide +kernel
theorem dX6_addUpAhead_20 : decode cX6_addUpAhead 20 = .ok (.aload_n 0, 1) := by decide +kernel
theorem dX6_addUpAhead_21 : decode cX6_addUpAhead 21 = .ok (.iload_n 1, 1) := by decide +kernel
theorem dX6_addUpAhead_22 : decode cX6_addUpAhead 22 = .ok (.iload_n 2, 1) := by decide +kernel
theorem dX6_addUpAhead_23 : decode cX6_addUpAhead 23 = .ok (.invokevirtual 70, 3) := by decide +kernel
theorem dX6_addUpAhead_26 : decode cX6_addUpAhead 26 = .ok (.iadd, 1) := by decide +kernel
theorem dX6_addUpAhead_27 : decode cX6_addUpAhead 27 = .ok (.goto 4, 3) := by decide +kernel
theorem dX6_addUpAhead_30 : decode cX6_addUpAhead 30 = .ok (.iconst (-1), 1) := by decide +kernel
theorem dX6_addUpAhead_31 : decode cX6_addUpAhead 31 = .ok (.istore_n 3, 1) := by decide +kernel
theorem dX6_addUpAhead_32 : decode cX6_addUpAhead 32 = .ok (.iconst 0, 1) := by decide +kernel
theorem dX6_addUpAhead_33 : decode cX6_addUpAhead 33 = .ok (.istore 4, 2) := by decide +kernel
theorem dX6_addUpAhead_35 : decode cX6_addUpAhead 35 = .ok (.iload 4, 2) := by decide +kernel
theorem dX6_addUpAhead_37 : decode cX6_addUpAhead 37 = .ok (.aload_n 0, 1) := by decide +kernel
theorem dX6_addUpAhead_38 : decode cX6_addUpAhead 38 = .ok (.getfield 35, 3) := by decide +kernel
theorem dX6_addUpAhead_41 : decode cX6_addUpAhead 41 = .ok (.if_icmp .ge 55, 3) := by decide +kernel
theorem dX6_addUpAhead_44 : decode cX6_addUpAhead 44 = .ok (.iload_n 1, 1) := by decide +kernel
theorem dX6_addUpAhead_45 : decode cX6_addUpAhead 45 = .ok (.ifCond .le 51, 3) := by decide +kernel
theorem dX6_addUpAhead_48 : decode cX6_addUpAhead 48 = .ok (.aload_n 0, 1) := by decide +kernel
theorem dX6_addUpAhead_49 : decode cX6_addUpAhead 49 = .ok (.getfield 22, 3) := by decide +kernel
theorem dX6_addUpAhead_52 : decode cX6_addUpAhead 52 = .ok (.iload_n 1, 1) := by decide +kernel
theorem dX6_addUpAhead_53 : decode cX6_addUpAhead 53 = .ok (.iconst 1, 1) := by decide +kernel
theorem dX6_addUpAhead_54 : decode cX6_addUpAhead 54 = .ok (.isub, 1) := by decide +kernel
theorem dX6_addUpAhead_55 : decode cX6_addUpAhead 55 = .ok (.bipush 8, 2) := by decide +kernel
theorem dX6_addUpAhead_57 : decode cX6_addUpAhead 57 = .ok (.imul, 1) := by decide +kernel
theorem dX6_addUpAhead_58 : decode cX6_addUpAhead 58 = .ok (.iload 4, 2) := by decide +kernel
theorem dX6_addUpAhead_60 : decode cX6_addUpAhead 60 = .ok (.iadd, 1) := by decide +kernel
theorem dX6_addUpAhead_61 : decode cX6_addUpAhead 61 = .ok (.iaload, 1) := by decide +kernel
theorem dX6_addUpAhead_62 : decode cX6_addUpAhead 62 = .ok (.aload_n 0, 1) := by decide +kernel
theorem dX6_addUpAhead_63 : decode cX6_addUpAhead 63 = .ok (.iload_n 1, 1) := by decide +kernel
theorem dX6_addUpAhead_64 : decode cX6_addUpAhead 64 = .ok (.iload 4, 2) := by decide +kernel
theorem dX6_addUpAhead_66 : decode cX6_addUpAhead 66 = .ok (.iload_n 2, 1) := by decide +kernel
theorem dX6_addUpAhead_67 : decode cX6_addUpAhead 67 = .ok (.invokevirtual 73, 3) := by decide +kernel
theorem dX6_addUpAhead_70 : decode cX6_addUpAhead 70 = .ok (.iadd, 1) := by decide +kernel
theorem dX6_addUpAhead_71 : decode cX6_addUpAhead 71 = .ok (.istore 5, 2) := by decide +kernel
theorem dX6_addUpAhead_73 : decode cX6_addUpAhead 73 = .ok (.iload_n 3, 1) := by decide +kernel
theorem dX6_addUpAhead_74 : decode cX6_addUpAhead 74 = .ok (.iconst (-1), 1) := by decide +kernel
theorem dX6_addUpAhead_75 : decode cX6_addUpAhead 75 = .ok (.if_icmp .ne 8, 3) := by decide +kernel
theorem dX6_addUpAhead_78 : decode cX6_addUpAhead 78 = .ok (.iload 5, 2) := by decide +kernel
theorem dX6_addUpAhead_80 : decode cX6_addUpAhead 80 = .ok (.goto 9, 3) := by decide +kernel
theorem dX6_addUpAhead_83 : decode cX6_addUpAhead 83 = .ok (.iload_n 3, 1) := by decide +kernel
theorem dX6_addUpAhead_84 : decode cX6_addUpAhead 84 = .ok (.iload 5, 2) := by decide +kernel
theorem dX6_addUpAhead_86 : decode cX6_addUpAhead 86 = .ok (.invokestatic 38, 3) := by decide +kernel
theorem dX6_addUpAhead_89 : decode cX6_addUpAhead 89 = .ok (.istore_n 3, 1) := by decide +kernel
theorem dX6_addUpAhead_90 : decode cX6_addUpAhead 90 = .ok (.iinc 4 1, 3) := by decide +kernel
theorem dX6_addUpAhead_93 : decode cX6_addUpAhead 93 = .ok (.goto (-58), 3) := by decide +kernel
theorem dX6_addUpAhead_96 : decode cX6_addUpAhead 96 = .ok (.aload_n 0, 1) := by decide +kernel
theorem dX6_addUpAhead_97 : decode cX6_addUpAhead 97 = .ok (.getfield 22, 3) := by decide +kernel
theorem dX6_addUpAhead_100 : decode cX6_addUpAhead 100 = .ok (.iload_n 1, 1) := by decide +kernel
theorem dX6_addUpAhead_101 : decode cX6_addUpAhead 101 = .ok (.bipush 8, 2) := by decide +kernel
theorem dX6_addUpAhead_103 : decode cX6_addUpAhead 103 = .ok (.imul, 1) := by decide +kernel
theorem dX6_addUpAhead_104 : decode cX6_addUpAhead 104 = .ok (.iload_n 2, 1) := by decide +kernel
theorem dX6_addUpAhead_105 : decode cX6_addUpAhead 105 = .ok (.iadd, 1) := by decide +kernel
theorem dX6_addUpAhead_106 : decode cX6_addUpAhead 106 = .ok (.iload_n 3, 1) := by decide +kernel
theorem dX6_addUpAhead_107 : decode cX6_addUpAhead 107 = .ok (.iastore, 1) := by decide +kernel
theorem dX6_addUpAhead_108 : decode cX6_addUpAhead 108 = .ok (.iinc 2 1, 3) := by decide +kernel
theorem dX6_addUpAhead_111 : decode cX6_addUpAhead 111 = .ok (.goto (-109), 3) := by decide +kernel
theorem dX6_addUpAhead_114 : decode cX6_addUpAhead 114 = .ok (.return_, 1) := by decide +kernel
set_option maxRecDepth 20000 in
theorem ggX6_addUpBehind_X6_step : GoodIn wsX6_addUpBehind wsX6_step := goodIn_r _ [12, 13, 14, 15, 16, 17, 11, 18, 19, 20, 21, 22, 23, 24, 25, 26, 27, 28, 29, 30, 31, 32, 33, 34, 35, 36, 37, 38, 39, 40, 41, 42, 43, 44, 45] rfl (by decide +kernel)
set_option maxRecDepth 20000 in
theorem gX6_addUpBehind_X6_step : GoodIn wsX6_addUpBehind (wsV RX6 73 RX6 yX6_step wsX6_step) := goodIn_app (goodIn_of _ (by decide +kernel)) ggX6_addUpBehind_X6_step
theorem dX6_addUpBehind_0 : decode cX6_addUpBehind 0 = .ok (.iconst 0, 1) := by decide +kernel
theorem dX6_addUpBehind_1 : decode cX6_addUpBehind 1 = .ok (.istore_n 2, 1) := by decide +kernel
theorem dX6_addUpBehind_2 : decode cX6_addUpBehind 2 = .ok (.iload_n 2, 1) := by decide +kernel
theorem dX6_addUpBehind_3 : decode cX6_addUpBehind 3 = .ok (.aload_n 0, 1) := by decide +kernel
theorem dX6_addUpBehind_4 : decode cX6_addUpBehind 4 = .ok (.getfield 35, 3) := by decide +kernel
theorem dX6_addUpBehind_7 : decode cX6_addUpBehind 7 = .ok (.if_icmp .ge 109, 3) := by decide +kernel
theorem dX6_addUpBehind_10 : decode cX6_addUpBehind 10 = .ok (.iload_n 1, 1) := by decide +kernel
theorem dX6_addUpBehind_11 : decode cX6_addUpBehind 11 = .ok (.aload_n 0, 1) := by decide +kernel
theorem dX6_addUpBehind_12 : decode cX6_addUpBehind 12 = .ok (.getfield 31, 3) := by decide +kernel
theorem dX6_addUpBehind_15 : decode cX6_addUpBehind 15 = .ok (.iconst 1, 1) := by decide +kernel
theorem dX6_addUpBehind_16 : decode cX6_addUpBehind 16 = .ok (.isub, 1) := by decide +kernel
theorem dX6_addUpBehind_17 : decode cX6_addUpBehind 17 = .ok (.if_icmp .ne 7, 3) := by decide +kernel
theorem dX6_addUpBehind_20 : decode cX6_addUpBehind 20 = .ok (.iconst 0, 1) := by decide +kernel
theorem dX6_addUpBehind_21 : decode cX6_addUpBehind 21 = .ok (.goto 4, 3) := by decide +kernel
theorem dX6_addUpBehind_24 : decode cX6_addUpBehind 24 = .ok (.iconst (-1), 1) := by decide +kernel
theorem dX6_addUpBehind_25 : decode cX6_addUpBehind 25 = .ok (.istore_n 3, 1) := by decide +kernel
theorem dX6_addUpBehind_26 : decode cX6_addUpBehind 26 = .ok (.iconst 0, 1) := by decide +kernel
theorem dX6_addUpBehind_27 : decode cX6_addUpBehind 27 = .ok (.istore 4, 2) := by decide +kernel
theorem dX6_addUpBehind_29 : decode cX6_addUpBehind 29 = .ok (.iload 4, 2) := by decide +kernel
theorem dX6_addUpBehind_31 : decode cX6_addUpBehind 31 = .ok (.aload_n 0, 1) := by decide +kernel
theorem dX6_addUpBehind_32 : decode cX6_addUpBehind 32 = .ok (.getfield 35, 3) := by decide +kernel
theorem dX6_addUpBehind_35 : decode cX6_addUpBehind 35 = .ok (.if_icmp .ge 63, 3) := by decide +kernel
theorem dX6_addUpBehind_38 : decode cX6_addUpBehind 38 = .ok (.iload_n 1, 1) := by decide +kernel
theorem dX6_addUpBehind_39 : decode cX6_addUpBehind 39 = .ok (.aload_n 0, 1) := by decide +kernel
theorem dX6_addUpBehind_40 : decode cX6_addUpBehind 40 = .ok (.getfield 31, 3) := by decide +kernel
theorem dX6_addUpBehind_43 : decode cX6_addUpBehind 43 = .ok (.iconst 1, 1) := by decide +kernel
theorem dX6_addUpBehind_44 : decode cX6_addUpBehind 44 = .ok (.isub, 1) := by decide +kernel
theorem dX6_addUpBehind_45 : decode cX6_addUpBehind 45 = .ok (.if_icmp .ge 53, 3) := by decide +kernel
theorem dX6_addUpBehind_48 : decode cX6_addUpBehind 48 = .ok (.aload_n 0, 1) := by decide +kernel
theorem dX6_addUpBehind_49 : decode cX6_addUpBehind 49 = .ok (.iload_n 1, 1) := by decide +kernel
theorem dX6_addUpBehind_50 : decode cX6_addUpBehind 50 = .ok (.iconst 1, 1) := by decide +kernel
theorem dX6_addUpBehind_51 : decode cX6_addUpBehind 51 = .ok (.iadd, 1) := by decide +kernel
theorem dX6_addUpBehind_52 : decode cX6_addUpBehind 52 = .ok (.iload_n 2, 1) := by decide +kernel
theorem dX6_addUpBehind_53 : decode cX6_addUpBehind 53 = .ok (.iload 4, 2) := by decide +kernel
theorem dX6_addUpBehind_55 : decode cX6_addUpBehind 55 = .ok (.invokevirtual 73, 3) := by decide +kernel
theorem dX6_addUpBehind_58 : decode cX6_addUpBehind 58 = .ok (.aload_n 0, 1) := by decide +kernel
theorem dX6_addUpBehind_59 : decode cX6_addUpBehind 59 = .ok (.getfield 25, 3) := by decide +kernel
theorem dX6_addUpBehind_62 : decode cX6_addUpBehind 62 = .ok (.iload_n 1, 1) := by decide +kernel
theorem dX6_addUpBehind_63 : decode cX6_addUpBehind 63 = .ok (.iconst 1, 1) := by decide +kernel
theorem dX6_addUpBehind_64 : decode cX6_addUpBehind 64 = .ok (.iadd, 1) := by decide +kernel
theorem dX6_addUpBehind_65 : decode cX6_addUpBehind 65 = .ok (.bipush 8, 2) := by decide +kernel
theorem dX6_addUpBehind_67 : decode cX6_addUpBehind 67 = .ok (.imul, 1) := by decide +kernel
theorem dX6_addUpBehind_68 : decode cX6_addUpBehind 68 = .ok (.iload 4, 2) := by decide +kernel
theorem dX6_addUpBehind_70 : decode cX6_addUpBehind 70 = .ok (.iadd, 1) := by decide +kernel
theorem dX6_addUpBehind_71 : decode cX6_addUpBehind 71 = .ok (.iaload, 1) := by decide +kernel
theorem dX6_addUpBehind_72 : decode cX6_addUpBehind 72 = .ok (.iadd, 1) := by decide +kernel
theorem dX6_addUpBehind_73 : decode cX6_addUpBehind 73 = .ok (.istore 5, 2) := by decide +kernel
theorem dX6_addUpBehind_75 : decode cX6_addUpBehind 75 = .ok (.iload_n 3, 1) := by decide +kernel
theorem dX6_addUpBehind_76 : decode cX6_addUpBehind 76 = .ok (.iconst (-1), 1) := by decide +kernel
theorem dX6_addUpBehind_77 : decode cX6_addUpBehind 77 = .ok (.if_icmp .ne 8, 3) := by decide +kernel
theorem dX6_addUpBehind_80 : decode cX6_addUpBehind 80 = .ok (.iload 5, 2) := by decide +kernel
theorem dX6_addUpBehind_82 : decode cX6_addUpBehind 82 = .ok (.goto 9, 3) := by decide +kernel
theorem dX6_addUpBehind_85 : decode cX6_addUpBehind 85 = .ok (.iload_n 3, 1) := by decide +kernel
theorem dX6_addUpBehind_86 : decode cX6_addUpBehind 86 = .ok (.iload 5, 2) := by decide +kernel
theorem dX6_addUpBehind_88 : decode cX6_addUpBehind 88 = .ok (.invokestatic 38, 3) := by decide +kernel
theorem dX6_addUpBehind_91 : decode cX6_addUpBehind 91 = .ok (.istore_n 3, 1) := by decide +kernel
theorem dX6_addUpBehind_92 : decode cX6_addUpBehind 92 = .ok (.iinc 4 1, 3) := by decide +kernel
theorem dX6_addUpBehind_95 : decode cX6_addUpBehind 95 = .ok (.goto (-66), 3) := by decide +kernel
theorem dX6_addUpBehind_98 : decode cX6_addUpBehind 98 = .ok (.aload_n 0, 1) := by decide +kernel
theorem dX6_addUpBehind_99 : decode cX6_addUpBehind 99 = .ok (.getfield 25, 3) := by decide +kernel
theorem dX6_addUpBehind_102 : decode cX6_addUpBehind 102 = .ok (.iload_n 1, 1) := by decide +kernel
theorem dX6_addUpBehind_103 : decode cX6_addUpBehind 103 = .ok (.bipush 8, 2) := by decide +kernel
theorem dX6_addUpBehind_105 : decode cX6_addUpBehind 105 = .ok (.imul, 1) := by decide +kernel
theorem dX6_addUpBehind_106 : decode cX6_addUpBehind 106 = .ok (.iload_n 2, 1) := by decide +kernel
theorem dX6_addUpBehind_107 : decode cX6_addUpBehind 107 = .ok (.iadd, 1) := by decide +kernel
theorem dX6_addUpBehind_108 : decode cX6_addUpBehind 108 = .ok (.iload_n 3, 1) := by decide +kernel
theorem dX6_addUpBehind_109 : decode cX6_addUpBehind 109 = .ok (.iastore, 1) := by decide +kernel
theorem dX6_addUpBehind_110 : decode cX6_addUpBehind 110 = .ok (.iinc 2 1, 3) := by decide +kernel
theorem dX6_addUpBehind_113 : decode cX6_addUpBehind 113 = .ok (.goto (-111), 3) := by decide +kernel
theorem dX6_addUpBehind_116 : decode cX6_addUpBehind 116 = .ok (.return_, 1) := by decide +kernel
set_option maxRecDepth 20000 in
theorem ggX6_cheapestStyle_X6_missOf : GoodIn wsX6_cheapestStyle wsX6_missOf := goodIn_r _ [9, 10, 11, 12, 13, 14, 15, 16, 17, 18, 27, 28, 29, 30, 31, 32, 33, 34, 35, 36, 37, 38, 39, 40, 41] rfl (by decide +kernel)
set_option maxRecDepth 20000 in
theorem gX6_cheapestStyle_X6_missOf : GoodIn wsX6_cheapestStyle (wsV RX6 70 RX6 yX6_missOf wsX6_missOf) := goodIn_app (goodIn_of _ (by decide +kernel)) ggX6_cheapestStyle_X6_missOf
set_option maxRecDepth 20000 in
theorem ggX6_cheapestStyle_X6_step : GoodIn wsX6_cheapestStyle wsX6_step := goodIn_r _ [22, 11, 2, 5, 6, 7, 8, 9, 10, 12, 13, 14, 15, 16, 17, 18, 23, 24, 25, 26, 27, 28, 29, 30, 31, 32, 33, 34, 35, 36, 37, 38, 39, 40, 41] rfl (by decide +kernel)
set_option maxRecDepth 20000 in
theorem gX6_cheapestStyle_X6_step : GoodIn wsX6_cheapestStyle (wsV RX6 73 RX6 yX6_step wsX6_step) := goodIn_app (goodIn_of _ (by decide +kernel)) ggX6_cheapestStyle_X6_step
theorem dX6_cheapestStyle_0 : decode cX6_cheapestStyle 0 = .ok (.iconst 0, 1) := by decide +kernel
theorem dX6_cheapestStyle_1 : decode cX6_cheapestStyle 1 = .ok (.istore_n 2, 1) := by decide +kernel
theorem dX6_cheapestStyle_2 : decode cX6_cheapestStyle 2 = .ok (.iconst (-1), 1) := by decide +kernel
theorem dX6_cheapestStyle_3 : decode cX6_cheapestStyle 3 = .ok (.istore_n 3, 1) := by decide +kernel
theorem dX6_cheapestStyle_4 : decode cX6_cheapestStyle 4 = .ok (.iconst 0, 1) := by decide +kernel
theorem dX6_cheapestStyle_5 : decode cX6_cheapestStyle 5 = .ok (.istore 4, 2) := by decide +kernel
theorem dX6_cheapestStyle_7 : decode cX6_cheapestStyle 7 = .ok (.iload 4, 2) := by decide +kernel
theorem dX6_cheapestStyle_9 : decode cX6_cheapestStyle 9 = .ok (.aload_n 0, 1) := by decide +kernel
theorem dX6_cheapestStyle_10 : decode cX6_cheapestStyle 10 = .ok (.getfield 35, 3) := by decide +kernel
theorem dX6_cheapestStyle_13 : decode cX6_cheapestStyle 13 = .ok (.if_icmp .ge 82, 3) := by decide +kernel
theorem dX6_cheapestStyle_16 : decode cX6_cheapestStyle 16 = .ok (.iload_n 1, 1) := by decide +kernel
theorem dX6_cheapestStyle_17 : decode cX6_cheapestStyle 17 = .ok (.ifCond .ne 21, 3) := by decide +kernel
theorem dX6_cheapestStyle_20 : decode cX6_cheapestStyle 20 = .ok (.aload_n 0, 1) := by decide +kernel
theorem dX6_cheapestStyle_21 : decode cX6_cheapestStyle 21 = .ok (.getfield 15, 3) := by decide +kernel
theorem dX6_cheapestStyle_24 : decode cX6_cheapestStyle 24 = .ok (.iload 4, 2) := by decide +kernel
theorem dX6_cheapestStyle_26 : decode cX6_cheapestStyle 26 = .ok (.iaload, 1) := by decide +kernel
theorem dX6_cheapestStyle_27 : decode cX6_cheapestStyle 27 = .ok (.aload_n 0, 1) := by decide +kernel
theorem dX6_cheapestStyle_28 : decode cX6_cheapestStyle 28 = .ok (.iload_n 1, 1) := by decide +kernel
theorem dX6_cheapestStyle_29 : decode cX6_cheapestStyle 29 = .ok (.iload 4, 2) := by decide +kernel
theorem dX6_cheapestStyle_31 : decode cX6_cheapestStyle 31 = .ok (.invokevirtual 70, 3) := by decide +kernel
theorem dX6_cheapestStyle_34 : decode cX6_cheapestStyle 34 = .ok (.iadd, 1) := by decide +kernel
theorem dX6_cheapestStyle_35 : decode cX6_cheapestStyle 35 = .ok (.goto 18, 3) := by decide +kernel
theorem dX6_cheapestStyle_38 : decode cX6_cheapestStyle 38 = .ok (.aload_n 0, 1) := by decide +kernel
theorem dX6_cheapestStyle_39 : decode cX6_cheapestStyle 39 = .ok (.iload_n 1, 1) := by decide +kernel
theorem dX6_cheapestStyle_40 : decode cX6_cheapestStyle 40 = .ok (.aload_n 0, 1) := by decide +kernel
theorem dX6_cheapestStyle_41 : decode cX6_cheapestStyle 41 = .ok (.getfield 28, 3) := by decide +kernel
theorem dX6_cheapestStyle_44 : decode cX6_cheapestStyle 44 = .ok (.iload_n 1, 1) := by decide +kernel
theorem dX6_cheapestStyle_45 : decode cX6_cheapestStyle 45 = .ok (.iconst 1, 1) := by decide +kernel
theorem dX6_cheapestStyle_46 : decode cX6_cheapestStyle 46 = .ok (.isub, 1) := by decide +kernel
theorem dX6_cheapestStyle_47 : decode cX6_cheapestStyle 47 = .ok (.iaload, 1) := by decide +kernel
theorem dX6_cheapestStyle_48 : decode cX6_cheapestStyle 48 = .ok (.iload 4, 2) := by decide +kernel
theorem dX6_cheapestStyle_50 : decode cX6_cheapestStyle 50 = .ok (.invokevirtual 73, 3) := by decide +kernel
theorem dX6_cheapestStyle_53 : decode cX6_cheapestStyle 53 = .ok (.istore 5, 2) := by decide +kernel
theorem dX6_cheapestStyle_55 : decode cX6_cheapestStyle 55 = .ok (.iload 5, 2) := by decide +kernel
theorem dX6_cheapestStyle_57 : decode cX6_cheapestStyle 57 = .ok (.aload_n 0, 1) := by decide +kernel
theorem dX6_cheapestStyle_58 : decode cX6_cheapestStyle 58 = .ok (.getfield 25, 3) := by decide +kernel
theorem dX6_cheapestStyle_61 : decode cX6_cheapestStyle 61 = .ok (.iload_n 1, 1) := by decide +kernel
theorem dX6_cheapestStyle_62 : decode cX6_cheapestStyle 62 = .ok (.bipush 8, 2) := by decide +kernel
theorem dX6_cheapestStyle_64 : decode cX6_cheapestStyle 64 = .ok (.imul, 1) := by decide +kernel
theorem dX6_cheapestStyle_65 : decode cX6_cheapestStyle 65 = .ok (.iload 4, 2) := by decide +kernel
theorem dX6_cheapestStyle_67 : decode cX6_cheapestStyle 67 = .ok (.iadd, 1) := by decide +kernel
theorem dX6_cheapestStyle_68 : decode cX6_cheapestStyle 68 = .ok (.iaload, 1) := by decide +kernel
theorem dX6_cheapestStyle_69 : decode cX6_cheapestStyle 69 = .ok (.iadd, 1) := by decide +kernel
theorem dX6_cheapestStyle_70 : decode cX6_cheapestStyle 70 = .ok (.istore 6, 2) := by decide +kernel
theorem dX6_cheapestStyle_72 : decode cX6_cheapestStyle 72 = .ok (.iload_n 3, 1) := by decide +kernel
theorem dX6_cheapestStyle_73 : decode cX6_cheapestStyle 73 = .ok (.iconst (-1), 1) := by decide +kernel
theorem dX6_cheapestStyle_74 : decode cX6_cheapestStyle 74 = .ok (.if_icmp .eq 9, 3) := by decide +kernel
theorem dX6_cheapestStyle_77 : decode cX6_cheapestStyle 77 = .ok (.iload 6, 2) := by decide +kernel
theorem dX6_cheapestStyle_79 : decode cX6_cheapestStyle 79 = .ok (.iload_n 3, 1) := by decide +kernel
theorem dX6_cheapestStyle_80 : decode cX6_cheapestStyle 80 = .ok (.if_icmp .ge 9, 3) := by decide +kernel
theorem dX6_cheapestStyle_83 : decode cX6_cheapestStyle 83 = .ok (.iload 6, 2) := by decide +kernel
theorem dX6_cheapestStyle_85 : decode cX6_cheapestStyle 85 = .ok (.istore_n 3, 1) := by decide +kernel
theorem dX6_cheapestStyle_86 : decode cX6_cheapestStyle 86 = .ok (.iload 4, 2) := by decide +kernel
theorem dX6_cheapestStyle_88 : decode cX6_cheapestStyle 88 = .ok (.istore_n 2, 1) := by decide +kernel
theorem dX6_cheapestStyle_89 : decode cX6_cheapestStyle 89 = .ok (.iinc 4 1, 3) := by decide +kernel
theorem dX6_cheapestStyle_92 : decode cX6_cheapestStyle 92 = .ok (.goto (-85), 3) := by decide +kernel
theorem dX6_cheapestStyle_95 : decode cX6_cheapestStyle 95 = .ok (.iload_n 2, 1) := by decide +kernel
theorem dX6_cheapestStyle_96 : decode cX6_cheapestStyle 96 = .ok (.ireturn, 1) := by decide +kernel
set_option maxRecDepth 20000 in
theorem ggX6_step_X6_missOf : GoodIn wsX6_step wsX6_missOf := goodIn_r _ [7, 8, 1, 9, 10, 11, 12, 13, 14, 15, 20, 21, 22, 23, 24, 25, 26, 27, 28, 29, 30, 31, 32, 33, 34] rfl (by decide +kernel)
set_option maxRecDepth 20000 in
theorem gX6_step_X6_missOf : GoodIn wsX6_step (wsV RX6 70 RX6 yX6_missOf wsX6_missOf) := goodIn_app (goodIn_of _ (by decide +kernel)) ggX6_step_X6_missOf
set_option maxRecDepth 20000 in
theorem ggX6_step_X6_breaksOrder : GoodIn wsX6_step wsX6_breaksOrder := goodIn_r _ [19, 8, 9, 10, 11, 12, 13, 14, 15, 20, 21, 22, 23, 24, 25, 26, 27, 28, 29, 30, 31, 32, 33, 34] rfl (by decide +kernel)
set_option maxRecDepth 20000 in
theorem gX6_step_X6_breaksOrder : GoodIn wsX6_step (wsV RX6 77 RX6 yX6_breaksOrder wsX6_breaksOrder) := goodIn_app (goodIn_of _ (by decide +kernel)) ggX6_step_X6_breaksOrder
theorem dX6_step_0 : decode cX6_step 0 = .ok (.aload_n 0, 1) := by decide +kernel
theorem dX6_step_1 : decode cX6_step 1 = .ok (.iload_n 1, 1) := by decide +kernel
theorem dX6_step_2 : decode cX6_step 2 = .ok (.iload_n 3, 1) := by decide +kernel
theorem dX6_step_3 : decode cX6_step 3 = .ok (.invokevirtual 70, 3) := by decide +kernel
theorem dX6_step_6 : decode cX6_step 6 = .ok (.istore 4, 2) := by decide +kernel
theorem dX6_step_8 : decode cX6_step 8 = .ok (.iload_n 2, 1) := by decide +kernel
theorem dX6_step_9 : decode cX6_step 9 = .ok (.iload_n 3, 1) := by decide +kernel
theorem dX6_step_10 : decode cX6_step 10 = .ok (.if_icmp .eq 21, 3) := by decide +kernel
theorem dX6_step_13 : decode cX6_step 13 = .ok (.iload 4, 2) := by decide +kernel
theorem dX6_step_15 : decode cX6_step 15 = .ok (.aload_n 0, 1) := by decide +kernel
theorem dX6_step_16 : decode cX6_step 16 = .ok (.getfield 19, 3) := by decide +kernel
theorem dX6_step_19 : decode cX6_step 19 = .ok (.iconst 0, 1) := by decide +kernel
theorem dX6_step_20 : decode cX6_step 20 = .ok (.iaload, 1) := by decide +kernel
theorem dX6_step_21 : decode cX6_step 21 = .ok (.aload_n 0, 1) := by decide +kernel
theorem dX6_step_22 : decode cX6_step 22 = .ok (.getfield 15, 3) := by decide +kernel
theorem dX6_step_25 : decode cX6_step 25 = .ok (.iload_n 3, 1) := by decide +kernel
theorem dX6_step_26 : decode cX6_step 26 = .ok (.iaload, 1) := by decide +kernel
theorem dX6_step_27 : decode cX6_step 27 = .ok (.iadd, 1) := by decide +kernel
theorem dX6_step_28 : decode cX6_step 28 = .ok (.iadd, 1) := by decide +kernel
theorem dX6_step_29 : decode cX6_step 29 = .ok (.istore 4, 2) := by decide +kernel
theorem dX6_step_31 : decode cX6_step 31 = .ok (.aload_n 0, 1) := by decide +kernel
theorem dX6_step_32 : decode cX6_step 32 = .ok (.iload_n 1, 1) := by decide +kernel
theorem dX6_step_33 : decode cX6_step 33 = .ok (.iload_n 2, 1) := by decide +kernel
theorem dX6_step_34 : decode cX6_step 34 = .ok (.iload_n 3, 1) := by decide +kernel
theorem dX6_step_35 : decode cX6_step 35 = .ok (.invokevirtual 77, 3) := by decide +kernel
theorem dX6_step_38 : decode cX6_step 38 = .ok (.ifCond .eq 15, 3) := by decide +kernel
theorem dX6_step_41 : decode cX6_step 41 = .ok (.iload 4, 2) := by decide +kernel
theorem dX6_step_43 : decode cX6_step 43 = .ok (.aload_n 0, 1) := by decide +kernel
theorem dX6_step_44 : decode cX6_step 44 = .ok (.getfield 19, 3) := by decide +kernel
theorem dX6_step_47 : decode cX6_step 47 = .ok (.iconst 2, 1) := by decide +kernel
theorem dX6_step_48 : decode cX6_step 48 = .ok (.iaload, 1) := by decide +kernel
theorem dX6_step_49 : decode cX6_step 49 = .ok (.iadd, 1) := by decide +kernel
theorem dX6_step_50 : decode cX6_step 50 = .ok (.goto 5, 3) := by decide +kernel
theorem dX6_step_53 : decode cX6_step 53 = .ok (.iload 4, 2) := by decide +kernel
theorem dX6_step_55 : decode cX6_step 55 = .ok (.ireturn, 1) := by decide +kernel
set_option maxRecDepth 20000 in
theorem ggX6_missOf_X3_edge : GoodIn wsX6_missOf wsX3_edge := goodIn_r _ [7, 8, 9, 18, 19, 20, 21, 22, 23, 24] rfl (by decide +kernel)
set_option maxRecDepth 20000 in
theorem gX6_missOf_X3_edge : GoodIn wsX6_missOf (wsV RX6 80 RX3 yX3_edge wsX3_edge) := goodIn_app (goodIn_of _ (by decide +kernel)) ggX6_missOf_X3_edge
theorem dX6_missOf_0 : decode cX6_missOf 0 = .ok (.aload_n 0, 1) := by decide +kernel
theorem dX6_missOf_1 : decode cX6_missOf 1 = .ok (.getfield 9, 3) := by decide +kernel
theorem dX6_missOf_4 : decode cX6_missOf 4 = .ok (.iload_n 1, 1) := by decide +kernel
theorem dX6_missOf_5 : decode cX6_missOf 5 = .ok (.iload_n 2, 1) := by decide +kernel
theorem dX6_missOf_6 : decode cX6_missOf 6 = .ok (.iconst 0, 1) := by decide +kernel
theorem dX6_missOf_7 : decode cX6_missOf 7 = .ok (.invokevirtual 80, 3) := by decide +kernel
theorem dX6_missOf_10 : decode cX6_missOf 10 = .ok (.iconst (-1), 1) := by decide +kernel
theorem dX6_missOf_11 : decode cX6_missOf 11 = .ok (.if_icmp .ne 12, 3) := by decide +kernel
theorem dX6_missOf_14 : decode cX6_missOf 14 = .ok (.aload_n 0, 1) := by decide +kernel
theorem dX6_missOf_15 : decode cX6_missOf 15 = .ok (.getfield 19, 3) := by decide +kernel
theorem dX6_missOf_18 : decode cX6_missOf 18 = .ok (.iconst 1, 1) := by decide +kernel
theorem dX6_missOf_19 : decode cX6_missOf 19 = .ok (.iaload, 1) := by decide +kernel
theorem dX6_missOf_20 : decode cX6_missOf 20 = .ok (.goto 4, 3) := by decide +kernel
theorem dX6_missOf_23 : decode cX6_missOf 23 = .ok (.iconst 0, 1) := by decide +kernel
theorem dX6_missOf_24 : decode cX6_missOf 24 = .ok (.ireturn, 1) := by decide +kernel
set_option maxRecDepth 20000 in
theorem ggX6_breaksOrder_X3_edge : GoodIn wsX6_breaksOrder wsX3_edge := goodIn_r _ [6, 7, 8, 17, 18, 19, 20, 21, 22, 23] rfl (by decide +kernel)
set_option maxRecDepth 20000 in
theorem gX6_breaksOrder_X3_edge : GoodIn wsX6_breaksOrder (wsV RX6 80 RX3 yX3_edge wsX3_edge) := goodIn_app (goodIn_of _ (by decide +kernel)) ggX6_breaksOrder_X3_edge
theorem dX6_breaksOrder_0 : decode cX6_breaksOrder 0 = .ok (.aload_n 0, 1) := by decide +kernel
theorem dX6_breaksOrder_1 : decode cX6_breaksOrder 1 = .ok (.getfield 9, 3) := by decide +kernel
theorem dX6_breaksOrder_4 : decode cX6_breaksOrder 4 = .ok (.iload_n 1, 1) := by decide +kernel
theorem dX6_breaksOrder_5 : decode cX6_breaksOrder 5 = .ok (.iload_n 3, 1) := by decide +kernel
theorem dX6_breaksOrder_6 : decode cX6_breaksOrder 6 = .ok (.iconst 1, 1) := by decide +kernel
theorem dX6_breaksOrder_7 : decode cX6_breaksOrder 7 = .ok (.invokevirtual 80, 3) := by decide +kernel
theorem dX6_breaksOrder_10 : decode cX6_breaksOrder 10 = .ok (.istore 4, 2) := by decide +kernel
theorem dX6_breaksOrder_12 : decode cX6_breaksOrder 12 = .ok (.iload 4, 2) := by decide +kernel
theorem dX6_breaksOrder_14 : decode cX6_breaksOrder 14 = .ok (.iconst (-1), 1) := by decide +kernel
theorem dX6_breaksOrder_15 : decode cX6_breaksOrder 15 = .ok (.if_icmp .eq 24, 3) := by decide +kernel
theorem dX6_breaksOrder_18 : decode cX6_breaksOrder 18 = .ok (.aload_n 0, 1) := by decide +kernel
theorem dX6_breaksOrder_19 : decode cX6_breaksOrder 19 = .ok (.getfield 9, 3) := by decide +kernel
theorem dX6_breaksOrder_22 : decode cX6_breaksOrder 22 = .ok (.iload_n 1, 1) := by decide +kernel
theorem dX6_breaksOrder_23 : decode cX6_breaksOrder 23 = .ok (.iconst 1, 1) := by decide +kernel
theorem dX6_breaksOrder_24 : decode cX6_breaksOrder 24 = .ok (.isub, 1) := by decide +kernel
theorem dX6_breaksOrder_25 : decode cX6_breaksOrder 25 = .ok (.iload_n 2, 1) := by decide +kernel
theorem dX6_breaksOrder_26 : decode cX6_breaksOrder 26 = .ok (.iconst 0, 1) := by decide +kernel
theorem dX6_breaksOrder_27 : decode cX6_breaksOrder 27 = .ok (.invokevirtual 80, 3) := by decide +kernel
theorem dX6_breaksOrder_30 : decode cX6_breaksOrder 30 = .ok (.iload 4, 2) := by decide +kernel
theorem dX6_breaksOrder_32 : decode cX6_breaksOrder 32 = .ok (.if_icmp .le 7, 3) := by decide +kernel
theorem dX6_breaksOrder_35 : decode cX6_breaksOrder 35 = .ok (.iconst 1, 1) := by decide +kernel
theorem dX6_breaksOrder_36 : decode cX6_breaksOrder 36 = .ok (.goto 4, 3) := by decide +kernel
theorem dX6_breaksOrder_39 : decode cX6_breaksOrder 39 = .ok (.iconst 0, 1) := by decide +kernel
theorem dX6_breaksOrder_40 : decode cX6_breaksOrder 40 = .ok (.ireturn, 1) := by decide +kernel
set_option maxRecDepth 20000 in
theorem ggX8_init_X4_init : GoodIn wsX8_init wsX4_init := goodIn_r _ [29, 30, 2, 3, 31, 32, 33, 86, 87] rfl (by decide +kernel)
set_option maxRecDepth 20000 in
theorem gX8_init_X4_init : GoodIn wsX8_init (wsX4_init) := ggX8_init_X4_init
set_option maxRecDepth 20000 in
theorem ggX8_init_X5_init : GoodIn wsX8_init wsX5_init := goodIn_r _ [36, 37, 2, 3, 38, 39, 40, 41, 42, 43, 44, 31, 45, 46, 47, 96, 97, 98] rfl (by decide +kernel)
set_option maxRecDepth 20000 in
theorem gX8_init_X5_init : GoodIn wsX8_init (wsX5_init) := ggX8_init_X5_init
set_option maxRecDepth 20000 in
theorem ggX8_init_X3_init : GoodIn wsX8_init wsX3_init := goodIn_r _ [50, 51, 2, 3, 52, 53, 54, 55, 56, 57, 31, 58, 59, 60, 61, 62, 63, 64, 65, 66, 67, 99, 100, 101, 102, 103, 104, 105, 116, 117, 118, 119, 120, 121, 122, 123, 124] rfl (by decide +kernel)
set_option maxRecDepth 20000 in
theorem gX8_init_X3_init : GoodIn wsX8_init (wsX3_init) := ggX8_init_X3_init
set_option maxRecDepth 20000 in
theorem ggX8_init_X6_init : GoodIn wsX8_init wsX6_init := goodIn_r _ [70, 71, 2, 3, 72, 31, 73, 74, 75, 76, 77, 78, 79, 106, 107, 108, 109, 110, 111, 112, 113] rfl (by decide +kernel)
set_option maxRecDepth 20000 in
theorem gX8_init_X6_init : GoodIn wsX8_init (wsX6_init) := ggX8_init_X6_init
set_option maxRecDepth 20000 in
theorem ggX8_init_X1_init : GoodIn wsX8_init wsX1_init := goodIn_r _ [82, 83, 2, 3, 31, 84, 85, 114, 115] rfl (by decide +kernel)
set_option maxRecDepth 20000 in
theorem gX8_init_X1_init : GoodIn wsX8_init (wsX1_init) := ggX8_init_X1_init
theorem dX8_init_0 : decode cX8_init 0 = .ok (.aload_n 0, 1) := by decide +kernel
theorem dX8_init_1 : decode cX8_init 1 = .ok (.invokespecial 1, 3) := by decide +kernel
theorem dX8_init_4 : decode cX8_init 4 = .ok (.aload_n 0, 1) := by decide +kernel
theorem dX8_init_5 : decode cX8_init 5 = .ok (.new 7, 3) := by decide +kernel
theorem dX8_init_8 : decode cX8_init 8 = .ok (.dup, 1) := by decide +kernel
theorem dX8_init_9 : decode cX8_init 9 = .ok (.invokespecial 9, 3) := by decide +kernel
theorem dX8_init_12 : decode cX8_init 12 = .ok (.putfield 10, 3) := by decide +kernel
theorem dX8_init_15 : decode cX8_init 15 = .ok (.aload_n 0, 1) := by decide +kernel
theorem dX8_init_16 : decode cX8_init 16 = .ok (.new 16, 3) := by decide +kernel
theorem dX8_init_19 : decode cX8_init 19 = .ok (.dup, 1) := by decide +kernel
theorem dX8_init_20 : decode cX8_init 20 = .ok (.bipush 8, 2) := by decide +kernel
theorem dX8_init_22 : decode cX8_init 22 = .ok (.invokespecial 18, 3) := by decide +kernel
theorem dX8_init_25 : decode cX8_init 25 = .ok (.putfield 21, 3) := by decide +kernel
theorem dX8_init_28 : decode cX8_init 28 = .ok (.aload_n 0, 1) := by decide +kernel
theorem dX8_init_29 : decode cX8_init 29 = .ok (.new 16, 3) := by decide +kernel
theorem dX8_init_32 : decode cX8_init 32 = .ok (.dup, 1) := by decide +kernel
theorem dX8_init_33 : decode cX8_init 33 = .ok (.bipush 30, 2) := by decide +kernel
theorem dX8_init_35 : decode cX8_init 35 = .ok (.invokespecial 18, 3) := by decide +kernel
theorem dX8_init_38 : decode cX8_init 38 = .ok (.putfield 25, 3) := by decide +kernel
theorem dX8_init_41 : decode cX8_init 41 = .ok (.aload_n 0, 1) := by decide +kernel
theorem dX8_init_42 : decode cX8_init 42 = .ok (.new 28, 3) := by decide +kernel
theorem dX8_init_45 : decode cX8_init 45 = .ok (.dup, 1) := by decide +kernel
theorem dX8_init_46 : decode cX8_init 46 = .ok (.aload_n 0, 1) := by decide +kernel
theorem dX8_init_47 : decode cX8_init 47 = .ok (.getfield 21, 3) := by decide +kernel
theorem dX8_init_50 : decode cX8_init 50 = .ok (.aload_n 0, 1) := by decide +kernel
theorem dX8_init_51 : decode cX8_init 51 = .ok (.getfield 25, 3) := by decide +kernel
theorem dX8_init_54 : decode cX8_init 54 = .ok (.invokespecial 30, 3) := by decide +kernel
theorem dX8_init_57 : decode cX8_init 57 = .ok (.putfield 33, 3) := by decide +kernel
theorem dX8_init_60 : decode cX8_init 60 = .ok (.aload_n 0, 1) := by decide +kernel
theorem dX8_init_61 : decode cX8_init 61 = .ok (.new 37, 3) := by decide +kernel
theorem dX8_init_64 : decode cX8_init 64 = .ok (.dup, 1) := by decide +kernel
theorem dX8_init_65 : decode cX8_init 65 = .ok (.aload_n 0, 1) := by decide +kernel
theorem dX8_init_66 : decode cX8_init 66 = .ok (.getfield 33, 3) := by decide +kernel
theorem dX8_init_69 : decode cX8_init 69 = .ok (.invokespecial 39, 3) := by decide +kernel
theorem dX8_init_72 : decode cX8_init 72 = .ok (.putfield 42, 3) := by decide +kernel
theorem dX8_init_75 : decode cX8_init 75 = .ok (.aload_n 0, 1) := by decide +kernel
theorem dX8_init_76 : decode cX8_init 76 = .ok (.new 46, 3) := by decide +kernel
theorem dX8_init_79 : decode cX8_init 79 = .ok (.dup, 1) := by decide +kernel
theorem dX8_init_80 : decode cX8_init 80 = .ok (.invokespecial 48, 3) := by decide +kernel
theorem dX8_init_83 : decode cX8_init 83 = .ok (.putfield 49, 3) := by decide +kernel
theorem dX8_init_86 : decode cX8_init 86 = .ok (.aload_n 0, 1) := by decide +kernel
theorem dX8_init_87 : decode cX8_init 87 = .ok (.sipush 1950, 3) := by decide +kernel
theorem dX8_init_90 : decode cX8_init 90 = .ok (.putfield 53, 3) := by decide +kernel
theorem dX8_init_93 : decode cX8_init 93 = .ok (.aload_n 0, 1) := by decide +kernel
theorem dX8_init_94 : decode cX8_init 94 = .ok (.iconst 0, 1) := by decide +kernel
theorem dX8_init_95 : decode cX8_init 95 = .ok (.putfield 57, 3) := by decide +kernel
theorem dX8_init_98 : decode cX8_init 98 = .ok (.return_, 1) := by decide +kernel
set_option maxRecDepth 20000 in
theorem ggX8_feed_X4_bytesIn : GoodIn wsX8_feed wsX4_bytesIn := goodIn_r _ [5] rfl (by decide +kernel)
set_option maxRecDepth 20000 in
theorem gX8_feed_X4_bytesIn : GoodIn wsX8_feed (va_wsS RX8 61 yX4_bytesIn wsX4_bytesIn) := goodIn_app (goodIn_of _ (by decide +kernel)) ggX8_feed_X4_bytesIn
set_option maxRecDepth 20000 in
theorem ggX8_feed_X4_length : GoodIn wsX8_feed wsX4_length := goodIn_r _ [9, 10, 24, 25] rfl (by decide +kernel)
set_option maxRecDepth 20000 in
theorem gX8_feed_X4_length : GoodIn wsX8_feed (wsV RX8 65 RX4 yX4_length wsX4_length) := goodIn_app (goodIn_of _ (by decide +kernel)) ggX8_feed_X4_length
set_option maxRecDepth 20000 in
theorem ggX8_feed_X4_append : GoodIn wsX8_feed wsX4_append := goodIn_r _ [14, 10, 15, 24, 25] rfl (by decide +kernel)
set_option maxRecDepth 20000 in
theorem gX8_feed_X4_append : GoodIn wsX8_feed (wsV RX8 69 RX4 yX4_append wsX4_append) := goodIn_app (goodIn_of _ (by decide +kernel)) ggX8_feed_X4_append
theorem dX8_feed_0 : decode cX8_feed 0 = .ok (.iload_n 1, 1) := by decide +kernel
theorem dX8_feed_1 : decode cX8_feed 1 = .ok (.invokestatic 61, 3) := by decide +kernel
theorem dX8_feed_4 : decode cX8_feed 4 = .ok (.iload_n 2, 1) := by decide +kernel
theorem dX8_feed_5 : decode cX8_feed 5 = .ok (.invokestatic 61, 3) := by decide +kernel
theorem dX8_feed_8 : decode cX8_feed 8 = .ok (.iadd, 1) := by decide +kernel
theorem dX8_feed_9 : decode cX8_feed 9 = .ok (.istore_n 3, 1) := by decide +kernel
theorem dX8_feed_10 : decode cX8_feed 10 = .ok (.aload_n 0, 1) := by decide +kernel
theorem dX8_feed_11 : decode cX8_feed 11 = .ok (.getfield 10, 3) := by decide +kernel
theorem dX8_feed_14 : decode cX8_feed 14 = .ok (.invokevirtual 65, 3) := by decide +kernel
theorem dX8_feed_17 : decode cX8_feed 17 = .ok (.iload_n 3, 1) := by decide +kernel
theorem dX8_feed_18 : decode cX8_feed 18 = .ok (.iadd, 1) := by decide +kernel
theorem dX8_feed_19 : decode cX8_feed 19 = .ok (.bipush 24, 2) := by decide +kernel
theorem dX8_feed_21 : decode cX8_feed 21 = .ok (.if_icmp .le 5, 3) := by decide +kernel
theorem dX8_feed_24 : decode cX8_feed 24 = .ok (.iconst (-1), 1) := by decide +kernel
theorem dX8_feed_25 : decode cX8_feed 25 = .ok (.ireturn, 1) := by decide +kernel
theorem dX8_feed_26 : decode cX8_feed 26 = .ok (.aload_n 0, 1) := by decide +kernel
theorem dX8_feed_27 : decode cX8_feed 27 = .ok (.getfield 10, 3) := by decide +kernel
theorem dX8_feed_30 : decode cX8_feed 30 = .ok (.iload_n 1, 1) := by decide +kernel
theorem dX8_feed_31 : decode cX8_feed 31 = .ok (.invokevirtual 69, 3) := by decide +kernel
theorem dX8_feed_34 : decode cX8_feed 34 = .ok (.aload_n 0, 1) := by decide +kernel
theorem dX8_feed_35 : decode cX8_feed 35 = .ok (.getfield 10, 3) := by decide +kernel
theorem dX8_feed_38 : decode cX8_feed 38 = .ok (.iload_n 2, 1) := by decide +kernel
theorem dX8_feed_39 : decode cX8_feed 39 = .ok (.invokevirtual 69, 3) := by decide +kernel
theorem dX8_feed_42 : decode cX8_feed 42 = .ok (.aload_n 0, 1) := by decide +kernel
theorem dX8_feed_43 : decode cX8_feed 43 = .ok (.getfield 10, 3) := by decide +kernel
theorem dX8_feed_46 : decode cX8_feed 46 = .ok (.invokevirtual 65, 3) := by decide +kernel
theorem dX8_feed_49 : decode cX8_feed 49 = .ok (.ireturn, 1) := by decide +kernel
set_option maxRecDepth 20000 in
theorem ggX8_end_X4_cut : GoodIn wsX8_end wsX4_cut := goodIn_r _ [6, 7, 16, 17] rfl (by decide +kernel)
set_option maxRecDepth 20000 in
theorem gX8_end_X4_cut : GoodIn wsX8_end (wsV RX8 72 RX4 yX4_cut wsX4_cut) := goodIn_app (goodIn_of _ (by decide +kernel)) ggX8_end_X4_cut
theorem dX8_end_0 : decode cX8_end 0 = .ok (.aload_n 0, 1) := by decide +kernel
theorem dX8_end_1 : decode cX8_end 1 = .ok (.getfield 10, 3) := by decide +kernel
theorem dX8_end_4 : decode cX8_end 4 = .ok (.iload_n 1, 1) := by decide +kernel
theorem dX8_end_5 : decode cX8_end 5 = .ok (.invokevirtual 72, 3) := by decide +kernel
theorem dX8_end_8 : decode cX8_end 8 = .ok (.ireturn, 1) := by decide +kernel
set_option maxRecDepth 20000 in
theorem ggX8_style_X8_isPrice : GoodIn wsX8_style wsX8_isPrice := goodIn_r _ [8] rfl (by decide +kernel)
set_option maxRecDepth 20000 in
theorem gX8_style_X8_isPrice : GoodIn wsX8_style (va_wsS RX8 76 yX8_isPrice wsX8_isPrice) := goodIn_app (goodIn_of _ (by decide +kernel)) ggX8_style_X8_isPrice
set_option maxRecDepth 20000 in
theorem ggX8_style_X5_isFull : GoodIn wsX8_style wsX5_isFull := goodIn_r _ [13, 14, 15, 63, 64, 65] rfl (by decide +kernel)
set_option maxRecDepth 20000 in
theorem gX8_style_X5_isFull : GoodIn wsX8_style (wsV RX8 79 RX5 yX5_isFull wsX5_isFull) := goodIn_app (goodIn_of _ (by decide +kernel)) ggX8_style_X5_isFull
set_option maxRecDepth 20000 in
theorem ggX8_style_X4_isPattern : GoodIn wsX8_style wsX4_isPattern := goodIn_r _ [20, 21, 22, 23, 19, 24, 25, 26, 27, 28, 29, 30, 66, 67] rfl (by decide +kernel)
set_option maxRecDepth 20000 in
theorem gX8_style_X4_isPattern : GoodIn wsX8_style (wsV RX8 83 RX4 yX4_isPattern wsX4_isPattern) := goodIn_app (goodIn_of _ (by decide +kernel)) ggX8_style_X4_isPattern
set_option maxRecDepth 20000 in
theorem ggX8_style_X5_add : GoodIn wsX8_style wsX5_add := goodIn_r _ [34, 14, 35, 15, 36, 10, 11, 12, 13, 37, 38, 39, 19, 40, 25, 41, 42, 43, 44, 26, 45, 46, 47, 48, 63, 64, 65, 66, 67] rfl (by decide +kernel)
set_option maxRecDepth 20000 in
theorem gX8_style_X5_add : GoodIn wsX8_style (wsV RX8 86 RX5 yX5_add wsX5_add) := goodIn_app (goodIn_of _ (by decide +kernel)) ggX8_style_X5_add
set_option maxRecDepth 20000 in
theorem ggX8_style_X6_setCost : GoodIn wsX8_style wsX6_setCost := goodIn_r _ [53, 54, 68, 69, 70, 71, 72, 73, 74, 75] rfl (by decide +kernel)
set_option maxRecDepth 20000 in
theorem gX8_style_X6_setCost : GoodIn wsX8_style (wsV RX8 90 RX6 yX6_setCost wsX6_setCost) := goodIn_app (goodIn_of _ (by decide +kernel)) ggX8_style_X6_setCost
theorem dX8_style_0 : decode cX8_style 0 = .ok (.iload_n 1, 1) := by decide +kernel
theorem dX8_style_1 : decode cX8_style 1 = .ok (.invokestatic 76, 3) := by decide +kernel
theorem dX8_style_4 : decode cX8_style 4 = .ok (.ifCond .eq 23, 3) := by decide +kernel
theorem dX8_style_7 : decode cX8_style 7 = .ok (.aload_n 0, 1) := by decide +kernel
theorem dX8_style_8 : decode cX8_style 8 = .ok (.getfield 21, 3) := by decide +kernel
theorem dX8_style_11 : decode cX8_style 11 = .ok (.invokevirtual 79, 3) := by decide +kernel
theorem dX8_style_14 : decode cX8_style 14 = .ok (.ifCond .ne 13, 3) := by decide +kernel
theorem dX8_style_17 : decode cX8_style 17 = .ok (.aload_n 0, 1) := by decide +kernel
theorem dX8_style_18 : decode cX8_style 18 = .ok (.getfield 10, 3) := by decide +kernel
theorem dX8_style_21 : decode cX8_style 21 = .ok (.invokevirtual 83, 3) := by decide +kernel
theorem dX8_style_24 : decode cX8_style 24 = .ok (.ifCond .ne 5, 3) := by decide +kernel
theorem dX8_style_27 : decode cX8_style 27 = .ok (.iconst (-1), 1) := by decide +kernel
theorem dX8_style_28 : decode cX8_style 28 = .ok (.ireturn, 1) := by decide +kernel
theorem dX8_style_29 : decode cX8_style 29 = .ok (.aload_n 0, 1) := by decide +kernel
theorem dX8_style_30 : decode cX8_style 30 = .ok (.getfield 21, 3) := by decide +kernel
theorem dX8_style_33 : decode cX8_style 33 = .ok (.aload_n 0, 1) := by decide +kernel
theorem dX8_style_34 : decode cX8_style 34 = .ok (.getfield 10, 3) := by decide +kernel
theorem dX8_style_37 : decode cX8_style 37 = .ok (.invokevirtual 86, 3) := by decide +kernel
theorem dX8_style_40 : decode cX8_style 40 = .ok (.istore_n 2, 1) := by decide +kernel
theorem dX8_style_41 : decode cX8_style 41 = .ok (.aload_n 0, 1) := by decide +kernel
theorem dX8_style_42 : decode cX8_style 42 = .ok (.getfield 42, 3) := by decide +kernel
theorem dX8_style_45 : decode cX8_style 45 = .ok (.iload_n 2, 1) := by decide +kernel
theorem dX8_style_46 : decode cX8_style 46 = .ok (.iload_n 1, 1) := by decide +kernel
theorem dX8_style_47 : decode cX8_style 47 = .ok (.invokevirtual 90, 3) := by decide +kernel
theorem dX8_style_50 : decode cX8_style 50 = .ok (.aload_n 0, 1) := by decide +kernel
theorem dX8_style_51 : decode cX8_style 51 = .ok (.iconst 0, 1) := by decide +kernel
theorem dX8_style_52 : decode cX8_style 52 = .ok (.putfield 57, 3) := by decide +kernel
theorem dX8_style_55 : decode cX8_style 55 = .ok (.iload_n 2, 1) := by decide +kernel
theorem dX8_style_56 : decode cX8_style 56 = .ok (.ireturn, 1) := by decide +kernel
set_option maxRecDepth 20000 in
theorem ggX8_row_X5_isFull : GoodIn wsX8_row wsX5_isFull := goodIn_r _ [9, 10, 11, 51, 52, 53] rfl (by decide +kernel)
set_option maxRecDepth 20000 in
theorem gX8_row_X5_isFull : GoodIn wsX8_row (wsV RX8 79 RX5 yX5_isFull wsX5_isFull) := goodIn_app (goodIn_of _ (by decide +kernel)) ggX8_row_X5_isFull
set_option maxRecDepth 20000 in
theorem ggX8_row_X4_isText : GoodIn wsX8_row wsX4_isText := goodIn_r _ [16, 17, 18, 54, 55] rfl (by decide +kernel)
set_option maxRecDepth 20000 in
theorem gX8_row_X4_isText : GoodIn wsX8_row (wsV RX8 94 RX4 yX4_isText wsX4_isText) := goodIn_app (goodIn_of _ (by decide +kernel)) ggX8_row_X4_isText
set_option maxRecDepth 20000 in
theorem ggX8_row_X5_add : GoodIn wsX8_row wsX5_add := goodIn_r _ [22, 10, 23, 11, 24, 6, 7, 8, 9, 25, 26, 27, 15, 28, 17, 29, 30, 31, 32, 18, 33, 34, 35, 36, 51, 52, 53, 54, 55] rfl (by decide +kernel)
set_option maxRecDepth 20000 in
theorem gX8_row_X5_add : GoodIn wsX8_row (wsV RX8 86 RX5 yX5_add wsX5_add) := goodIn_app (goodIn_of _ (by decide +kernel)) ggX8_row_X5_add
set_option maxRecDepth 20000 in
theorem ggX8_row_X3_forget : GoodIn wsX8_row wsX3_forget := goodIn_r _ [41, 42, 56, 57, 58, 59, 60, 61, 62] rfl (by decide +kernel)
set_option maxRecDepth 20000 in
theorem gX8_row_X3_forget : GoodIn wsX8_row (wsV RX8 97 RX3 yX3_forget wsX3_forget) := goodIn_app (goodIn_of _ (by decide +kernel)) ggX8_row_X3_forget
theorem dX8_row_0 : decode cX8_row 0 = .ok (.aload_n 0, 1) := by decide +kernel
theorem dX8_row_1 : decode cX8_row 1 = .ok (.getfield 25, 3) := by decide +kernel
theorem dX8_row_4 : decode cX8_row 4 = .ok (.invokevirtual 79, 3) := by decide +kernel
theorem dX8_row_7 : decode cX8_row 7 = .ok (.ifCond .ne 13, 3) := by decide +kernel
theorem dX8_row_10 : decode cX8_row 10 = .ok (.aload_n 0, 1) := by decide +kernel
theorem dX8_row_11 : decode cX8_row 11 = .ok (.getfield 10, 3) := by decide +kernel
theorem dX8_row_14 : decode cX8_row 14 = .ok (.invokevirtual 94, 3) := by decide +kernel
theorem dX8_row_17 : decode cX8_row 17 = .ok (.ifCond .ne 5, 3) := by decide +kernel
theorem dX8_row_20 : decode cX8_row 20 = .ok (.iconst (-1), 1) := by decide +kernel
theorem dX8_row_21 : decode cX8_row 21 = .ok (.ireturn, 1) := by decide +kernel
theorem dX8_row_22 : decode cX8_row 22 = .ok (.aload_n 0, 1) := by decide +kernel
theorem dX8_row_23 : decode cX8_row 23 = .ok (.getfield 25, 3) := by decide +kernel
theorem dX8_row_26 : decode cX8_row 26 = .ok (.aload_n 0, 1) := by decide +kernel
theorem dX8_row_27 : decode cX8_row 27 = .ok (.getfield 10, 3) := by decide +kernel
theorem dX8_row_30 : decode cX8_row 30 = .ok (.invokevirtual 86, 3) := by decide +kernel
theorem dX8_row_33 : decode cX8_row 33 = .ok (.istore_n 1, 1) := by decide +kernel
theorem dX8_row_34 : decode cX8_row 34 = .ok (.aload_n 0, 1) := by decide +kernel
theorem dX8_row_35 : decode cX8_row 35 = .ok (.getfield 33, 3) := by decide +kernel
theorem dX8_row_38 : decode cX8_row 38 = .ok (.iload_n 1, 1) := by decide +kernel
theorem dX8_row_39 : decode cX8_row 39 = .ok (.invokevirtual 97, 3) := by decide +kernel
theorem dX8_row_42 : decode cX8_row 42 = .ok (.aload_n 0, 1) := by decide +kernel
theorem dX8_row_43 : decode cX8_row 43 = .ok (.iconst 0, 1) := by decide +kernel
theorem dX8_row_44 : decode cX8_row 44 = .ok (.putfield 57, 3) := by decide +kernel
theorem dX8_row_47 : decode cX8_row 47 = .ok (.iload_n 1, 1) := by decide +kernel
theorem dX8_row_48 : decode cX8_row 48 = .ok (.ireturn, 1) := by decide +kernel
set_option maxRecDepth 20000 in
theorem ggX8_clear_X5_removeAll : GoodIn wsX8_clear wsX5_removeAll := goodIn_r _ [7, 8, 17, 18, 19] rfl (by decide +kernel)
set_option maxRecDepth 20000 in
theorem gX8_clear_X5_removeAll : GoodIn wsX8_clear (wsV RX8 100 RX5 yX5_removeAll wsX5_removeAll) := goodIn_app (goodIn_of _ (by decide +kernel)) ggX8_clear_X5_removeAll
theorem dX8_clear_0 : decode cX8_clear 0 = .ok (.aload_n 0, 1) := by decide +kernel
theorem dX8_clear_1 : decode cX8_clear 1 = .ok (.getfield 25, 3) := by decide +kernel
theorem dX8_clear_4 : decode cX8_clear 4 = .ok (.invokevirtual 100, 3) := by decide +kernel
theorem dX8_clear_7 : decode cX8_clear 7 = .ok (.aload_n 0, 1) := by decide +kernel
theorem dX8_clear_8 : decode cX8_clear 8 = .ok (.iconst 0, 1) := by decide +kernel
theorem dX8_clear_9 : decode cX8_clear 9 = .ok (.putfield 57, 3) := by decide +kernel
