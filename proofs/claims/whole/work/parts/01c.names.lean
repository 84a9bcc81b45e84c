theorem dX2_findSpan_43 : decode cX2_findSpan 43 = .ok (.aload_n 0, 1) := by decide +kernel
theorem dX2_findSpan_44 : decode cX2_findSpan 44 = .ok (.getfield 52, 3) := by decide +kernel
theorem dX2_findSpan_47 : decode cX2_findSpan 47 = .ok (.iconst (-1), 1) := by decide +kernel
theorem dX2_findSpan_48 : decode cX2_findSpan 48 = .ok (.if_icmp .eq 15, 3) := by decide +kernel
theorem dX2_findSpan_51 : decode cX2_findSpan 51 = .ok (.aload_n 0, 1) := by decide +kernel
theorem dX2_findSpan_52 : decode cX2_findSpan 52 = .ok (.getfield 52, 3) := by decide +kernel
theorem dX2_findSpan_55 : decode cX2_findSpan 55 = .ok (.iload_n 2, 1) := by decide +kernel
theorem dX2_findSpan_56 : decode cX2_findSpan 56 = .ok (.invokestatic 106, 3) := by decide +kernel
theorem dX2_findSpan_59 : decode cX2_findSpan 59 = .ok (.if_icmp .eq 4, 3) := by decide +kernel
theorem dX2_findSpan_62 : decode cX2_findSpan 62 = .ok (.return_, 1) := by decide +kernel
theorem dX2_findSpan_63 : decode cX2_findSpan 63 = .ok (.aload_n 0, 1) := by decide +kernel
theorem dX2_findSpan_64 : decode cX2_findSpan 64 = .ok (.iload_n 2, 1) := by decide +kernel
theorem dX2_findSpan_65 : decode cX2_findSpan 65 = .ok (.putfield 19, 3) := by decide +kernel
theorem dX2_findSpan_68 : decode cX2_findSpan 68 = .ok (.aload_n 0, 1) := by decide +kernel
theorem dX2_findSpan_69 : decode cX2_findSpan 69 = .ok (.iload_n 1, 1) := by decide +kernel
theorem dX2_findSpan_70 : decode cX2_findSpan 70 = .ok (.ifCond .eq 21, 3) := by decide +kernel
theorem dX2_findSpan_73 : decode cX2_findSpan 73 = .ok (.iload_n 2, 1) := by decide +kernel
theorem dX2_findSpan_74 : decode cX2_findSpan 74 = .ok (.aload_n 0, 1) := by decide +kernel
theorem dX2_findSpan_75 : decode cX2_findSpan 75 = .ok (.getfield 46, 3) := by decide +kernel
theorem dX2_findSpan_78 : decode cX2_findSpan 78 = .ok (.aload_n 0, 1) := by decide +kernel
theorem dX2_findSpan_79 : decode cX2_findSpan 79 = .ok (.getfield 49, 3) := by decide +kernel
theorem dX2_findSpan_82 : decode cX2_findSpan 82 = .ok (.invokestatic 109, 3) := by decide +kernel
theorem dX2_findSpan_85 : decode cX2_findSpan 85 = .ok (.iadd, 1) := by decide +kernel
theorem dX2_findSpan_86 : decode cX2_findSpan 86 = .ok (.iconst 1, 1) := by decide +kernel
theorem dX2_findSpan_87 : decode cX2_findSpan 87 = .ok (.isub, 1) := by decide +kernel
theorem dX2_findSpan_88 : decode cX2_findSpan 88 = .ok (.goto 4, 3) := by decide +kernel
theorem dX2_findSpan_91 : decode cX2_findSpan 91 = .ok (.iload_n 2, 1) := by decide +kernel
theorem dX2_findSpan_92 : decode cX2_findSpan 92 = .ok (.putfield 22, 3) := by decide +kernel
theorem dX2_findSpan_95 : decode cX2_findSpan 95 = .ok (.return_, 1) := by decide +kernel
set_option maxRecDepth 20000 in
theorem ggX3_init_X2_init : GoodIn wsX3_init wsX2_init := goodIn_r _ [17, 18, 2, 3, 10, 19, 20, 28, 29, 30, 31, 32, 33, 34, 35, 36] (by decide +kernel) (by decide +kernel)
set_option maxRecDepth 20000 in
theorem gX3_init_X2_init : GoodIn wsX3_init (wsX2_init) := ggX3_init_X2_init
theorem dX3_init_0 : decode cX3_init 0 = .ok (.aload_n 0, 1) := by decide +kernel
theorem dX3_init_1 : decode cX3_init 1 = .ok (.invokespecial 3, 3) := by decide +kernel
theorem dX3_init_4 : decode cX3_init 4 = .ok (.aload_n 0, 1) := by decide +kernel
theorem dX3_init_5 : decode cX3_init 5 = .ok (.aload_n 1, 1) := by decide +kernel
theorem dX3_init_6 : decode cX3_init 6 = .ok (.putfield 9, 3) := by decide +kernel
theorem dX3_init_9 : decode cX3_init 9 = .ok (.aload_n 0, 1) := by decide +kernel
theorem dX3_init_10 : decode cX3_init 10 = .ok (.aload_n 2, 1) := by decide +kernel
theorem dX3_init_11 : decode cX3_init 11 = .ok (.putfield 15, 3) := by decide +kernel
theorem dX3_init_14 : decode cX3_init 14 = .ok (.aload_n 0, 1) := by decide +kernel
theorem dX3_init_15 : decode cX3_init 15 = .ok (.new 18, 3) := by decide +kernel
theorem dX3_init_18 : decode cX3_init 18 = .ok (.dup, 1) := by decide +kernel
theorem dX3_init_19 : decode cX3_init 19 = .ok (.invokespecial 20, 3) := by decide +kernel
theorem dX3_init_22 : decode cX3_init 22 = .ok (.putfield 21, 3) := by decide +kernel
theorem dX3_init_25 : decode cX3_init 25 = .ok (.aload_n 0, 1) := by decide +kernel
theorem dX3_init_26 : decode cX3_init 26 = .ok (.sipush 240, 3) := by decide +kernel
theorem dX3_init_29 : decode cX3_init 29 = .ok (.newarray .int, 2) := by decide +kernel
theorem dX3_init_31 : decode cX3_init 31 = .ok (.putfield 25, 3) := by decide +kernel
theorem dX3_init_34 : decode cX3_init 34 = .ok (.aload_n 0, 1) := by decide +kernel
theorem dX3_init_35 : decode cX3_init 35 = .ok (.sipush 240, 3) := by decide +kernel
theorem dX3_init_38 : decode cX3_init 38 = .ok (.newarray .int, 2) := by decide +kernel
theorem dX3_init_40 : decode cX3_init 40 = .ok (.putfield 29, 3) := by decide +kernel
theorem dX3_init_43 : decode cX3_init 43 = .ok (.aload_n 0, 1) := by decide +kernel
theorem dX3_init_44 : decode cX3_init 44 = .ok (.bipush 30, 2) := by decide +kernel
theorem dX3_init_46 : decode cX3_init 46 = .ok (.newarray .int, 2) := by decide +kernel
theorem dX3_init_48 : decode cX3_init 48 = .ok (.putfield 32, 3) := by decide +kernel
theorem dX3_init_51 : decode cX3_init 51 = .ok (.aload_n 0, 1) := by decide +kernel
theorem dX3_init_52 : decode cX3_init 52 = .ok (.bipush 30, 2) := by decide +kernel
theorem dX3_init_54 : decode cX3_init 54 = .ok (.newarray .int, 2) := by decide +kernel
theorem dX3_init_56 : decode cX3_init 56 = .ok (.putfield 35, 3) := by decide +kernel
theorem dX3_init_59 : decode cX3_init 59 = .ok (.return_, 1) := by decide +kernel
theorem dX3_forget_0 : decode cX3_forget 0 = .ok (.iload_n 1, 1) := by decide +kernel
theorem dX3_forget_1 : decode cX3_forget 1 = .ok (.ifCond .lt 16, 3) := by decide +kernel
theorem dX3_forget_4 : decode cX3_forget 4 = .ok (.iload_n 1, 1) := by decide +kernel
theorem dX3_forget_5 : decode cX3_forget 5 = .ok (.bipush 30, 2) := by decide +kernel
theorem dX3_forget_7 : decode cX3_forget 7 = .ok (.if_icmp .ge 10, 3) := by decide +kernel
theorem dX3_forget_10 : decode cX3_forget 10 = .ok (.aload_n 0, 1) := by decide +kernel
theorem dX3_forget_11 : decode cX3_forget 11 = .ok (.getfield 32, 3) := by decide +kernel
theorem dX3_forget_14 : decode cX3_forget 14 = .ok (.iload_n 1, 1) := by decide +kernel
theorem dX3_forget_15 : decode cX3_forget 15 = .ok (.iconst 0, 1) := by decide +kernel
theorem dX3_forget_16 : decode cX3_forget 16 = .ok (.iastore, 1) := by decide +kernel
theorem dX3_forget_17 : decode cX3_forget 17 = .ok (.return_, 1) := by decide +kernel
set_option maxRecDepth 20000 in
theorem ggX3_bring_X5_size : GoodIn wsX3_bring wsX5_size := goodIn_r _ [16, 17, 124, 125, 126] (by decide +kernel) (by decide +kernel)
set_option maxRecDepth 20000 in
theorem gX3_bring_X5_size : GoodIn wsX3_bring (wsV RX3 38 RX5 yX5_size wsX5_size) := goodIn_app (goodIn_of _ (by decide +kernel)) ggX3_bring_X5_size
set_option maxRecDepth 20000 in
theorem ggX3_bring_X2_hold : GoodIn wsX3_bring wsX2_hold := goodIn_r _ [22, 23, 3, 4, 5, 24, 25, 26, 27, 28, 15, 29, 30, 31, 32, 33, 34, 17, 35, 36, 37, 38, 39, 40, 127, 128, 129, 130, 131, 132, 133, 134, 135, 124, 125, 126] (by decide +kernel) (by decide +kernel)
set_option maxRecDepth 20000 in
theorem gX3_bring_X2_hold : GoodIn wsX3_bring (wsV RX3 50 RX2 yX2_hold wsX2_hold) := goodIn_app (goodIn_of _ (by decide +kernel)) ggX3_bring_X2_hold
set_option maxRecDepth 20000 in
theorem ggX3_bring_X2_scan : GoodIn wsX3_bring wsX2_scan := goodIn_r _ [44, 45, 46, 47, 48, 49, 50, 51, 24, 26, 27, 28, 15, 29, 30, 31, 32, 33, 34, 17, 35, 36, 37, 38, 39, 40, 52, 53, 54, 21, 55, 56, 57, 58, 59, 60, 61, 25, 62, 63, 64, 65, 66, 67, 68, 69, 70, 71, 72, 73, 74, 75, 76, 77, 78, 79, 80, 81, 82, 83, 84, 85, 86, 87, 88, 89, 90, 91, 92, 93, 94, 95, 96, 97, 98, 99, 100, 101, 102, 103, 104, 105, 106, 107, 108, 127, 128, 129, 130, 131, 132, 133, 134, 135, 124, 125, 126] (by decide +kernel) (by decide +kernel)
set_option maxRecDepth 20000 in
theorem gX3_bring_X2_scan : GoodIn wsX3_bring (wsV RX3 54 RX2 yX2_scan wsX2_scan) := goodIn_app (goodIn_of _ (by decide +kernel)) ggX3_bring_X2_scan
set_option maxRecDepth 20000 in
theorem ggX3_bring_X2_first : GoodIn wsX3_bring wsX2_first := goodIn_r _ [112, 50, 127, 128, 129, 130, 131, 132, 133, 134, 135] (by decide +kernel) (by decide +kernel)
set_option maxRecDepth 20000 in
theorem gX3_bring_X2_first : GoodIn wsX3_bring (wsV RX3 58 RX2 yX2_first wsX2_first) := goodIn_app (goodIn_of _ (by decide +kernel)) ggX3_bring_X2_first
set_option maxRecDepth 20000 in
theorem ggX3_bring_X2_last : GoodIn wsX3_bring wsX2_last := goodIn_r _ [116, 51, 127, 128, 129, 130, 131, 132, 133, 134, 135] (by decide +kernel) (by decide +kernel)
set_option maxRecDepth 20000 in
theorem gX3_bring_X2_last : GoodIn wsX3_bring (wsV RX3 60 RX2 yX2_last wsX2_last) := goodIn_app (goodIn_of _ (by decide +kernel)) ggX3_bring_X2_last
theorem dX3_bring_0 : decode cX3_bring 0 = .ok (.iload_n 1, 1) := by decide +kernel
theorem dX3_bring_1 : decode cX3_bring 1 = .ok (.ifCond .lt 9, 3) := by decide +kernel
theorem dX3_bring_4 : decode cX3_bring 4 = .ok (.iload_n 1, 1) := by decide +kernel
theorem dX3_bring_5 : decode cX3_bring 5 = .ok (.bipush 30, 2) := by decide +kernel
theorem dX3_bring_7 : decode cX3_bring 7 = .ok (.if_icmp .lt 4, 3) := by decide +kernel
theorem dX3_bring_10 : decode cX3_bring 10 = .ok (.return_, 1) := by decide +kernel
theorem dX3_bring_11 : decode cX3_bring 11 = .ok (.aload_n 0, 1) := by decide +kernel
theorem dX3_bring_12 : decode cX3_bring 12 = .ok (.getfield 9, 3) := by decide +kernel
theorem dX3_bring_15 : decode cX3_bring 15 = .ok (.invokevirtual 38, 3) := by decide +kernel
theorem dX3_bring_18 : decode cX3_bring 18 = .ok (.bipush 8, 2) := by decide +kernel
theorem dX3_bring_20 : decode cX3_bring 20 = .ok (.invokestatic 44, 3) := by decide +kernel
theorem dX3_bring_23 : decode cX3_bring 23 = .ok (.istore_n 3, 1) := by decide +kernel
theorem dX3_bring_24 : decode cX3_bring 24 = .ok (.aload_n 0, 1) := by decide +kernel
theorem dX3_bring_25 : decode cX3_bring 25 = .ok (.getfield 35, 3) := by decide +kernel
theorem dX3_bring_28 : decode cX3_bring 28 = .ok (.iload_n 1, 1) := by decide +kernel
theorem dX3_bring_29 : decode cX3_bring 29 = .ok (.iaload, 1) := by decide +kernel
theorem dX3_bring_30 : decode cX3_bring 30 = .ok (.iload_n 2, 1) := by decide +kernel
theorem dX3_bring_31 : decode cX3_bring 31 = .ok (.if_icmp .ne 12, 3) := by decide +kernel
theorem dX3_bring_34 : decode cX3_bring 34 = .ok (.aload_n 0, 1) := by decide +kernel
theorem dX3_bring_35 : decode cX3_bring 35 = .ok (.getfield 32, 3) := by decide +kernel
theorem dX3_bring_38 : decode cX3_bring 38 = .ok (.iload_n 1, 1) := by decide +kernel
theorem dX3_bring_39 : decode cX3_bring 39 = .ok (.iaload, 1) := by decide +kernel
theorem dX3_bring_40 : decode cX3_bring 40 = .ok (.goto 4, 3) := by decide +kernel
theorem dX3_bring_43 : decode cX3_bring 43 = .ok (.iconst 0, 1) := by decide +kernel
theorem dX3_bring_44 : decode cX3_bring 44 = .ok (.istore 4, 2) := by decide +kernel
theorem dX3_bring_46 : decode cX3_bring 46 = .ok (.iload 4, 2) := by decide +kernel
theorem dX3_bring_48 : decode cX3_bring 48 = .ok (.iload_n 3, 1) := by decide +kernel
theorem dX3_bring_49 : decode cX3_bring 49 = .ok (.if_icmp .ge 15, 3) := by decide +kernel
theorem dX3_bring_52 : decode cX3_bring 52 = .ok (.aload_n 0, 1) := by decide +kernel
theorem dX3_bring_53 : decode cX3_bring 53 = .ok (.getfield 21, 3) := by decide +kernel
theorem dX3_bring_56 : decode cX3_bring 56 = .ok (.aload_n 0, 1) := by decide +kernel
theorem dX3_bring_57 : decode cX3_bring 57 = .ok (.getfield 15, 3) := by decide +kernel
theorem dX3_bring_60 : decode cX3_bring 60 = .ok (.iload_n 1, 1) := by decide +kernel
theorem dX3_bring_61 : decode cX3_bring 61 = .ok (.invokevirtual 50, 3) := by decide +kernel
theorem dX3_bring_64 : decode cX3_bring 64 = .ok (.iload 4, 2) := by decide +kernel
theorem dX3_bring_66 : decode cX3_bring 66 = .ok (.istore 5, 2) := by decide +kernel
theorem dX3_bring_68 : decode cX3_bring 68 = .ok (.iload 5, 2) := by decide +kernel
theorem dX3_bring_70 : decode cX3_bring 70 = .ok (.iload_n 3, 1) := by decide +kernel
theorem dX3_bring_71 : decode cX3_bring 71 = .ok (.if_icmp .ge 61, 3) := by decide +kernel
theorem dX3_bring_74 : decode cX3_bring 74 = .ok (.aload_n 0, 1) := by decide +kernel
theorem dX3_bring_75 : decode cX3_bring 75 = .ok (.getfield 21, 3) := by decide +kernel
theorem dX3_bring_78 : decode cX3_bring 78 = .ok (.aload_n 0, 1) := by decide +kernel
theorem dX3_bring_79 : decode cX3_bring 79 = .ok (.getfield 9, 3) := by decide +kernel
theorem dX3_bring_82 : decode cX3_bring 82 = .ok (.iload 5, 2) := by decide +kernel
theorem dX3_bring_84 : decode cX3_bring 84 = .ok (.iload_n 2, 1) := by decide +kernel
theorem dX3_bring_85 : decode cX3_bring 85 = .ok (.invokevirtual 54, 3) := by decide +kernel
theorem dX3_bring_88 : decode cX3_bring 88 = .ok (.aload_n 0, 1) := by decide +kernel
theorem dX3_bring_89 : decode cX3_bring 89 = .ok (.getfield 25, 3) := by decide +kernel
theorem dX3_bring_92 : decode cX3_bring 92 = .ok (.iload_n 1, 1) := by decide +kernel
theorem dX3_bring_93 : decode cX3_bring 93 = .ok (.bipush 8, 2) := by decide +kernel
theorem dX3_bring_95 : decode cX3_bring 95 = .ok (.imul, 1) := by decide +kernel
theorem dX3_bring_96 : decode cX3_bring 96 = .ok (.iload 5, 2) := by decide +kernel
theorem dX3_bring_98 : decode cX3_bring 98 = .ok (.iadd, 1) := by decide +kernel
theorem dX3_bring_99 : decode cX3_bring 99 = .ok (.aload_n 0, 1) := by decide +kernel
theorem dX3_bring_100 : decode cX3_bring 100 = .ok (.getfield 21, 3) := by decide +kernel
theorem dX3_bring_103 : decode cX3_bring 103 = .ok (.invokevirtual 58, 3) := by decide +kernel
theorem dX3_bring_106 : decode cX3_bring 106 = .ok (.iastore, 1) := by decide +kernel
theorem dX3_bring_107 : decode cX3_bring 107 = .ok (.aload_n 0, 1) := by decide +kernel
theorem dX3_bring_108 : decode cX3_bring 108 = .ok (.getfield 29, 3) := by decide +kernel
theorem dX3_bring_111 : decode cX3_bring 111 = .ok (.iload_n 1, 1) := by decide +kernel
theorem dX3_bring_112 : decode cX3_bring 112 = .ok (.bipush 8, 2) := by decide +kernel
theorem dX3_bring_114 : decode cX3_bring 114 = .ok (.imul, 1) := by decide +kernel
theorem dX3_bring_115 : decode cX3_bring 115 = .ok (.iload 5, 2) := by decide +kernel
theorem dX3_bring_117 : decode cX3_bring 117 = .ok (.iadd, 1) := by decide +kernel
theorem dX3_bring_118 : decode cX3_bring 118 = .ok (.aload_n 0, 1) := by decide +kernel
theorem dX3_bring_119 : decode cX3_bring 119 = .ok (.getfield 21, 3) := by decide +kernel
theorem dX3_bring_122 : decode cX3_bring 122 = .ok (.invokevirtual 60, 3) := by decide +kernel
theorem dX3_bring_125 : decode cX3_bring 125 = .ok (.iastore, 1) := by decide +kernel
theorem dX3_bring_126 : decode cX3_bring 126 = .ok (.iinc 5 1, 3) := by decide +kernel
theorem dX3_bring_129 : decode cX3_bring 129 = .ok (.goto (-61), 3) := by decide +kernel
theorem dX3_bring_132 : decode cX3_bring 132 = .ok (.aload_n 0, 1) := by decide +kernel
theorem dX3_bring_133 : decode cX3_bring 133 = .ok (.getfield 32, 3) := by decide +kernel
theorem dX3_bring_136 : decode cX3_bring 136 = .ok (.iload_n 1, 1) := by decide +kernel
theorem dX3_bring_137 : decode cX3_bring 137 = .ok (.iload_n 3, 1) := by decide +kernel
theorem dX3_bring_138 : decode cX3_bring 138 = .ok (.iastore, 1) := by decide +kernel
theorem dX3_bring_139 : decode cX3_bring 139 = .ok (.aload_n 0, 1) := by decide +kernel
theorem dX3_bring_140 : decode cX3_bring 140 = .ok (.getfield 35, 3) := by decide +kernel
theorem dX3_bring_143 : decode cX3_bring 143 = .ok (.iload_n 1, 1) := by decide +kernel
theorem dX3_bring_144 : decode cX3_bring 144 = .ok (.iload_n 2, 1) := by decide +kernel
theorem dX3_bring_145 : decode cX3_bring 145 = .ok (.iastore, 1) := by decide +kernel
theorem dX3_bring_146 : decode cX3_bring 146 = .ok (.return_, 1) := by decide +kernel
theorem dX3_edge_0 : decode cX3_edge 0 = .ok (.iload_n 1, 1) := by decide +kernel
theorem dX3_edge_1 : decode cX3_edge 1 = .ok (.ifCond .lt 28, 3) := by decide +kernel
theorem dX3_edge_4 : decode cX3_edge 4 = .ok (.iload_n 1, 1) := by decide +kernel
theorem dX3_edge_5 : decode cX3_edge 5 = .ok (.bipush 30, 2) := by decide +kernel
theorem dX3_edge_7 : decode cX3_edge 7 = .ok (.if_icmp .ge 22, 3) := by decide +kernel
theorem dX3_edge_10 : decode cX3_edge 10 = .ok (.iload_n 2, 1) := by decide +kernel
theorem dX3_edge_11 : decode cX3_edge 11 = .ok (.ifCond .lt 18, 3) := by decide +kernel
theorem dX3_edge_14 : decode cX3_edge 14 = .ok (.iload_n 2, 1) := by decide +kernel
theorem dX3_edge_15 : decode cX3_edge 15 = .ok (.bipush 8, 2) := by decide +kernel
theorem dX3_edge_17 : decode cX3_edge 17 = .ok (.if_icmp .ge 12, 3) := by decide +kernel
theorem dX3_edge_20 : decode cX3_edge 20 = .ok (.iload_n 3, 1) := by decide +kernel
theorem dX3_edge_21 : decode cX3_edge 21 = .ok (.ifCond .lt 8, 3) := by decide +kernel
theorem dX3_edge_24 : decode cX3_edge 24 = .ok (.iload_n 3, 1) := by decide +kernel
theorem dX3_edge_25 : decode cX3_edge 25 = .ok (.iconst 1, 1) := by decide +kernel
theorem dX3_edge_26 : decode cX3_edge 26 = .ok (.if_icmp .le 5, 3) := by decide +kernel
theorem dX3_edge_29 : decode cX3_edge 29 = .ok (.iconst (-1), 1) := by decide +kernel
theorem dX3_edge_30 : decode cX3_edge 30 = .ok (.ireturn, 1) := by decide +kernel
theorem dX3_edge_31 : decode cX3_edge 31 = .ok (.iload_n 1, 1) := by decide +kernel
theorem dX3_edge_32 : decode cX3_edge 32 = .ok (.bipush 8, 2) := by decide +kernel
theorem dX3_edge_34 : decode cX3_edge 34 = .ok (.imul, 1) := by decide +kernel
theorem dX3_edge_35 : decode cX3_edge 35 = .ok (.iload_n 2, 1) := by decide +kernel
theorem dX3_edge_36 : decode cX3_edge 36 = .ok (.iadd, 1) := by decide +kernel
theorem dX3_edge_37 : decode cX3_edge 37 = .ok (.istore 4, 2) := by decide +kernel
theorem dX3_edge_39 : decode cX3_edge 39 = .ok (.iload_n 3, 1) := by decide +kernel
theorem dX3_edge_40 : decode cX3_edge 40 = .ok (.ifCond .ne 13, 3) := by decide +kernel
theorem dX3_edge_43 : decode cX3_edge 43 = .ok (.aload_n 0, 1) := by decide +kernel
theorem dX3_edge_44 : decode cX3_edge 44 = .ok (.getfield 25, 3) := by decide +kernel
theorem dX3_edge_47 : decode cX3_edge 47 = .ok (.iload 4, 2) := by decide +kernel
theorem dX3_edge_49 : decode cX3_edge 49 = .ok (.iaload, 1) := by decide +kernel
theorem dX3_edge_50 : decode cX3_edge 50 = .ok (.goto 10, 3) := by decide +kernel
theorem dX3_edge_53 : decode cX3_edge 53 = .ok (.aload_n 0, 1) := by decide +kernel
theorem dX3_edge_54 : decode cX3_edge 54 = .ok (.getfield 29, 3) := by decide +kernel
theorem dX3_edge_57 : decode cX3_edge 57 = .ok (.iload 4, 2) := by decide +kernel
theorem dX3_edge_59 : decode cX3_edge 59 = .ok (.iaload, 1) := by decide +kernel
theorem dX3_edge_60 : decode cX3_edge 60 = .ok (.ireturn, 1) := by decide +kernel
set_option maxRecDepth 20000 in
theorem ggX3_isRead_X3_edge : GoodIn wsX3_isRead wsX3_edge := goodIn_r _ [5, 6, 7, 8, 9, 10, 11, 12, 13, 14] (by decide +kernel) (by decide +kernel)
set_option maxRecDepth 20000 in
theorem gX3_isRead_X3_edge : GoodIn wsX3_isRead (wsV RX3 62 RX3 yX3_edge wsX3_edge) := goodIn_app (goodIn_of _ (by decide +kernel)) ggX3_isRead_X3_edge
theorem dX3_isRead_0 : decode cX3_isRead 0 = .ok (.aload_n 0, 1) := by decide +kernel
theorem dX3_isRead_1 : decode cX3_isRead 1 = .ok (.iload_n 1, 1) := by decide +kernel
theorem dX3_isRead_2 : decode cX3_isRead 2 = .ok (.iload_n 2, 1) := by decide +kernel
theorem dX3_isRead_3 : decode cX3_isRead 3 = .ok (.iconst 0, 1) := by decide +kernel
theorem dX3_isRead_4 : decode cX3_isRead 4 = .ok (.invokevirtual 62, 3) := by decide +kernel
theorem dX3_isRead_7 : decode cX3_isRead 7 = .ok (.iconst (-1), 1) := by decide +kernel
theorem dX3_isRead_8 : decode cX3_isRead 8 = .ok (.if_icmp .eq 7, 3) := by decide +kernel
theorem dX3_isRead_11 : decode cX3_isRead 11 = .ok (.iconst 1, 1) := by decide +kernel
theorem dX3_isRead_12 : decode cX3_isRead 12 = .ok (.goto 4, 3) := by decide +kernel
theorem dX3_isRead_15 : decode cX3_isRead 15 = .ok (.iconst 0, 1) := by decide +kernel
theorem dX3_isRead_16 : decode cX3_isRead 16 = .ok (.ireturn, 1) := by decide +kernel
set_option maxRecDepth 20000 in
theorem ggX3_isAlike_X3_edge : GoodIn wsX3_isAlike wsX3_edge := goodIn_r _ [5, 6, 7, 8, 9, 10, 11, 12, 13, 14] (by decide +kernel) (by decide +kernel)
set_option maxRecDepth 20000 in
theorem gX3_isAlike_X3_edge : GoodIn wsX3_isAlike (wsV RX3 62 RX3 yX3_edge wsX3_edge) := goodIn_app (goodIn_of _ (by decide +kernel)) ggX3_isAlike_X3_edge
theorem dX3_isAlike_0 : decode cX3_isAlike 0 = .ok (.aload_n 0, 1) := by decide +kernel
theorem dX3_isAlike_1 : decode cX3_isAlike 1 = .ok (.iload_n 1, 1) := by decide +kernel
theorem dX3_isAlike_2 : decode cX3_isAlike 2 = .ok (.iload_n 2, 1) := by decide +kernel
theorem dX3_isAlike_3 : decode cX3_isAlike 3 = .ok (.iconst 0, 1) := by decide +kernel
theorem dX3_isAlike_4 : decode cX3_isAlike 4 = .ok (.invokevirtual 62, 3) := by decide +kernel
theorem dX3_isAlike_7 : decode cX3_isAlike 7 = .ok (.aload_n 0, 1) := by decide +kernel
theorem dX3_isAlike_8 : decode cX3_isAlike 8 = .ok (.iload_n 1, 1) := by decide +kernel
theorem dX3_isAlike_9 : decode cX3_isAlike 9 = .ok (.iload_n 3, 1) := by decide +kernel
theorem dX3_isAlike_10 : decode cX3_isAlike 10 = .ok (.iconst 0, 1) := by decide +kernel
theorem dX3_isAlike_11 : decode cX3_isAlike 11 = .ok (.invokevirtual 62, 3) := by decide +kernel
theorem dX3_isAlike_14 : decode cX3_isAlike 14 = .ok (.if_icmp .ne 24, 3) := by decide +kernel
theorem dX3_isAlike_17 : decode cX3_isAlike 17 = .ok (.aload_n 0, 1) := by decide +kernel
theorem dX3_isAlike_18 : decode cX3_isAlike 18 = .ok (.iload_n 1, 1) := by decide +kernel
theorem dX3_isAlike_19 : decode cX3_isAlike 19 = .ok (.iload_n 2, 1) := by decide +kernel
theorem dX3_isAlike_20 : decode cX3_isAlike 20 = .ok (.iconst 1, 1) := by decide +kernel
theorem dX3_isAlike_21 : decode cX3_isAlike 21 = .ok (.invokevirtual 62, 3) := by decide +kernel
theorem dX3_isAlike_24 : decode cX3_isAlike 24 = .ok (.aload_n 0, 1) := by decide +kernel
theorem dX3_isAlike_25 : decode cX3_isAlike 25 = .ok (.iload_n 1, 1) := by decide +kernel
theorem dX3_isAlike_26 : decode cX3_isAlike 26 = .ok (.iload_n 3, 1) := by decide +kernel
theorem dX3_isAlike_27 : decode cX3_isAlike 27 = .ok (.iconst 1, 1) := by decide +kernel
theorem dX3_isAlike_28 : decode cX3_isAlike 28 = .ok (.invokevirtual 62, 3) := by decide +kernel
theorem dX3_isAlike_31 : decode cX3_isAlike 31 = .ok (.if_icmp .ne 7, 3) := by decide +kernel
theorem dX3_isAlike_34 : decode cX3_isAlike 34 = .ok (.iconst 1, 1) := by decide +kernel
theorem dX3_isAlike_35 : decode cX3_isAlike 35 = .ok (.goto 4, 3) := by decide +kernel
theorem dX3_isAlike_38 : decode cX3_isAlike 38 = .ok (.iconst 0, 1) := by decide +kernel
theorem dX3_isAlike_39 : decode cX3_isAlike 39 = .ok (.ireturn, 1) := by decide +kernel
set_option maxRecDepth 20000 in
theorem ggX3_unlike_X5_size : GoodIn wsX3_unlike wsX5_size := goodIn_r _ [6, 7, 34, 35, 36] (by decide +kernel) (by decide +kernel)
set_option maxRecDepth 20000 in
theorem gX3_unlike_X5_size : GoodIn wsX3_unlike (wsV RX3 38 RX5 yX5_size wsX5_size) := goodIn_app (goodIn_of _ (by decide +kernel)) ggX3_unlike_X5_size
set_option maxRecDepth 20000 in
theorem ggX3_unlike_X3_isRead : GoodIn wsX3_unlike wsX3_isRead := goodIn_r _ [12, 13, 14, 15, 11, 16, 17, 18, 27, 28, 29, 30, 31, 32, 33] (by decide +kernel) (by decide +kernel)
set_option maxRecDepth 20000 in
theorem gX3_unlike_X3_isRead : GoodIn wsX3_unlike (wsV RX3 66 RX3 yX3_isRead wsX3_isRead) := goodIn_app (goodIn_of _ (by decide +kernel)) ggX3_unlike_X3_isRead
set_option maxRecDepth 20000 in
theorem ggX3_unlike_X3_isSaidAhead : GoodIn wsX3_unlike wsX3_isSaidAhead := goodIn_r _ [22, 23, 24, 25, 11, 26, 13, 14, 15, 16, 17, 18, 27, 28, 29, 30, 31, 32, 33] (by decide +kernel) (by decide +kernel)
set_option maxRecDepth 20000 in
theorem gX3_unlike_X3_isSaidAhead : GoodIn wsX3_unlike (wsV RX3 70 RX3 yX3_isSaidAhead wsX3_isSaidAhead) := goodIn_app (goodIn_of _ (by decide +kernel)) ggX3_unlike_X3_isSaidAhead
theorem dX3_unlike_0 : decode cX3_unlike 0 = .ok (.iconst 0, 1) := by decide +kernel
theorem dX3_unlike_1 : decode cX3_unlike 1 = .ok (.istore_n 2, 1) := by decide +kernel
theorem dX3_unlike_2 : decode cX3_unlike 2 = .ok (.iconst 0, 1) := by decide +kernel
theorem dX3_unlike_3 : decode cX3_unlike 3 = .ok (.istore_n 3, 1) := by decide +kernel
theorem dX3_unlike_4 : decode cX3_unlike 4 = .ok (.iload_n 3, 1) := by decide +kernel
theorem dX3_unlike_5 : decode cX3_unlike 5 = .ok (.aload_n 0, 1) := by decide +kernel
theorem dX3_unlike_6 : decode cX3_unlike 6 = .ok (.getfield 9, 3) := by decide +kernel
theorem dX3_unlike_9 : decode cX3_unlike 9 = .ok (.invokevirtual 38, 3) := by decide +kernel
theorem dX3_unlike_12 : decode cX3_unlike 12 = .ok (.if_icmp .ge 30, 3) := by decide +kernel
theorem dX3_unlike_15 : decode cX3_unlike 15 = .ok (.aload_n 0, 1) := by decide +kernel
theorem dX3_unlike_16 : decode cX3_unlike 16 = .ok (.iload_n 1, 1) := by decide +kernel
theorem dX3_unlike_17 : decode cX3_unlike 17 = .ok (.iload_n 3, 1) := by decide +kernel
theorem dX3_unlike_18 : decode cX3_unlike 18 = .ok (.invokevirtual 66, 3) := by decide +kernel
theorem dX3_unlike_21 : decode cX3_unlike 21 = .ok (.ifCond .eq 15, 3) := by decide +kernel
theorem dX3_unlike_24 : decode cX3_unlike 24 = .ok (.aload_n 0, 1) := by decide +kernel
theorem dX3_unlike_25 : decode cX3_unlike 25 = .ok (.iload_n 1, 1) := by decide +kernel
theorem dX3_unlike_26 : decode cX3_unlike 26 = .ok (.iload_n 3, 1) := by decide +kernel
theorem dX3_unlike_27 : decode cX3_unlike 27 = .ok (.invokevirtual 70, 3) := by decide +kernel
theorem dX3_unlike_30 : decode cX3_unlike 30 = .ok (.ifCond .ne 6, 3) := by decide +kernel
theorem dX3_unlike_33 : decode cX3_unlike 33 = .ok (.iinc 2 1, 3) := by decide +kernel
theorem dX3_unlike_36 : decode cX3_unlike 36 = .ok (.iinc 3 1, 3) := by decide +kernel
theorem dX3_unlike_39 : decode cX3_unlike 39 = .ok (.goto (-35), 3) := by decide +kernel
theorem dX3_unlike_42 : decode cX3_unlike 42 = .ok (.iload_n 2, 1) := by decide +kernel
theorem dX3_unlike_43 : decode cX3_unlike 43 = .ok (.ireturn, 1) := by decide +kernel
set_option maxRecDepth 20000 in
theorem ggX3_isSaidAhead_X3_isAlike : GoodIn wsX3_isSaidAhead wsX3_isAlike := goodIn_r _ [5, 6, 7, 8, 4, 9, 10, 11, 12, 13, 14, 15, 16, 17, 18] (by decide +kernel) (by decide +kernel)
set_option maxRecDepth 20000 in
theorem gX3_isSaidAhead_X3_isAlike : GoodIn wsX3_isSaidAhead (wsV RX3 73 RX3 yX3_isAlike wsX3_isAlike) := goodIn_app (goodIn_of _ (by decide +kernel)) ggX3_isSaidAhead_X3_isAlike
theorem dX3_isSaidAhead_0 : decode cX3_isSaidAhead 0 = .ok (.iconst 0, 1) := by decide +kernel
theorem dX3_isSaidAhead_1 : decode cX3_isSaidAhead 1 = .ok (.istore_n 3, 1) := by decide +kernel
theorem dX3_isSaidAhead_2 : decode cX3_isSaidAhead 2 = .ok (.iload_n 3, 1) := by decide +kernel
theorem dX3_isSaidAhead_3 : decode cX3_isSaidAhead 3 = .ok (.iload_n 2, 1) := by decide +kernel
theorem dX3_isSaidAhead_4 : decode cX3_isSaidAhead 4 = .ok (.if_icmp .ge 21, 3) := by decide +kernel
theorem dX3_isSaidAhead_7 : decode cX3_isSaidAhead 7 = .ok (.aload_n 0, 1) := by decide +kernel
theorem dX3_isSaidAhead_8 : decode cX3_isSaidAhead 8 = .ok (.iload_n 1, 1) := by decide +kernel
theorem dX3_isSaidAhead_9 : decode cX3_isSaidAhead 9 = .ok (.iload_n 3, 1) := by decide +kernel
theorem dX3_isSaidAhead_10 : decode cX3_isSaidAhead 10 = .ok (.iload_n 2, 1) := by decide +kernel
theorem dX3_isSaidAhead_11 : decode cX3_isSaidAhead 11 = .ok (.invokevirtual 73, 3) := by decide +kernel
theorem dX3_isSaidAhead_14 : decode cX3_isSaidAhead 14 = .ok (.ifCond .eq 5, 3) := by decide +kernel
theorem dX3_isSaidAhead_17 : decode cX3_isSaidAhead 17 = .ok (.iconst 1, 1) := by decide +kernel
theorem dX3_isSaidAhead_18 : decode cX3_isSaidAhead 18 = .ok (.ireturn, 1) := by decide +kernel
theorem dX3_isSaidAhead_19 : decode cX3_isSaidAhead 19 = .ok (.iinc 3 1, 3) := by decide +kernel
theorem dX3_isSaidAhead_22 : decode cX3_isSaidAhead 22 = .ok (.goto (-20), 3) := by decide +kernel
theorem dX3_isSaidAhead_25 : decode cX3_isSaidAhead 25 = .ok (.iconst 0, 1) := by decide +kernel
theorem dX3_isSaidAhead_26 : decode cX3_isSaidAhead 26 = .ok (.ireturn, 1) := by decide +kernel
theorem dX4_init_0 : decode cX4_init 0 = .ok (.aload_n 0, 1) := by decide +kernel
theorem dX4_init_1 : decode cX4_init 1 = .ok (.invokespecial 3, 3) := by decide +kernel
theorem dX4_init_4 : decode cX4_init 4 = .ok (.aload_n 0, 1) := by decide +kernel
theorem dX4_init_5 : decode cX4_init 5 = .ok (.bipush 24, 2) := by decide +kernel
theorem dX4_init_7 : decode cX4_init 7 = .ok (.newarray .int, 2) := by decide +kernel
theorem dX4_init_9 : decode cX4_init 9 = .ok (.putfield 9, 3) := by decide +kernel
theorem dX4_init_12 : decode cX4_init 12 = .ok (.aload_n 0, 1) := by decide +kernel
theorem dX4_init_13 : decode cX4_init 13 = .ok (.iconst 0, 1) := by decide +kernel
theorem dX4_init_14 : decode cX4_init 14 = .ok (.putfield 15, 3) := by decide +kernel
theorem dX4_init_17 : decode cX4_init 17 = .ok (.return_, 1) := by decide +kernel
theorem dX4_bytesIn_0 : decode cX4_bytesIn 0 = .ok (.iconst 0, 1) := by decide +kernel
theorem dX4_bytesIn_1 : decode cX4_bytesIn 1 = .ok (.istore_n 1, 1) := by decide +kernel
theorem dX4_bytesIn_2 : decode cX4_bytesIn 2 = .ok (.bipush 24, 2) := by decide +kernel
theorem dX4_bytesIn_4 : decode cX4_bytesIn 4 = .ok (.istore_n 2, 1) := by decide +kernel
theorem dX4_bytesIn_5 : decode cX4_bytesIn 5 = .ok (.iload_n 2, 1) := by decide +kernel
theorem dX4_bytesIn_6 : decode cX4_bytesIn 6 = .ok (.ifCond .lt 22, 3) := by decide +kernel
theorem dX4_bytesIn_9 : decode cX4_bytesIn 9 = .ok (.iload_n 0, 1) := by decide +kernel
theorem dX4_bytesIn_10 : decode cX4_bytesIn 10 = .ok (.iload_n 2, 1) := by decide +kernel
theorem dX4_bytesIn_11 : decode cX4_bytesIn 11 = .ok (.iushr, 1) := by decide +kernel
theorem dX4_bytesIn_12 : decode cX4_bytesIn 12 = .ok (.sipush 255, 3) := by decide +kernel
theorem dX4_bytesIn_15 : decode cX4_bytesIn 15 = .ok (.iand, 1) := by decide +kernel
theorem dX4_bytesIn_16 : decode cX4_bytesIn 16 = .ok (.ifCond .eq 6, 3) := by decide +kernel
theorem dX4_bytesIn_19 : decode cX4_bytesIn 19 = .ok (.iinc 1 1, 3) := by decide +kernel
theorem dX4_bytesIn_22 : decode cX4_bytesIn 22 = .ok (.iinc 2 (-8), 3) := by decide +kernel
theorem dX4_bytesIn_25 : decode cX4_bytesIn 25 = .ok (.goto (-20), 3) := by decide +kernel
theorem dX4_bytesIn_28 : decode cX4_bytesIn 28 = .ok (.iload_n 1, 1) := by decide +kernel
theorem dX4_bytesIn_29 : decode cX4_bytesIn 29 = .ok (.ireturn, 1) := by decide +kernel
theorem dX4_length_0 : decode cX4_length 0 = .ok (.aload_n 0, 1) := by decide +kernel
theorem dX4_length_1 : decode cX4_length 1 = .ok (.getfield 15, 3) := by decide +kernel
theorem dX4_length_4 : decode cX4_length 4 = .ok (.ireturn, 1) := by decide +kernel
theorem dX4_byteAt_0 : decode cX4_byteAt 0 = .ok (.iload_n 1, 1) := by decide +kernel
theorem dX4_byteAt_1 : decode cX4_byteAt 1 = .ok (.ifCond .lt 11, 3) := by decide +kernel
theorem dX4_byteAt_4 : decode cX4_byteAt 4 = .ok (.iload_n 1, 1) := by decide +kernel
theorem dX4_byteAt_5 : decode cX4_byteAt 5 = .ok (.aload_n 0, 1) := by decide +kernel
theorem dX4_byteAt_6 : decode cX4_byteAt 6 = .ok (.getfield 15, 3) := by decide +kernel
theorem dX4_byteAt_9 : decode cX4_byteAt 9 = .ok (.if_icmp .lt 7, 3) := by decide +kernel
theorem dX4_byteAt_12 : decode cX4_byteAt 12 = .ok (.iconst (-1), 1) := by decide +kernel
theorem dX4_byteAt_13 : decode cX4_byteAt 13 = .ok (.goto 9, 3) := by decide +kernel
theorem dX4_byteAt_16 : decode cX4_byteAt 16 = .ok (.aload_n 0, 1) := by decide +kernel
theorem dX4_byteAt_17 : decode cX4_byteAt 17 = .ok (.getfield 9, 3) := by decide +kernel
theorem dX4_byteAt_20 : decode cX4_byteAt 20 = .ok (.iload_n 1, 1) := by decide +kernel
theorem dX4_byteAt_21 : decode cX4_byteAt 21 = .ok (.iaload, 1) := by decide +kernel
theorem dX4_byteAt_22 : decode cX4_byteAt 22 = .ok (.ireturn, 1) := by decide +kernel
theorem dX4_append_0 : decode cX4_append 0 = .ok (.bipush 24, 2) := by decide +kernel
theorem dX4_append_2 : decode cX4_append 2 = .ok (.istore_n 2, 1) := by decide +kernel
theorem dX4_append_3 : decode cX4_append 3 = .ok (.iload_n 2, 1) := by decide +kernel
theorem dX4_append_4 : decode cX4_append 4 = .ok (.ifCond .lt 50, 3) := by decide +kernel
theorem dX4_append_7 : decode cX4_append 7 = .ok (.iload_n 1, 1) := by decide +kernel
theorem dX4_append_8 : decode cX4_append 8 = .ok (.iload_n 2, 1) := by decide +kernel
theorem dX4_append_9 : decode cX4_append 9 = .ok (.iushr, 1) := by decide +kernel
theorem dX4_append_10 : decode cX4_append 10 = .ok (.sipush 255, 3) := by decide +kernel
theorem dX4_append_13 : decode cX4_append 13 = .ok (.iand, 1) := by decide +kernel
theorem dX4_append_14 : decode cX4_append 14 = .ok (.istore_n 3, 1) := by decide +kernel
theorem dX4_append_15 : decode cX4_append 15 = .ok (.iload_n 3, 1) := by decide +kernel
theorem dX4_append_16 : decode cX4_append 16 = .ok (.ifCond .eq 32, 3) := by decide +kernel
theorem dX4_append_19 : decode cX4_append 19 = .ok (.aload_n 0, 1) := by decide +kernel
theorem dX4_append_20 : decode cX4_append 20 = .ok (.getfield 15, 3) := by decide +kernel
theorem dX4_append_23 : decode cX4_append 23 = .ok (.bipush 24, 2) := by decide +kernel
theorem dX4_append_25 : decode cX4_append 25 = .ok (.if_icmp .ge 23, 3) := by decide +kernel
theorem dX4_append_28 : decode cX4_append 28 = .ok (.aload_n 0, 1) := by decide +kernel
theorem dX4_append_29 : decode cX4_append 29 = .ok (.getfield 9, 3) := by decide +kernel
theorem dX4_append_32 : decode cX4_append 32 = .ok (.aload_n 0, 1) := by decide +kernel
theorem dX4_append_33 : decode cX4_append 33 = .ok (.getfield 15, 3) := by decide +kernel
theorem dX4_append_36 : decode cX4_append 36 = .ok (.iload_n 3, 1) := by decide +kernel
theorem dX4_append_37 : decode cX4_append 37 = .ok (.iastore, 1) := by decide +kernel
theorem dX4_append_38 : decode cX4_append 38 = .ok (.aload_n 0, 1) := by decide +kernel
theorem dX4_append_39 : decode cX4_append 39 = .ok (.dup, 1) := by decide +kernel
theorem dX4_append_40 : decode cX4_append 40 = .ok (.getfield 15, 3) := by decide +kernel
theorem dX4_append_43 : decode cX4_append 43 = .ok (.iconst 1, 1) := by decide +kernel
theorem dX4_append_44 : decode cX4_append 44 = .ok (.iadd, 1) := by decide +kernel
theorem dX4_append_45 : decode cX4_append 45 = .ok (.putfield 15, 3) := by decide +kernel
theorem dX4_append_48 : decode cX4_append 48 = .ok (.iinc 2 (-8), 3) := by decide +kernel
theorem dX4_append_51 : decode cX4_append 51 = .ok (.goto (-48), 3) := by decide +kernel
theorem dX4_append_54 : decode cX4_append 54 = .ok (.return_, 1) := by decide +kernel
theorem dX4_cut_0 : decode cX4_cut 0 = .ok (.iload_n 1, 1) := by decide +kernel
theorem dX4_cut_1 : decode cX4_cut 1 = .ok (.ifCond .lt 11, 3) := by decide +kernel
theorem dX4_cut_4 : decode cX4_cut 4 = .ok (.iload_n 1, 1) := by decide +kernel
theorem dX4_cut_5 : decode cX4_cut 5 = .ok (.aload_n 0, 1) := by decide +kernel
theorem dX4_cut_6 : decode cX4_cut 6 = .ok (.getfield 15, 3) := by decide +kernel
theorem dX4_cut_9 : decode cX4_cut 9 = .ok (.if_icmp .le 5, 3) := by decide +kernel
theorem dX4_cut_12 : decode cX4_cut 12 = .ok (.iconst 0, 1) := by decide +kernel
theorem dX4_cut_13 : decode cX4_cut 13 = .ok (.ireturn, 1) := by decide +kernel
theorem dX4_cut_14 : decode cX4_cut 14 = .ok (.aload_n 0, 1) := by decide +kernel
theorem dX4_cut_15 : decode cX4_cut 15 = .ok (.iload_n 1, 1) := by decide +kernel
theorem dX4_cut_16 : decode cX4_cut 16 = .ok (.putfield 15, 3) := by decide +kernel
theorem dX4_cut_19 : decode cX4_cut 19 = .ok (.iconst 1, 1) := by decide +kernel
theorem dX4_cut_20 : decode cX4_cut 20 = .ok (.ireturn, 1) := by decide +kernel
theorem dX4_isText_0 : decode cX4_isText 0 = .ok (.iconst 0, 1) := by decide +kernel
theorem dX4_isText_1 : decode cX4_isText 1 = .ok (.istore_n 1, 1) := by decide +kernel
theorem dX4_isText_2 : decode cX4_isText 2 = .ok (.iload_n 1, 1) := by decide +kernel
theorem dX4_isText_3 : decode cX4_isText 3 = .ok (.aload_n 0, 1) := by decide +kernel
theorem dX4_isText_4 : decode cX4_isText 4 = .ok (.getfield 15, 3) := by decide +kernel
theorem dX4_isText_7 : decode cX4_isText 7 = .ok (.if_icmp .ge 33, 3) := by decide +kernel
theorem dX4_isText_10 : decode cX4_isText 10 = .ok (.aload_n 0, 1) := by decide +kernel
theorem dX4_isText_11 : decode cX4_isText 11 = .ok (.getfield 9, 3) := by decide +kernel
theorem dX4_isText_14 : decode cX4_isText 14 = .ok (.iload_n 1, 1) := by decide +kernel
theorem dX4_isText_15 : decode cX4_isText 15 = .ok (.iaload, 1) := by decide +kernel
theorem dX4_isText_16 : decode cX4_isText 16 = .ok (.bipush 32, 2) := by decide +kernel
theorem dX4_isText_18 : decode cX4_isText 18 = .ok (.if_icmp .lt 14, 3) := by decide +kernel
theorem dX4_isText_21 : decode cX4_isText 21 = .ok (.aload_n 0, 1) := by decide +kernel
theorem dX4_isText_22 : decode cX4_isText 22 = .ok (.getfield 9, 3) := by decide +kernel
theorem dX4_isText_25 : decode cX4_isText 25 = .ok (.iload_n 1, 1) := by decide +kernel
theorem dX4_isText_26 : decode cX4_isText 26 = .ok (.iaload, 1) := by decide +kernel
theorem dX4_isText_27 : decode cX4_isText 27 = .ok (.bipush 126, 2) := by decide +kernel
theorem dX4_isText_29 : decode cX4_isText 29 = .ok (.if_icmp .le 5, 3) := by decide +kernel
theorem dX4_isText_32 : decode cX4_isText 32 = .ok (.iconst 0, 1) := by decide +kernel
theorem dX4_isText_33 : decode cX4_isText 33 = .ok (.ireturn, 1) := by decide +kernel
theorem dX4_isText_34 : decode cX4_isText 34 = .ok (.iinc 1 1, 3) := by decide +kernel
theorem dX4_isText_37 : decode cX4_isText 37 = .ok (.goto (-35), 3) := by decide +kernel
theorem dX4_isText_40 : decode cX4_isText 40 = .ok (.iconst 1, 1) := by decide +kernel
theorem dX4_isText_41 : decode cX4_isText 41 = .ok (.ireturn, 1) := by decide +kernel
set_option maxRecDepth 20000 in
theorem ggX4_isPattern_X4_countOf : GoodIn wsX4_isPattern wsX4_countOf := goodIn_r _ [5, 6, 7, 12, 13] (by decide +kernel) (by decide +kernel)
set_option maxRecDepth 20000 in
theorem gX4_isPattern_X4_countOf : GoodIn wsX4_isPattern (wsV RX4 19 RX4 yX4_countOf wsX4_countOf) := goodIn_app (goodIn_of _ (by decide +kernel)) ggX4_isPattern_X4_countOf
set_option maxRecDepth 20000 in
theorem ggX4_isPattern_X4_isText : GoodIn wsX4_isPattern wsX4_isText := goodIn_r _ [11, 6, 7, 12, 13] (by decide +kernel) (by decide +kernel)
set_option maxRecDepth 20000 in
theorem gX4_isPattern_X4_isText : GoodIn wsX4_isPattern (wsV RX4 23 RX4 yX4_isText wsX4_isText) := goodIn_app (goodIn_of _ (by decide +kernel)) ggX4_isPattern_X4_isText
theorem dX4_isPattern_0 : decode cX4_isPattern 0 = .ok (.aload_n 0, 1) := by decide +kernel
theorem dX4_isPattern_1 : decode cX4_isPattern 1 = .ok (.bipush 68, 2) := by decide +kernel
theorem dX4_isPattern_3 : decode cX4_isPattern 3 = .ok (.invokevirtual 19, 3) := by decide +kernel
theorem dX4_isPattern_6 : decode cX4_isPattern 6 = .ok (.istore_n 1, 1) := by decide +kernel
theorem dX4_isPattern_7 : decode cX4_isPattern 7 = .ok (.aload_n 0, 1) := by decide +kernel
theorem dX4_isPattern_8 : decode cX4_isPattern 8 = .ok (.bipush 77, 2) := by decide +kernel
theorem dX4_isPattern_10 : decode cX4_isPattern 10 = .ok (.invokevirtual 19, 3) := by decide +kernel
theorem dX4_isPattern_13 : decode cX4_isPattern 13 = .ok (.aload_n 0, 1) := by decide +kernel
theorem dX4_isPattern_14 : decode cX4_isPattern 14 = .ok (.bipush 78, 2) := by decide +kernel
theorem dX4_isPattern_16 : decode cX4_isPattern 16 = .ok (.invokevirtual 19, 3) := by decide +kernel
theorem dX4_isPattern_19 : decode cX4_isPattern 19 = .ok (.iadd, 1) := by decide +kernel
theorem dX4_isPattern_20 : decode cX4_isPattern 20 = .ok (.istore_n 2, 1) := by decide +kernel
theorem dX4_isPattern_21 : decode cX4_isPattern 21 = .ok (.aload_n 0, 1) := by decide +kernel
theorem dX4_isPattern_22 : decode cX4_isPattern 22 = .ok (.bipush 89, 2) := by decide +kernel
theorem dX4_isPattern_24 : decode cX4_isPattern 24 = .ok (.invokevirtual 19, 3) := by decide +kernel
theorem dX4_isPattern_27 : decode cX4_isPattern 27 = .ok (.aload_n 0, 1) := by decide +kernel
theorem dX4_isPattern_28 : decode cX4_isPattern 28 = .ok (.bipush 121, 2) := by decide +kernel
theorem dX4_isPattern_30 : decode cX4_isPattern 30 = .ok (.invokevirtual 19, 3) := by decide +kernel
theorem dX4_isPattern_33 : decode cX4_isPattern 33 = .ok (.iadd, 1) := by decide +kernel
theorem dX4_isPattern_34 : decode cX4_isPattern 34 = .ok (.istore_n 3, 1) := by decide +kernel
theorem dX4_isPattern_35 : decode cX4_isPattern 35 = .ok (.aload_n 0, 1) := by decide +kernel
theorem dX4_isPattern_36 : decode cX4_isPattern 36 = .ok (.bipush 87, 2) := by decide +kernel
theorem dX4_isPattern_38 : decode cX4_isPattern 38 = .ok (.invokevirtual 19, 3) := by decide +kernel
theorem dX4_isPattern_41 : decode cX4_isPattern 41 = .ok (.istore 4, 2) := by decide +kernel
theorem dX4_isPattern_43 : decode cX4_isPattern 43 = .ok (.aload_n 0, 1) := by decide +kernel
theorem dX4_isPattern_44 : decode cX4_isPattern 44 = .ok (.invokevirtual 23, 3) := by decide +kernel
theorem dX4_isPattern_47 : decode cX4_isPattern 47 = .ok (.ifCond .eq 28, 3) := by decide +kernel
theorem dX4_isPattern_50 : decode cX4_isPattern 50 = .ok (.iload_n 1, 1) := by decide +kernel
theorem dX4_isPattern_51 : decode cX4_isPattern 51 = .ok (.iconst 1, 1) := by decide +kernel
theorem dX4_isPattern_52 : decode cX4_isPattern 52 = .ok (.if_icmp .gt 23, 3) := by decide +kernel
theorem dX4_isPattern_55 : decode cX4_isPattern 55 = .ok (.iload_n 2, 1) := by decide +kernel
theorem dX4_isPattern_56 : decode cX4_isPattern 56 = .ok (.iconst 1, 1) := by decide +kernel
theorem dX4_isPattern_57 : decode cX4_isPattern 57 = .ok (.if_icmp .ne 18, 3) := by decide +kernel
theorem dX4_isPattern_60 : decode cX4_isPattern 60 = .ok (.iload_n 3, 1) := by decide +kernel
theorem dX4_isPattern_61 : decode cX4_isPattern 61 = .ok (.iconst 1, 1) := by decide +kernel
theorem dX4_isPattern_62 : decode cX4_isPattern 62 = .ok (.if_icmp .ne 13, 3) := by decide +kernel
theorem dX4_isPattern_65 : decode cX4_isPattern 65 = .ok (.iload 4, 2) := by decide +kernel
theorem dX4_isPattern_67 : decode cX4_isPattern 67 = .ok (.iconst 1, 1) := by decide +kernel
theorem dX4_isPattern_68 : decode cX4_isPattern 68 = .ok (.if_icmp .gt 7, 3) := by decide +kernel
theorem dX4_isPattern_71 : decode cX4_isPattern 71 = .ok (.iconst 1, 1) := by decide +kernel
theorem dX4_isPattern_72 : decode cX4_isPattern 72 = .ok (.goto 4, 3) := by decide +kernel
theorem dX4_isPattern_75 : decode cX4_isPattern 75 = .ok (.iconst 0, 1) := by decide +kernel
theorem dX4_isPattern_76 : decode cX4_isPattern 76 = .ok (.ireturn, 1) := by decide +kernel
theorem dX4_countOf_0 : decode cX4_countOf 0 = .ok (.iconst 0, 1) := by decide +kernel
theorem dX4_countOf_1 : decode cX4_countOf 1 = .ok (.istore_n 2, 1) := by decide +kernel
theorem dX4_countOf_2 : decode cX4_countOf 2 = .ok (.iconst 0, 1) := by decide +kernel
theorem dX4_countOf_3 : decode cX4_countOf 3 = .ok (.istore_n 3, 1) := by decide +kernel
theorem dX4_countOf_4 : decode cX4_countOf 4 = .ok (.iload_n 3, 1) := by decide +kernel
theorem dX4_countOf_5 : decode cX4_countOf 5 = .ok (.aload_n 0, 1) := by decide +kernel
theorem dX4_countOf_6 : decode cX4_countOf 6 = .ok (.getfield 15, 3) := by decide +kernel
theorem dX4_countOf_9 : decode cX4_countOf 9 = .ok (.if_icmp .ge 22, 3) := by decide +kernel
theorem dX4_countOf_12 : decode cX4_countOf 12 = .ok (.aload_n 0, 1) := by decide +kernel
theorem dX4_countOf_13 : decode cX4_countOf 13 = .ok (.getfield 9, 3) := by decide +kernel
theorem dX4_countOf_16 : decode cX4_countOf 16 = .ok (.iload_n 3, 1) := by decide +kernel
theorem dX4_countOf_17 : decode cX4_countOf 17 = .ok (.iaload, 1) := by decide +kernel
theorem dX4_countOf_18 : decode cX4_countOf 18 = .ok (.iload_n 1, 1) := by decide +kernel
theorem dX4_countOf_19 : decode cX4_countOf 19 = .ok (.if_icmp .ne 6, 3) := by decide +kernel
theorem dX4_countOf_22 : decode cX4_countOf 22 = .ok (.iinc 2 1, 3) := by decide +kernel
theorem dX4_countOf_25 : decode cX4_countOf 25 = .ok (.iinc 3 1, 3) := by decide +kernel
theorem dX4_countOf_28 : decode cX4_countOf 28 = .ok (.goto (-24), 3) := by decide +kernel
theorem dX4_countOf_31 : decode cX4_countOf 31 = .ok (.iload_n 2, 1) := by decide +kernel
theorem dX4_countOf_32 : decode cX4_countOf 32 = .ok (.ireturn, 1) := by decide +kernel
theorem dX5_init_0 : decode cX5_init 0 = .ok (.aload_n 0, 1) := by decide +kernel
theorem dX5_init_1 : decode cX5_init 1 = .ok (.invokespecial 3, 3) := by decide +kernel
theorem dX5_init_4 : decode cX5_init 4 = .ok (.iconst 0, 1) := by decide +kernel
theorem dX5_init_5 : decode cX5_init 5 = .ok (.iload_n 1, 1) := by decide +kernel
theorem dX5_init_6 : decode cX5_init 6 = .ok (.bipush 30, 2) := by decide +kernel
theorem dX5_init_8 : decode cX5_init 8 = .ok (.invokestatic 9, 3) := by decide +kernel
theorem dX5_init_11 : decode cX5_init 11 = .ok (.invokestatic 15, 3) := by decide +kernel
theorem dX5_init_14 : decode cX5_init 14 = .ok (.istore_n 2, 1) := by decide +kernel
theorem dX5_init_15 : decode cX5_init 15 = .ok (.aload_n 0, 1) := by decide +kernel
theorem dX5_init_16 : decode cX5_init 16 = .ok (.iload_n 2, 1) := by decide +kernel
theorem dX5_init_17 : decode cX5_init 17 = .ok (.bipush 24, 2) := by decide +kernel
theorem dX5_init_19 : decode cX5_init 19 = .ok (.imul, 1) := by decide +kernel
theorem dX5_init_20 : decode cX5_init 20 = .ok (.newarray .int, 2) := by decide +kernel
theorem dX5_init_22 : decode cX5_init 22 = .ok (.putfield 18, 3) := by decide +kernel
theorem dX5_init_25 : decode cX5_init 25 = .ok (.aload_n 0, 1) := by decide +kernel
theorem dX5_init_26 : decode cX5_init 26 = .ok (.iload_n 2, 1) := by decide +kernel
theorem dX5_init_27 : decode cX5_init 27 = .ok (.newarray .int, 2) := by decide +kernel
theorem dX5_init_29 : decode cX5_init 29 = .ok (.putfield 24, 3) := by decide +kernel
theorem dX5_init_32 : decode cX5_init 32 = .ok (.aload_n 0, 1) := by decide +kernel
theorem dX5_init_33 : decode cX5_init 33 = .ok (.iconst 0, 1) := by decide +kernel
theorem dX5_init_34 : decode cX5_init 34 = .ok (.putfield 27, 3) := by decide +kernel
theorem dX5_init_37 : decode cX5_init 37 = .ok (.return_, 1) := by decide +kernel
theorem dX5_size_0 : decode cX5_size 0 = .ok (.aload_n 0, 1) := by decide +kernel
theorem dX5_size_1 : decode cX5_size 1 = .ok (.getfield 27, 3) := by decide +kernel
theorem dX5_size_4 : decode cX5_size 4 = .ok (.ireturn, 1) := by decide +kernel
theorem dX5_isFull_0 : decode cX5_isFull 0 = .ok (.aload_n 0, 1) := by decide +kernel
theorem dX5_isFull_1 : decode cX5_isFull 1 = .ok (.getfield 27, 3) := by decide +kernel
theorem dX5_isFull_4 : decode cX5_isFull 4 = .ok (.aload_n 0, 1) := by decide +kernel
theorem dX5_isFull_5 : decode cX5_isFull 5 = .ok (.getfield 24, 3) := by decide +kernel
theorem dX5_isFull_8 : decode cX5_isFull 8 = .ok (.arraylength, 1) := by decide +kernel
theorem dX5_isFull_9 : decode cX5_isFull 9 = .ok (.if_icmp .lt 7, 3) := by decide +kernel
theorem dX5_isFull_12 : decode cX5_isFull 12 = .ok (.iconst 1, 1) := by decide +kernel
theorem dX5_isFull_13 : decode cX5_isFull 13 = .ok (.goto 4, 3) := by decide +kernel
theorem dX5_isFull_16 : decode cX5_isFull 16 = .ok (.iconst 0, 1) := by decide +kernel
theorem dX5_isFull_17 : decode cX5_isFull 17 = .ok (.ireturn, 1) := by decide +kernel
theorem dX5_has_0 : decode cX5_has 0 = .ok (.iload_n 1, 1) := by decide +kernel
theorem dX5_has_1 : decode cX5_has 1 = .ok (.ifCond .lt 15, 3) := by decide +kernel
theorem dX5_has_4 : decode cX5_has 4 = .ok (.iload_n 1, 1) := by decide +kernel
theorem dX5_has_5 : decode cX5_has 5 = .ok (.aload_n 0, 1) := by decide +kernel
theorem dX5_has_6 : decode cX5_has 6 = .ok (.getfield 27, 3) := by decide +kernel
theorem dX5_has_9 : decode cX5_has 9 = .ok (.if_icmp .ge 7, 3) := by decide +kernel
theorem dX5_has_12 : decode cX5_has 12 = .ok (.iconst 1, 1) := by decide +kernel
theorem dX5_has_13 : decode cX5_has 13 = .ok (.goto 4, 3) := by decide +kernel
theorem dX5_has_16 : decode cX5_has 16 = .ok (.iconst 0, 1) := by decide +kernel
theorem dX5_has_17 : decode cX5_has 17 = .ok (.ireturn, 1) := by decide +kernel
set_option maxRecDepth 20000 in
theorem ggX5_add_X5_isFull : GoodIn wsX5_add wsX5_isFull := goodIn_r _ [8, 1, 3, 24, 25, 26] (by decide +kernel) (by decide +kernel)
set_option maxRecDepth 20000 in
theorem gX5_add_X5_isFull : GoodIn wsX5_add (wsV RX5 31 RX5 yX5_isFull wsX5_isFull) := goodIn_app (goodIn_of _ (by decide +kernel)) ggX5_add_X5_isFull
set_option maxRecDepth 20000 in
theorem ggX5_add_X4_length : GoodIn wsX5_add wsX4_length := goodIn_r _ [13, 14, 27, 28] (by decide +kernel) (by decide +kernel)
set_option maxRecDepth 20000 in
theorem gX5_add_X4_length : GoodIn wsX5_add (wsV RX5 35 RX4 yX4_length wsX4_length) := goodIn_app (goodIn_of _ (by decide +kernel)) ggX5_add_X4_length
set_option maxRecDepth 20000 in
theorem ggX5_add_X4_byteAt : GoodIn wsX5_add wsX4_byteAt := goodIn_r _ [18, 14, 19, 27, 28] (by decide +kernel) (by decide +kernel)
set_option maxRecDepth 20000 in
theorem gX5_add_X4_byteAt : GoodIn wsX5_add (wsV RX5 41 RX4 yX4_byteAt wsX4_byteAt) := goodIn_app (goodIn_of _ (by decide +kernel)) ggX5_add_X4_byteAt
set_option maxRecDepth 20000 in
theorem ggX5_add_X4_cut : GoodIn wsX5_add wsX4_cut := goodIn_r _ [23, 14, 27, 28] (by decide +kernel) (by decide +kernel)
set_option maxRecDepth 20000 in
theorem gX5_add_X4_cut : GoodIn wsX5_add (wsV RX5 45 RX4 yX4_cut wsX4_cut) := goodIn_app (goodIn_of _ (by decide +kernel)) ggX5_add_X4_cut
theorem dX5_add_0 : decode cX5_add 0 = .ok (.aload_n 0, 1) := by decide +kernel
theorem dX5_add_1 : decode cX5_add 1 = .ok (.invokevirtual 31, 3) := by decide +kernel
theorem dX5_add_4 : decode cX5_add 4 = .ok (.ifCond .eq 5, 3) := by decide +kernel
theorem dX5_add_7 : decode cX5_add 7 = .ok (.iconst (-1), 1) := by decide +kernel
theorem dX5_add_8 : decode cX5_add 8 = .ok (.ireturn, 1) := by decide +kernel
theorem dX5_add_9 : decode cX5_add 9 = .ok (.aload_n 0, 1) := by decide +kernel
theorem dX5_add_10 : decode cX5_add 10 = .ok (.getfield 27, 3) := by decide +kernel
theorem dX5_add_13 : decode cX5_add 13 = .ok (.istore_n 2, 1) := by decide +kernel
theorem dX5_add_14 : decode cX5_add 14 = .ok (.aload_n 1, 1) := by decide +kernel
theorem dX5_add_15 : decode cX5_add 15 = .ok (.invokevirtual 35, 3) := by decide +kernel
theorem dX5_add_18 : decode cX5_add 18 = .ok (.istore_n 3, 1) := by decide +kernel
theorem dX5_add_19 : decode cX5_add 19 = .ok (.iconst 0, 1) := by decide +kernel
theorem dX5_add_20 : decode cX5_add 20 = .ok (.istore 4, 2) := by decide +kernel
theorem dX5_add_22 : decode cX5_add 22 = .ok (.iload 4, 2) := by decide +kernel
theorem dX5_add_24 : decode cX5_add 24 = .ok (.iload_n 3, 1) := by decide +kernel
theorem dX5_add_25 : decode cX5_add 25 = .ok (.if_icmp .ge 34, 3) := by decide +kernel
theorem dX5_add_28 : decode cX5_add 28 = .ok (.iload 4, 2) := by decide +kernel
theorem dX5_add_30 : decode cX5_add 30 = .ok (.bipush 24, 2) := by decide +kernel
theorem dX5_add_32 : decode cX5_add 32 = .ok (.if_icmp .ge 27, 3) := by decide +kernel
theorem dX5_add_35 : decode cX5_add 35 = .ok (.aload_n 0, 1) := by decide +kernel
theorem dX5_add_36 : decode cX5_add 36 = .ok (.getfield 18, 3) := by decide +kernel
theorem dX5_add_39 : decode cX5_add 39 = .ok (.iload_n 2, 1) := by decide +kernel
theorem dX5_add_40 : decode cX5_add 40 = .ok (.bipush 24, 2) := by decide +kernel
theorem dX5_add_42 : decode cX5_add 42 = .ok (.imul, 1) := by decide +kernel
theorem dX5_add_43 : decode cX5_add 43 = .ok (.iload 4, 2) := by decide +kernel
theorem dX5_add_45 : decode cX5_add 45 = .ok (.iadd, 1) := by decide +kernel
theorem dX5_add_46 : decode cX5_add 46 = .ok (.aload_n 1, 1) := by decide +kernel
theorem dX5_add_47 : decode cX5_add 47 = .ok (.iload 4, 2) := by decide +kernel
theorem dX5_add_49 : decode cX5_add 49 = .ok (.invokevirtual 41, 3) := by decide +kernel
theorem dX5_add_52 : decode cX5_add 52 = .ok (.iastore, 1) := by decide +kernel
theorem dX5_add_53 : decode cX5_add 53 = .ok (.iinc 4 1, 3) := by decide +kernel
theorem dX5_add_56 : decode cX5_add 56 = .ok (.goto (-34), 3) := by decide +kernel
theorem dX5_add_59 : decode cX5_add 59 = .ok (.aload_n 0, 1) := by decide +kernel
theorem dX5_add_60 : decode cX5_add 60 = .ok (.getfield 24, 3) := by decide +kernel
theorem dX5_add_63 : decode cX5_add 63 = .ok (.iload_n 2, 1) := by decide +kernel
theorem dX5_add_64 : decode cX5_add 64 = .ok (.iload_n 3, 1) := by decide +kernel
theorem dX5_add_65 : decode cX5_add 65 = .ok (.iastore, 1) := by decide +kernel
theorem dX5_add_66 : decode cX5_add 66 = .ok (.aload_n 0, 1) := by decide +kernel
theorem dX5_add_67 : decode cX5_add 67 = .ok (.dup, 1) := by decide +kernel
theorem dX5_add_68 : decode cX5_add 68 = .ok (.getfield 27, 3) := by decide +kernel
theorem dX5_add_71 : decode cX5_add 71 = .ok (.iconst 1, 1) := by decide +kernel
theorem dX5_add_72 : decode cX5_add 72 = .ok (.iadd, 1) := by decide +kernel
theorem dX5_add_73 : decode cX5_add 73 = .ok (.putfield 27, 3) := by decide +kernel
theorem dX5_add_76 : decode cX5_add 76 = .ok (.aload_n 1, 1) := by decide +kernel
theorem dX5_add_77 : decode cX5_add 77 = .ok (.iconst 0, 1) := by decide +kernel
theorem dX5_add_78 : decode cX5_add 78 = .ok (.invokevirtual 45, 3) := by decide +kernel
theorem dX5_add_81 : decode cX5_add 81 = .ok (.pop, 1) := by decide +kernel
theorem dX5_add_82 : decode cX5_add 82 = .ok (.iload_n 2, 1) := by decide +kernel
theorem dX5_add_83 : decode cX5_add 83 = .ok (.ireturn, 1) := by decide +kernel
theorem dX5_removeAll_0 : decode cX5_removeAll 0 = .ok (.aload_n 0, 1) := by decide +kernel
theorem dX5_removeAll_1 : decode cX5_removeAll 1 = .ok (.iconst 0, 1) := by decide +kernel
theorem dX5_removeAll_2 : decode cX5_removeAll 2 = .ok (.putfield 27, 3) := by decide +kernel
theorem dX5_removeAll_5 : decode cX5_removeAll 5 = .ok (.return_, 1) := by decide +kernel
set_option maxRecDepth 20000 in
theorem ggX5_lengthOf_X5_has : GoodIn wsX5_lengthOf wsX5_has := goodIn_r _ [6, 7, 8, 9, 10] (by decide +kernel) (by decide +kernel)
set_option maxRecDepth 20000 in
theorem gX5_lengthOf_X5_has : GoodIn wsX5_lengthOf (wsV RX5 49 RX5 yX5_has wsX5_has) := goodIn_app (goodIn_of _ (by decide +kernel)) ggX5_lengthOf_X5_has
theorem dX5_lengthOf_0 : decode cX5_lengthOf 0 = .ok (.aload_n 0, 1) := by decide +kernel
theorem dX5_lengthOf_1 : decode cX5_lengthOf 1 = .ok (.iload_n 1, 1) := by decide +kernel
theorem dX5_lengthOf_2 : decode cX5_lengthOf 2 = .ok (.invokevirtual 49, 3) := by decide +kernel
theorem dX5_lengthOf_5 : decode cX5_lengthOf 5 = .ok (.ifCond .eq 12, 3) := by decide +kernel
theorem dX5_lengthOf_8 : decode cX5_lengthOf 8 = .ok (.aload_n 0, 1) := by decide +kernel
theorem dX5_lengthOf_9 : decode cX5_lengthOf 9 = .ok (.getfield 24, 3) := by decide +kernel
theorem dX5_lengthOf_12 : decode cX5_lengthOf 12 = .ok (.iload_n 1, 1) := by decide +kernel
theorem dX5_lengthOf_13 : decode cX5_lengthOf 13 = .ok (.iaload, 1) := by decide +kernel
theorem dX5_lengthOf_14 : decode cX5_lengthOf 14 = .ok (.goto 4, 3) := by decide +kernel
theorem dX5_lengthOf_17 : decode cX5_lengthOf 17 = .ok (.iconst 0, 1) := by decide +kernel
theorem dX5_lengthOf_18 : decode cX5_lengthOf 18 = .ok (.ireturn, 1) := by decide +kernel
set_option maxRecDepth 20000 in
theorem ggX5_byteAt_X5_lengthOf : GoodIn wsX5_byteAt wsX5_lengthOf := goodIn_r _ [6, 7, 8, 9, 10, 5, 11, 12, 13, 14, 15] (by decide +kernel) (by decide +kernel)
set_option maxRecDepth 20000 in
theorem gX5_byteAt_X5_lengthOf : GoodIn wsX5_byteAt (wsV RX5 52 RX5 yX5_lengthOf wsX5_lengthOf) := goodIn_app (goodIn_of _ (by decide +kernel)) ggX5_byteAt_X5_lengthOf
theorem dX5_byteAt_0 : decode cX5_byteAt 0 = .ok (.iload_n 2, 1) := by decide +kernel
theorem dX5_byteAt_1 : decode cX5_byteAt 1 = .ok (.ifCond .lt 12, 3) := by decide +kernel
theorem dX5_byteAt_4 : decode cX5_byteAt 4 = .ok (.iload_n 2, 1) := by decide +kernel
theorem dX5_byteAt_5 : decode cX5_byteAt 5 = .ok (.aload_n 0, 1) := by decide +kernel
theorem dX5_byteAt_6 : decode cX5_byteAt 6 = .ok (.iload_n 1, 1) := by decide +kernel
theorem dX5_byteAt_7 : decode cX5_byteAt 7 = .ok (.invokevirtual 52, 3) := by decide +kernel
theorem dX5_byteAt_10 : decode cX5_byteAt 10 = .ok (.if_icmp .lt 7, 3) := by decide +kernel
theorem dX5_byteAt_13 : decode cX5_byteAt 13 = .ok (.iconst (-1), 1) := by decide +kernel
theorem dX5_byteAt_14 : decode cX5_byteAt 14 = .ok (.goto 14, 3) := by decide +kernel
theorem dX5_byteAt_17 : decode cX5_byteAt 17 = .ok (.aload_n 0, 1) := by decide +kernel
theorem dX5_byteAt_18 : decode cX5_byteAt 18 = .ok (.getfield 18, 3) := by decide +kernel
theorem dX5_byteAt_21 : decode cX5_byteAt 21 = .ok (.iload_n 1, 1) := by decide +kernel
theorem dX5_byteAt_22 : decode cX5_byteAt 22 = .ok (.bipush 24, 2) := by decide +kernel
theorem dX5_byteAt_24 : decode cX5_byteAt 24 = .ok (.imul, 1) := by decide +kernel
theorem dX5_byteAt_25 : decode cX5_byteAt 25 = .ok (.iload_n 2, 1) := by decide +kernel
theorem dX5_byteAt_26 : decode cX5_byteAt 26 = .ok (.iadd, 1) := by decide +kernel
theorem dX5_byteAt_27 : decode cX5_byteAt 27 = .ok (.iaload, 1) := by decide +kernel
theorem dX5_byteAt_28 : decode cX5_byteAt 28 = .ok (.ireturn, 1) := by decide +kernel
theorem dX6_init_0 : decode cX6_init 0 = .ok (.aload_n 0, 1) := by decide +kernel
theorem dX6_init_1 : decode cX6_init 1 = .ok (.invokespecial 3, 3) := by decide +kernel
theorem dX6_init_4 : decode cX6_init 4 = .ok (.aload_n 0, 1) := by decide +kernel
theorem dX6_init_5 : decode cX6_init 5 = .ok (.aload_n 1, 1) := by decide +kernel
theorem dX6_init_6 : decode cX6_init 6 = .ok (.putfield 9, 3) := by decide +kernel
theorem dX6_init_9 : decode cX6_init 9 = .ok (.aload_n 0, 1) := by decide +kernel
theorem dX6_init_10 : decode cX6_init 10 = .ok (.bipush 8, 2) := by decide +kernel
theorem dX6_init_12 : decode cX6_init 12 = .ok (.newarray .int, 2) := by decide +kernel
theorem dX6_init_14 : decode cX6_init 14 = .ok (.putfield 15, 3) := by decide +kernel
theorem dX6_init_17 : decode cX6_init 17 = .ok (.aload_n 0, 1) := by decide +kernel
theorem dX6_init_18 : decode cX6_init 18 = .ok (.iconst 3, 1) := by decide +kernel
theorem dX6_init_19 : decode cX6_init 19 = .ok (.newarray .int, 2) := by decide +kernel
theorem dX6_init_21 : decode cX6_init 21 = .ok (.dup, 1) := by decide +kernel
theorem dX6_init_22 : decode cX6_init 22 = .ok (.iconst 0, 1) := by decide +kernel
theorem dX6_init_23 : decode cX6_init 23 = .ok (.bipush 20, 2) := by decide +kernel
theorem dX6_init_25 : decode cX6_init 25 = .ok (.iastore, 1) := by decide +kernel
theorem dX6_init_26 : decode cX6_init 26 = .ok (.dup, 1) := by decide +kernel
theorem dX6_init_27 : decode cX6_init 27 = .ok (.iconst 1, 1) := by decide +kernel
theorem dX6_init_28 : decode cX6_init 28 = .ok (.bipush 10, 2) := by decide +kernel
theorem dX6_init_30 : decode cX6_init 30 = .ok (.iastore, 1) := by decide +kernel
theorem dX6_init_31 : decode cX6_init 31 = .ok (.dup, 1) := by decide +kernel
theorem dX6_init_32 : decode cX6_init 32 = .ok (.iconst 2, 1) := by decide +kernel
theorem dX6_init_33 : decode cX6_init 33 = .ok (.iconst 5, 1) := by decide +kernel
theorem dX6_init_34 : decode cX6_init 34 = .ok (.iastore, 1) := by decide +kernel
theorem dX6_init_35 : decode cX6_init 35 = .ok (.putfield 19, 3) := by decide +kernel
theorem dX6_init_38 : decode cX6_init 38 = .ok (.aload_n 0, 1) := by decide +kernel
theorem dX6_init_39 : decode cX6_init 39 = .ok (.sipush 240, 3) := by decide +kernel
theorem dX6_init_42 : decode cX6_init 42 = .ok (.newarray .int, 2) := by decide +kernel
theorem dX6_init_44 : decode cX6_init 44 = .ok (.putfield 22, 3) := by decide +kernel
theorem dX6_init_47 : decode cX6_init 47 = .ok (.aload_n 0, 1) := by decide +kernel
theorem dX6_init_48 : decode cX6_init 48 = .ok (.sipush 240, 3) := by decide +kernel
theorem dX6_init_51 : decode cX6_init 51 = .ok (.newarray .int, 2) := by decide +kernel
theorem dX6_init_53 : decode cX6_init 53 = .ok (.putfield 25, 3) := by decide +kernel
theorem dX6_init_56 : decode cX6_init 56 = .ok (.aload_n 0, 1) := by decide +kernel
theorem dX6_init_57 : decode cX6_init 57 = .ok (.bipush 30, 2) := by decide +kernel
theorem dX6_init_59 : decode cX6_init 59 = .ok (.newarray .int, 2) := by decide +kernel
theorem dX6_init_61 : decode cX6_init 61 = .ok (.putfield 28, 3) := by decide +kernel
theorem dX6_init_64 : decode cX6_init 64 = .ok (.aload_n 0, 1) := by decide +kernel
theorem dX6_init_65 : decode cX6_init 65 = .ok (.iconst 0, 1) := by decide +kernel
theorem dX6_init_66 : decode cX6_init 66 = .ok (.putfield 31, 3) := by decide +kernel
theorem dX6_init_69 : decode cX6_init 69 = .ok (.aload_n 0, 1) := by decide +kernel
theorem dX6_init_70 : decode cX6_init 70 = .ok (.iconst 0, 1) := by decide +kernel
theorem dX6_init_71 : decode cX6_init 71 = .ok (.putfield 35, 3) := by decide +kernel
theorem dX6_init_74 : decode cX6_init 74 = .ok (.return_, 1) := by decide +kernel
theorem dX6_setCost_0 : decode cX6_setCost 0 = .ok (.iload_n 1, 1) := by decide +kernel
theorem dX6_setCost_1 : decode cX6_setCost 1 = .ok (.ifCond .lt 19, 3) := by decide +kernel
theorem dX6_setCost_4 : decode cX6_setCost 4 = .ok (.iload_n 1, 1) := by decide +kernel
theorem dX6_setCost_5 : decode cX6_setCost 5 = .ok (.aload_n 0, 1) := by decide +kernel
theorem dX6_setCost_6 : decode cX6_setCost 6 = .ok (.getfield 15, 3) := by decide +kernel
theorem dX6_setCost_9 : decode cX6_setCost 9 = .ok (.arraylength, 1) := by decide +kernel
theorem dX6_setCost_10 : decode cX6_setCost 10 = .ok (.if_icmp .ge 10, 3) := by decide +kernel
theorem dX6_setCost_13 : decode cX6_setCost 13 = .ok (.aload_n 0, 1) := by decide +kernel
theorem dX6_setCost_14 : decode cX6_setCost 14 = .ok (.getfield 15, 3) := by decide +kernel
theorem dX6_setCost_17 : decode cX6_setCost 17 = .ok (.iload_n 1, 1) := by decide +kernel
theorem dX6_setCost_18 : decode cX6_setCost 18 = .ok (.iload_n 2, 1) := by decide +kernel
theorem dX6_setCost_19 : decode cX6_setCost 19 = .ok (.iastore, 1) := by decide +kernel
theorem dX6_setCost_20 : decode cX6_setCost 20 = .ok (.return_, 1) := by decide +kernel
theorem dX6_setPrice_0 : decode cX6_setPrice 0 = .ok (.iload_n 1, 1) := by decide +kernel
theorem dX6_setPrice_1 : decode cX6_setPrice 1 = .ok (.ifCond .lt 12, 3) := by decide +kernel
theorem dX6_setPrice_4 : decode cX6_setPrice 4 = .ok (.iload_n 1, 1) := by decide +kernel
theorem dX6_setPrice_5 : decode cX6_setPrice 5 = .ok (.aload_n 0, 1) := by decide +kernel
theorem dX6_setPrice_6 : decode cX6_setPrice 6 = .ok (.getfield 19, 3) := by decide +kernel
theorem dX6_setPrice_9 : decode cX6_setPrice 9 = .ok (.arraylength, 1) := by decide +kernel
theorem dX6_setPrice_10 : decode cX6_setPrice 10 = .ok (.if_icmp .lt 5, 3) := by decide +kernel
theorem dX6_setPrice_13 : decode cX6_setPrice 13 = .ok (.iconst 0, 1) := by decide +kernel
theorem dX6_setPrice_14 : decode cX6_setPrice 14 = .ok (.ireturn, 1) := by decide +kernel
theorem dX6_setPrice_15 : decode cX6_setPrice 15 = .ok (.aload_n 0, 1) := by decide +kernel
theorem dX6_setPrice_16 : decode cX6_setPrice 16 = .ok (.getfield 19, 3) := by decide +kernel
theorem dX6_setPrice_19 : decode cX6_setPrice 19 = .ok (.iload_n 1, 1) := by decide +kernel
theorem dX6_setPrice_20 : decode cX6_setPrice 20 = .ok (.iload_n 2, 1) := by decide +kernel
theorem dX6_setPrice_21 : decode cX6_setPrice 21 = .ok (.iastore, 1) := by decide +kernel
theorem dX6_setPrice_22 : decode cX6_setPrice 22 = .ok (.iconst 1, 1) := by decide +kernel
theorem dX6_setPrice_23 : decode cX6_setPrice 23 = .ok (.ireturn, 1) := by decide +kernel
set_option maxRecDepth 20000 in
theorem ggX6_settle_X6_addUpAhead : GoodIn wsX6_settle wsX6_addUpAhead := goodIn_r _ [15, 9, 16, 17, 1, 2, 3, 4, 18, 19, 20, 14, 21, 22, 23, 24, 25, 26, 27, 28, 29, 30, 31, 32, 33, 34, 35, 36, 37, 38, 48, 49, 50, 51, 52, 53, 54, 55, 56, 57, 58, 59, 60, 61, 62] (by decide +kernel) (by decide +kernel)
set_option maxRecDepth 20000 in
theorem gX6_settle_X6_addUpAhead : GoodIn wsX6_settle (wsV RX6 47 RX6 yX6_addUpAhead wsX6_addUpAhead) := goodIn_app (goodIn_of _ (by decide +kernel)) ggX6_settle_X6_addUpAhead
set_option maxRecDepth 20000 in
theorem ggX6_settle_X6_addUpBehind : GoodIn wsX6_settle wsX6_addUpBehind := goodIn_r _ [42, 9, 8, 43, 1, 2, 3, 4, 31, 32, 33, 14, 34, 23, 16, 18, 19, 20, 21, 22, 24, 25, 26, 27, 28, 29, 30, 35, 36, 37, 38, 48, 49, 50, 51, 52, 53, 54, 55, 56, 57, 58, 59, 60, 61, 62] (by decide +kernel) (by decide +kernel)
set_option maxRecDepth 20000 in
theorem gX6_settle_X6_addUpBehind : GoodIn wsX6_settle (wsV RX6 51 RX6 yX6_addUpBehind wsX6_addUpBehind) := goodIn_app (goodIn_of _ (by decide +kernel)) ggX6_settle_X6_addUpBehind
set_option maxRecDepth 20000 in
theorem ggX6_settle_X6_cheapestStyle : GoodIn wsX6_settle wsX6_cheapestStyle := goodIn_r _ [47, 9, 16, 10, 43, 18, 19, 20, 14, 21, 22, 23, 24, 25, 26, 27, 28, 29, 30, 31, 32, 33, 34, 35, 36, 37, 38, 48, 49, 50, 51, 52, 53, 54, 55, 56, 57, 58, 59, 60, 61, 62] (by decide +kernel) (by decide +kernel)
set_option maxRecDepth 20000 in
theorem gX6_settle_X6_cheapestStyle : GoodIn wsX6_settle (wsV RX6 54 RX6 yX6_cheapestStyle wsX6_cheapestStyle) := goodIn_app (goodIn_of _ (by decide +kernel)) ggX6_settle_X6_cheapestStyle
theorem dX6_settle_0 : decode cX6_settle 0 = .ok (.aload_n 0, 1) := by decide +kernel
theorem dX6_settle_1 : decode cX6_settle 1 = .ok (.iconst 0, 1) := by decide +kernel
theorem dX6_settle_2 : decode cX6_settle 2 = .ok (.iload_n 1, 1) := by decide +kernel
theorem dX6_settle_3 : decode cX6_settle 3 = .ok (.bipush 30, 2) := by decide +kernel
theorem dX6_settle_5 : decode cX6_settle 5 = .ok (.invokestatic 38, 3) := by decide +kernel
theorem dX6_settle_8 : decode cX6_settle 8 = .ok (.invokestatic 44, 3) := by decide +kernel
theorem dX6_settle_11 : decode cX6_settle 11 = .ok (.putfield 31, 3) := by decide +kernel
theorem dX6_settle_14 : decode cX6_settle 14 = .ok (.aload_n 0, 1) := by decide +kernel
theorem dX6_settle_15 : decode cX6_settle 15 = .ok (.iconst 0, 1) := by decide +kernel
theorem dX6_settle_16 : decode cX6_settle 16 = .ok (.iload_n 2, 1) := by decide +kernel
theorem dX6_settle_17 : decode cX6_settle 17 = .ok (.bipush 8, 2) := by decide +kernel
theorem dX6_settle_19 : decode cX6_settle 19 = .ok (.invokestatic 38, 3) := by decide +kernel
theorem dX6_settle_22 : decode cX6_settle 22 = .ok (.invokestatic 44, 3) := by decide +kernel
theorem dX6_settle_25 : decode cX6_settle 25 = .ok (.putfield 35, 3) := by decide +kernel
theorem dX6_settle_28 : decode cX6_settle 28 = .ok (.iconst 0, 1) := by decide +kernel
theorem dX6_settle_29 : decode cX6_settle 29 = .ok (.istore_n 3, 1) := by decide +kernel
theorem dX6_settle_30 : decode cX6_settle 30 = .ok (.iload_n 3, 1) := by decide +kernel
theorem dX6_settle_31 : decode cX6_settle 31 = .ok (.aload_n 0, 1) := by decide +kernel
theorem dX6_settle_32 : decode cX6_settle 32 = .ok (.getfield 31, 3) := by decide +kernel
theorem dX6_settle_35 : decode cX6_settle 35 = .ok (.if_icmp .ge 14, 3) := by decide +kernel
theorem dX6_settle_38 : decode cX6_settle 38 = .ok (.aload_n 0, 1) := by decide +kernel
theorem dX6_settle_39 : decode cX6_settle 39 = .ok (.iload_n 3, 1) := by decide +kernel
theorem dX6_settle_40 : decode cX6_settle 40 = .ok (.invokevirtual 47, 3) := by decide +kernel
theorem dX6_settle_43 : decode cX6_settle 43 = .ok (.iinc 3 1, 3) := by decide +kernel
theorem dX6_settle_46 : decode cX6_settle 46 = .ok (.goto (-16), 3) := by decide +kernel
theorem dX6_settle_49 : decode cX6_settle 49 = .ok (.aload_n 0, 1) := by decide +kernel
theorem dX6_settle_50 : decode cX6_settle 50 = .ok (.getfield 31, 3) := by decide +kernel
theorem dX6_settle_53 : decode cX6_settle 53 = .ok (.iconst 1, 1) := by decide +kernel
theorem dX6_settle_54 : decode cX6_settle 54 = .ok (.isub, 1) := by decide +kernel
theorem dX6_settle_55 : decode cX6_settle 55 = .ok (.istore_n 3, 1) := by decide +kernel
theorem dX6_settle_56 : decode cX6_settle 56 = .ok (.iload_n 3, 1) := by decide +kernel
theorem dX6_settle_57 : decode cX6_settle 57 = .ok (.ifCond .lt 14, 3) := by decide +kernel
theorem dX6_settle_60 : decode cX6_settle 60 = .ok (.aload_n 0, 1) := by decide +kernel
theorem dX6_settle_61 : decode cX6_settle 61 = .ok (.iload_n 3, 1) := by decide +kernel
theorem dX6_settle_62 : decode cX6_settle 62 = .ok (.invokevirtual 51, 3) := by decide +kernel
theorem dX6_settle_65 : decode cX6_settle 65 = .ok (.iinc 3 (-1), 3) := by decide +kernel
theorem dX6_settle_68 : decode cX6_settle 68 = .ok (.goto (-12), 3) := by decide +kernel
theorem dX6_settle_71 : decode cX6_settle 71 = .ok (.iconst 0, 1) := by decide +kernel
theorem dX6_settle_72 : decode cX6_settle 72 = .ok (.istore_n 3, 1) := by decide +kernel
theorem dX6_settle_73 : decode cX6_settle 73 = .ok (.iload_n 3, 1) := by decide +kernel
theorem dX6_settle_74 : decode cX6_settle 74 = .ok (.aload_n 0, 1) := by decide +kernel
theorem dX6_settle_75 : decode cX6_settle 75 = .ok (.getfield 31, 3) := by decide +kernel
theorem dX6_settle_78 : decode cX6_settle 78 = .ok (.if_icmp .ge 20, 3) := by decide +kernel
theorem dX6_settle_81 : decode cX6_settle 81 = .ok (.aload_n 0, 1) := by decide +kernel
theorem dX6_settle_82 : decode cX6_settle 82 = .ok (.getfield 28, 3) := by decide +kernel
theorem dX6_settle_85 : decode cX6_settle 85 = .ok (.iload_n 3, 1) := by decide +kernel
theorem dX6_settle_86 : decode cX6_settle 86 = .ok (.aload_n 0, 1) := by decide +kernel
theorem dX6_settle_87 : decode cX6_settle 87 = .ok (.iload_n 3, 1) := by decide +kernel
theorem dX6_settle_88 : decode cX6_settle 88 = .ok (.invokevirtual 54, 3) := by decide +kernel
theorem dX6_settle_91 : decode cX6_settle 91 = .ok (.iastore, 1) := by decide +kernel
theorem dX6_settle_92 : decode cX6_settle 92 = .ok (.iinc 3 1, 3) := by decide +kernel
theorem dX6_settle_95 : decode cX6_settle 95 = .ok (.goto (-22), 3) := by decide +kernel
theorem dX6_settle_98 : decode cX6_settle 98 = .ok (.return_, 1) := by decide +kernel
theorem dX6_styleOf_0 : decode cX6_styleOf 0 = .ok (.iload_n 1, 1) := by decide +kernel
theorem dX6_styleOf_1 : decode cX6_styleOf 1 = .ok (.ifCond .lt 11, 3) := by decide +kernel
theorem dX6_styleOf_4 : decode cX6_styleOf 4 = .ok (.iload_n 1, 1) := by decide +kernel
theorem dX6_styleOf_5 : decode cX6_styleOf 5 = .ok (.aload_n 0, 1) := by decide +kernel
theorem dX6_styleOf_6 : decode cX6_styleOf 6 = .ok (.getfield 31, 3) := by decide +kernel
theorem dX6_styleOf_9 : decode cX6_styleOf 9 = .ok (.if_icmp .lt 7, 3) := by decide +kernel
theorem dX6_styleOf_12 : decode cX6_styleOf 12 = .ok (.iconst (-1), 1) := by decide +kernel
theorem dX6_styleOf_13 : decode cX6_styleOf 13 = .ok (.goto 9, 3) := by decide +kernel
theorem dX6_styleOf_16 : decode cX6_styleOf 16 = .ok (.aload_n 0, 1) := by decide +kernel
theorem dX6_styleOf_17 : decode cX6_styleOf 17 = .ok (.getfield 28, 3) := by decide +kernel
theorem dX6_styleOf_20 : decode cX6_styleOf 20 = .ok (.iload_n 1, 1) := by decide +kernel
theorem dX6_styleOf_21 : decode cX6_styleOf 21 = .ok (.iaload, 1) := by decide +kernel
theorem dX6_styleOf_22 : decode cX6_styleOf 22 = .ok (.ireturn, 1) := by decide +kernel
set_option maxRecDepth 20000 in
theorem ggX6_leastCost_X6_styleOf : GoodIn wsX6_leastCost wsX6_styleOf := goodIn_r _ [5, 6, 7, 15, 16, 17, 18, 19, 20, 21, 22] (by decide +kernel) (by decide +kernel)
set_option maxRecDepth 20000 in
theorem gX6_leastCost_X6_styleOf : GoodIn wsX6_leastCost (wsV RX6 58 RX6 yX6_styleOf wsX6_styleOf) := goodIn_app (goodIn_of _ (by decide +kernel)) ggX6_leastCost_X6_styleOf
set_option maxRecDepth 20000 in
theorem ggX6_leastCost_X6_through : GoodIn wsX6_leastCost wsX6_through := goodIn_r _ [11, 6, 12, 13, 14, 15, 16, 17, 18, 19, 20, 21, 22] (by decide +kernel) (by decide +kernel)
set_option maxRecDepth 20000 in
theorem gX6_leastCost_X6_through : GoodIn wsX6_leastCost (wsV RX6 61 RX6 yX6_through wsX6_through) := goodIn_app (goodIn_of _ (by decide +kernel)) ggX6_leastCost_X6_through
theorem dX6_leastCost_0 : decode cX6_leastCost 0 = .ok (.aload_n 0, 1) := by decide +kernel
theorem dX6_leastCost_1 : decode cX6_leastCost 1 = .ok (.iconst 0, 1) := by decide +kernel
theorem dX6_leastCost_2 : decode cX6_leastCost 2 = .ok (.aload_n 0, 1) := by decide +kernel
theorem dX6_leastCost_3 : decode cX6_leastCost 3 = .ok (.iconst 0, 1) := by decide +kernel
theorem dX6_leastCost_4 : decode cX6_leastCost 4 = .ok (.invokevirtual 58, 3) := by decide +kernel
theorem dX6_leastCost_7 : decode cX6_leastCost 7 = .ok (.invokevirtual 61, 3) := by decide +kernel
theorem dX6_leastCost_10 : decode cX6_leastCost 10 = .ok (.ireturn, 1) := by decide +kernel
set_option maxRecDepth 20000 in
theorem ggX6_leastOtherwise_X6_styleOf : GoodIn wsX6_leastOtherwise wsX6_styleOf := goodIn_r _ [11, 12, 13, 31, 32, 33, 34, 35, 36, 37, 38] (by decide +kernel) (by decide +kernel)
set_option maxRecDepth 20000 in
theorem gX6_leastOtherwise_X6_styleOf : GoodIn wsX6_leastOtherwise (wsV RX6 58 RX6 yX6_styleOf wsX6_styleOf) := goodIn_app (goodIn_of _ (by decide +kernel)) ggX6_leastOtherwise_X6_styleOf
set_option maxRecDepth 20000 in
theorem ggX6_leastOtherwise_X3_isAlike : GoodIn wsX6_leastOtherwise wsX3_isAlike := goodIn_r _ [18, 19, 20, 21, 17, 22, 23, 24, 39, 40, 41, 42, 43, 44, 45] (by decide +kernel) (by decide +kernel)
set_option maxRecDepth 20000 in
theorem gX6_leastOtherwise_X3_isAlike : GoodIn wsX6_leastOtherwise (wsV RX6 64 RX3 yX3_isAlike wsX3_isAlike) := goodIn_app (goodIn_of _ (by decide +kernel)) ggX6_leastOtherwise_X3_isAlike
set_option maxRecDepth 20000 in
theorem ggX6_leastOtherwise_X6_through : GoodIn wsX6_leastOtherwise wsX6_through := goodIn_r _ [28, 12, 1, 29, 30, 31, 32, 33, 34, 35, 36, 37, 38] (by decide +kernel) (by decide +kernel)
set_option maxRecDepth 20000 in
theorem gX6_leastOtherwise_X6_through : GoodIn wsX6_leastOtherwise (wsV RX6 61 RX6 yX6_through wsX6_through) := goodIn_app (goodIn_of _ (by decide +kernel)) ggX6_leastOtherwise_X6_through
theorem dX6_leastOtherwise_0 : decode cX6_leastOtherwise 0 = .ok (.aload_n 0, 1) := by decide +kernel
theorem dX6_leastOtherwise_1 : decode cX6_leastOtherwise 1 = .ok (.iload_n 1, 1) := by decide +kernel
theorem dX6_leastOtherwise_2 : decode cX6_leastOtherwise 2 = .ok (.invokevirtual 58, 3) := by decide +kernel
theorem dX6_leastOtherwise_5 : decode cX6_leastOtherwise 5 = .ok (.istore_n 2, 1) := by decide +kernel
theorem dX6_leastOtherwise_6 : decode cX6_leastOtherwise 6 = .ok (.iconst (-1), 1) := by decide +kernel
theorem dX6_leastOtherwise_7 : decode cX6_leastOtherwise 7 = .ok (.istore_n 3, 1) := by decide +kernel
theorem dX6_leastOtherwise_8 : decode cX6_leastOtherwise 8 = .ok (.iconst 0, 1) := by decide +kernel
theorem dX6_leastOtherwise_9 : decode cX6_leastOtherwise 9 = .ok (.istore 4, 2) := by decide +kernel
theorem dX6_leastOtherwise_11 : decode cX6_leastOtherwise 11 = .ok (.iload 4, 2) := by decide +kernel
theorem dX6_leastOtherwise_13 : decode cX6_leastOtherwise 13 = .ok (.aload_n 0, 1) := by decide +kernel
theorem dX6_leastOtherwise_14 : decode cX6_leastOtherwise 14 = .ok (.getfield 35, 3) := by decide +kernel
theorem dX6_leastOtherwise_17 : decode cX6_leastOtherwise 17 = .ok (.if_icmp .ge 49, 3) := by decide +kernel
theorem dX6_leastOtherwise_20 : decode cX6_leastOtherwise 20 = .ok (.aload_n 0, 1) := by decide +kernel
theorem dX6_leastOtherwise_21 : decode cX6_leastOtherwise 21 = .ok (.getfield 9, 3) := by decide +kernel
theorem dX6_leastOtherwise_24 : decode cX6_leastOtherwise 24 = .ok (.iload_n 1, 1) := by decide +kernel
theorem dX6_leastOtherwise_25 : decode cX6_leastOtherwise 25 = .ok (.iload_n 2, 1) := by decide +kernel
theorem dX6_leastOtherwise_26 : decode cX6_leastOtherwise 26 = .ok (.iload 4, 2) := by decide +kernel
theorem dX6_leastOtherwise_28 : decode cX6_leastOtherwise 28 = .ok (.invokevirtual 64, 3) := by decide +kernel
theorem dX6_leastOtherwise_31 : decode cX6_leastOtherwise 31 = .ok (.ifCond .ne 29, 3) := by decide +kernel
theorem dX6_leastOtherwise_34 : decode cX6_leastOtherwise 34 = .ok (.aload_n 0, 1) := by decide +kernel
theorem dX6_leastOtherwise_35 : decode cX6_leastOtherwise 35 = .ok (.iload_n 1, 1) := by decide +kernel
theorem dX6_leastOtherwise_36 : decode cX6_leastOtherwise 36 = .ok (.iload 4, 2) := by decide +kernel
theorem dX6_leastOtherwise_38 : decode cX6_leastOtherwise 38 = .ok (.invokevirtual 61, 3) := by decide +kernel
theorem dX6_leastOtherwise_41 : decode cX6_leastOtherwise 41 = .ok (.istore 5, 2) := by decide +kernel
theorem dX6_leastOtherwise_43 : decode cX6_leastOtherwise 43 = .ok (.iload_n 3, 1) := by decide +kernel
theorem dX6_leastOtherwise_44 : decode cX6_leastOtherwise 44 = .ok (.iconst (-1), 1) := by decide +kernel
theorem dX6_leastOtherwise_45 : decode cX6_leastOtherwise 45 = .ok (.if_icmp .ne 8, 3) := by decide +kernel
theorem dX6_leastOtherwise_48 : decode cX6_leastOtherwise 48 = .ok (.iload 5, 2) := by decide +kernel
theorem dX6_leastOtherwise_50 : decode cX6_leastOtherwise 50 = .ok (.goto 9, 3) := by decide +kernel
theorem dX6_leastOtherwise_53 : decode cX6_leastOtherwise 53 = .ok (.iload_n 3, 1) := by decide +kernel
theorem dX6_leastOtherwise_54 : decode cX6_leastOtherwise 54 = .ok (.iload 5, 2) := by decide +kernel
theorem dX6_leastOtherwise_56 : decode cX6_leastOtherwise 56 = .ok (.invokestatic 38, 3) := by decide +kernel
theorem dX6_leastOtherwise_59 : decode cX6_leastOtherwise 59 = .ok (.istore_n 3, 1) := by decide +kernel
theorem dX6_leastOtherwise_60 : decode cX6_leastOtherwise 60 = .ok (.iinc 4 1, 3) := by decide +kernel
theorem dX6_leastOtherwise_63 : decode cX6_leastOtherwise 63 = .ok (.goto (-52), 3) := by decide +kernel
theorem dX6_leastOtherwise_66 : decode cX6_leastOtherwise 66 = .ok (.iload_n 3, 1) := by decide +kernel
theorem dX6_leastOtherwise_67 : decode cX6_leastOtherwise 67 = .ok (.ireturn, 1) := by decide +kernel
theorem dX6_through_0 : decode cX6_through 0 = .ok (.iload_n 1, 1) := by decide +kernel
theorem dX6_through_1 : decode cX6_through 1 = .ok (.ifCond .lt 23, 3) := by decide +kernel
theorem dX6_through_4 : decode cX6_through 4 = .ok (.iload_n 1, 1) := by decide +kernel
theorem dX6_through_5 : decode cX6_through 5 = .ok (.aload_n 0, 1) := by decide +kernel
theorem dX6_through_6 : decode cX6_through 6 = .ok (.getfield 31, 3) := by decide +kernel
theorem dX6_through_9 : decode cX6_through 9 = .ok (.if_icmp .ge 15, 3) := by decide +kernel
theorem dX6_through_12 : decode cX6_through 12 = .ok (.iload_n 2, 1) := by decide +kernel
theorem dX6_through_13 : decode cX6_through 13 = .ok (.ifCond .lt 11, 3) := by decide +kernel
theorem dX6_through_16 : decode cX6_through 16 = .ok (.iload_n 2, 1) := by decide +kernel
theorem dX6_through_17 : decode cX6_through 17 = .ok (.aload_n 0, 1) := by decide +kernel
theorem dX6_through_18 : decode cX6_through 18 = .ok (.getfield 35, 3) := by decide +kernel
theorem dX6_through_21 : decode cX6_through 21 = .ok (.if_icmp .lt 5, 3) := by decide +kernel
theorem dX6_through_24 : decode cX6_through 24 = .ok (.iconst (-1), 1) := by decide +kernel
theorem dX6_through_25 : decode cX6_through 25 = .ok (.ireturn, 1) := by decide +kernel
theorem dX6_through_26 : decode cX6_through 26 = .ok (.aload_n 0, 1) := by decide +kernel
theorem dX6_through_27 : decode cX6_through 27 = .ok (.getfield 22, 3) := by decide +kernel
theorem dX6_through_30 : decode cX6_through 30 = .ok (.iload_n 1, 1) := by decide +kernel
theorem dX6_through_31 : decode cX6_through 31 = .ok (.bipush 8, 2) := by decide +kernel
theorem dX6_through_33 : decode cX6_through 33 = .ok (.imul, 1) := by decide +kernel
theorem dX6_through_34 : decode cX6_through 34 = .ok (.iload_n 2, 1) := by decide +kernel
theorem dX6_through_35 : decode cX6_through 35 = .ok (.iadd, 1) := by decide +kernel
theorem dX6_through_36 : decode cX6_through 36 = .ok (.iaload, 1) := by decide +kernel
theorem dX6_through_37 : decode cX6_through 37 = .ok (.aload_n 0, 1) := by decide +kernel
theorem dX6_through_38 : decode cX6_through 38 = .ok (.getfield 25, 3) := by decide +kernel
theorem dX6_through_41 : decode cX6_through 41 = .ok (.iload_n 1, 1) := by decide +kernel
theorem dX6_through_42 : decode cX6_through 42 = .ok (.bipush 8, 2) := by decide +kernel
theorem dX6_through_44 : decode cX6_through 44 = .ok (.imul, 1) := by decide +kernel
theorem dX6_through_45 : decode cX6_through 45 = .ok (.iload_n 2, 1) := by decide +kernel
theorem dX6_through_46 : decode cX6_through 46 = .ok (.iadd, 1) := by decide +kernel
theorem dX6_through_47 : decode cX6_through 47 = .ok (.iaload, 1) := by decide +kernel
theorem dX6_through_48 : decode cX6_through 48 = .ok (.iadd, 1) := by decide +kernel
theorem dX6_through_49 : decode cX6_through 49 = .ok (.ireturn, 1) := by decide +kernel
set_option maxRecDepth 20000 in
theorem ggX6_addUpAhead_X6_missOf : GoodIn wsX6_addUpAhead wsX6_missOf := goodIn_r _ [12, 13, 14, 15, 16, 17, 18, 19, 20, 21, 30, 31, 32, 33, 34, 35, 36, 37, 38, 39, 40, 41, 42, 43, 44] (by decide +kernel) (by decide +kernel)
set_option maxRecDepth 20000 in
theorem gX6_addUpAhead_X6_missOf : GoodIn wsX6_addUpAhead (wsV RX6 70 RX6 yX6_missOf wsX6_missOf) := goodIn_app (goodIn_of _ (by decide +kernel)) ggX6_addUpAhead_X6_missOf
set_option maxRecDepth 20000 in
theorem ggX6_addUpAhead_X6_step : GoodIn wsX6_addUpAhead wsX6_step := goodIn_r _ [25, 14, 2, 8, 9, 10, 11, 12, 13, 15, 16, 17, 18, 19, 20, 21, 26, 27, 28, 29, 30, 31, 32, 33, 34, 35, 36, 37, 38, 39, 40, 41, 42, 43, 44] (by decide +kernel) (by decide +kernel)
set_option maxRecDepth 20000 in
theorem gX6_addUpAhead_X6_step : GoodIn wsX6_addUpAhead (wsV RX6 73 RX6 yX6_step wsX6_step) := goodIn_app (goodIn_of _ (by decide +kernel)) ggX6_addUpAhead_X6_step
theorem dX6_addUpAhead_0 : decode cX6_addUpAhead 0 = .ok (.iconst 0, 1) := by decide +kernel
theorem dX6_addUpAhead_1 : decode cX6_addUpAhead 1 = .ok (.istore_n 2, 1) := by decide +kernel
theorem dX6_addUpAhead_2 : decode cX6_addUpAhead 2 = .ok (.iload_n 2, 1) := by decide +kernel
theorem dX6_addUpAhead_3 : decode cX6_addUpAhead 3 = .ok (.aload_n 0, 1) := by decide +kernel
theorem dX6_addUpAhead_4 : decode cX6_addUpAhead 4 = .ok (.getfield 35, 3) := by decide +kernel
theorem dX6_addUpAhead_7 : decode cX6_addUpAhead 7 = .ok (.if_icmp .ge 107, 3) := by decide +kernel
theorem dX6_addUpAhead_10 : decode cX6_addUpAhead 10 = .ok (.iload_n 1, 1) := by decide +kernel
theorem dX6_addUpAhead_11 : decode cX6_addUpAhead 11 = .ok (.ifCond .ne 19, 3) := by decide +kernel
theorem dX6_addUpAhead_14 : decode cX6_addUpAhead 14 = .ok (.aload_n 0, 1) := by decide +kernel
theorem dX6_addUpAhead_15 : decode cX6_addUpAhead 15 = .ok (.getfield 15, 3) := by decide +kernel
theorem dX6_addUpAhead_18 : decode cX6_addUpAhead 18 = .ok (.iload_n 2, 1) := by decide +kernel
theorem dX6_addUpAhead_19 : decode cX6_addUpAhead 19 = .ok (.iaload, 1) := by decide +kernel
theorem dX6_addUpAhead_20 : decode cX6_addUpAhead 20 = .ok (.aload_n 0, 1) := by decide +kernel
theorem dX6_addUpAhead_21 : decode cX6_addUpAhead 21 = .ok (.iload_n 1, 1) := by decide +kernel
theorem dX6_addUpAhead_22 : decode cX6_addUpAhead 22 = .ok (.iload_n 2, 1) := by decide +kernel
theorem dX6_addUpAhead_23 : decode cX6_addUpAhead 23 = .ok (.invokevirtual 70, 3) := by decide +kernel
theorem dX6_addUpAhead_26 : decode cX6_addUpAhead 26 = .ok (.iadd, 1) := by decide +kernel
theorem dX6_addUpAhead_27 : decode cX6_addUpAhead 27 = .ok (.goto 4, 3) := by decide +kernel
theorem dX6_addUpAhead_30 : decode cX6_addUpAhead 30 = .ok (.iconst (-1), 1) := by decide +kernel
theorem dX6_addUpAhead_31 : decode cX6_addUpAhead 31 = .ok (.istore_n 3, 1) := by decide +kernel
theorem dX6_addUpAhead_32 : decode cX6_addUpAhead 32 = .ok (.iconst 0, 1) := by decide +kernel
theorem dX6_addUpAhead_33 : decode cX6_addUpAhead 33 = .ok (.istore 4, 2) := by decide +kernel
theorem dX6_addUpAhead_35 : decode cX6_addUpAhead 35 = .ok (.iload 4, 2) := by decide +kernel
theorem dX6_addUpAhead_37 : decode cX6_addUpAhead 37 = .ok (.aload_n 0, 1) := by decide +kernel
theorem dX6_addUpAhead_38 : decode cX6_addUpAhead 38 = .ok (.getfield 35, 3) := by decide +kernel
theorem dX6_addUpAhead_41 : decode cX6_addUpAhead 41 = .ok (.if_icmp .ge 55, 3) := by decide +kernel
theorem dX6_addUpAhead_44 : decode cX6_addUpAhead 44 = .ok (.iload_n 1, 1) := by decide +kernel
theorem dX6_addUpAhead_45 : decode cX6_addUpAhead 45 = .ok (.ifCond .le 51, 3) := by decide +kernel
theorem dX6_addUpAhead_48 : decode cX6_addUpAhead 48 = .ok (.aload_n 0, 1) := by decide +kernel
theorem dX6_addUpAhead_49 : decode cX6_addUpAhead 49 = .ok (.getfield 22, 3) := by decide +kernel
theorem dX6_addUpAhead_52 : decode cX6_addUpAhead 52 = .ok (.iload_n 1, 1) := by decide +kernel
theorem dX6_addUpAhead_53 : decode cX6_addUpAhead 53 = .ok (.iconst 1, 1) := by decide +kernel
theorem dX6_addUpAhead_54 : decode cX6_addUpAhead 54 = .ok (.isub, 1) := by decide +kernel
theorem dX6_addUpAhead_55 : decode cX6_addUpAhead 55 = .ok (.bipush 8, 2) := by decide +kernel
theorem dX6_addUpAhead_57 : decode cX6_addUpAhead 57 = .ok (.imul, 1) := by decide +kernel
theorem dX6_addUpAhead_58 : decode cX6_addUpAhead 58 = .ok (.iload 4, 2) := by decide +kernel
theorem dX6_addUpAhead_60 : decode cX6_addUpAhead 60 = .ok (.iadd, 1) := by decide +kernel
theorem dX6_addUpAhead_61 : decode cX6_addUpAhead 61 = .ok (.iaload, 1) := by decide +kernel
theorem dX6_addUpAhead_62 : decode cX6_addUpAhead 62 = .ok (.aload_n 0, 1) := by decide +kernel
theorem dX6_addUpAhead_63 : decode cX6_addUpAhead 63 = .ok (.iload_n 1, 1) := by decide +kernel
theorem dX6_addUpAhead_64 : decode cX6_addUpAhead 64 = .ok (.iload 4, 2) := by decide +kernel
theorem dX6_addUpAhead_66 : decode cX6_addUpAhead 66 = .ok (.iload_n 2, 1) := by decide +kernel
theorem dX6_addUpAhead_67 : decode cX6_addUpAhead 67 = .ok (.invokevirtual 73, 3) := by decide +kernel
theorem dX6_addUpAhead_70 : decode cX6_addUpAhead 70 = .ok (.iadd, 1) := by decide +kernel
theorem dX6_addUpAhead_71 : decode cX6_addUpAhead 71 = .ok (.istore 5, 2) := by decide +kernel
theorem dX6_addUpAhead_73 : decode cX6_addUpAhead 73 = .ok (.iload_n 3, 1) := by decide +kernel
theorem dX6_addUpAhead_74 : decode cX6_addUpAhead 74 = .ok (.iconst (-1), 1) := by decide +kernel
theorem dX6_addUpAhead_75 : decode cX6_addUpAhead 75 = .ok (.if_icmp .ne 8, 3) := by decide +kernel
theorem dX6_addUpAhead_78 : decode cX6_addUpAhead 78 = .ok (.iload 5, 2) := by decide +kernel
theorem dX6_addUpAhead_80 : decode cX6_addUpAhead 80 = .ok (.goto 9, 3) := by decide +kernel
theorem dX6_addUpAhead_83 : decode cX6_addUpAhead 83 = .ok (.iload_n 3, 1) := by decide +kernel
theorem dX6_addUpAhead_84 : decode cX6_addUpAhead 84 = .ok (.iload 5, 2) := by decide +kernel
theorem dX6_addUpAhead_86 : decode cX6_addUpAhead 86 = .ok (.invokestatic 38, 3) := by decide +kernel
theorem dX6_addUpAhead_89 : decode cX6_addUpAhead 89 = .ok (.istore_n 3, 1) := by decide +kernel
theorem dX6_addUpAhead_90 : decode cX6_addUpAhead 90 = .ok (.iinc 4 1, 3) := by decide +kernel
theorem dX6_addUpAhead_93 : decode cX6_addUpAhead 93 = .ok (.goto (-58), 3) := by decide +kernel
theorem dX6_addUpAhead_96 : decode cX6_addUpAhead 96 = .ok (.aload_n 0, 1) := by decide +kernel
theorem dX6_addUpAhead_97 : decode cX6_addUpAhead 97 = .ok (.getfield 22, 3) := by decide +kernel
theorem dX6_addUpAhead_100 : decode cX6_addUpAhead 100 = .ok (.iload_n 1, 1) := by decide +kernel
theorem dX6_addUpAhead_101 : decode cX6_addUpAhead 101 = .ok (.bipush 8, 2) := by decide +kernel
theorem dX6_addUpAhead_103 : decode cX6_addUpAhead 103 = .ok (.imul, 1) := by decide +kernel
