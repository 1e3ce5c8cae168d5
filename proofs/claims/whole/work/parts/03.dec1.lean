set_option maxRecDepth 20000 in
theorem ggX0_init_X1_init : GoodIn wsX0_init wsX1_init := goodIn_r _ [3, 4, 5, 6, 7, 8, 9] (by decide +kernel) (by decide +kernel)
set_option maxRecDepth 20000 in
theorem gX0_init_X1_init_n3 : GoodIn wsX0_init (wsX1_init) := ggX0_init_X1_init
theorem dX0_init_0 : decode cX0_init 0 = .ok (.aload_n 0, 1) := by decide +kernel
theorem dX0_init_1 : decode cX0_init 1 = .ok (.invokespecial 3, 3) := by decide +kernel
theorem dX0_init_4 : decode cX0_init 4 = .ok (.return_, 1) := by decide +kernel
set_option maxRecDepth 20000 in
theorem ggX0_weigh_X1_weigh : GoodIn wsX0_weigh wsX1_weigh := goodIn_r _ [8, 9, 10, 11, 12, 13, 14, 15, 16, 17, 18, 19, 20, 21, 22, 23, 24, 25, 26, 27, 28, 29, 30, 31, 32, 33, 34, 35, 36, 37, 38, 39, 40, 41, 42, 44, 45, 46] (by decide +kernel) (by decide +kernel)
set_option maxRecDepth 20000 in
theorem gX0_weigh_X1_weigh_s17 : GoodIn wsX0_weigh (va_wsSU RX0 17 yX1_weigh wsX1_weigh) := goodIn_app (goodIn_of _ (by decide +kernel)) ggX0_weigh_X1_weigh
set_option maxRecDepth 20000 in
theorem ggX0_weigh_J6_bitCount_0f7a4 : GoodIn wsX0_weigh wsJ6_bitCount_0f7a4 := goodIn_r _ [24, 25, 26, 27] (by decide +kernel) (by decide +kernel)
set_option maxRecDepth 20000 in
theorem gX0_weigh_J6_bitCount_0f7a4 : GoodIn wsX0_weigh (va_wsS RX0 21 yJ6_bitCount_0f7a4 wsJ6_bitCount_0f7a4) := goodIn_app (goodIn_of _ (by decide +kernel)) ggX0_weigh_J6_bitCount_0f7a4
theorem dX0_weigh_0 : decode cX0_weigh 0 = .ok (.aload 4, 2) := by decide +kernel
theorem dX0_weigh_2 : decode cX0_weigh 2 = .ok (.dup, 1) := by decide +kernel
theorem dX0_weigh_3 : decode cX0_weigh 3 = .ok (.getfield 9, 3) := by decide +kernel
theorem dX0_weigh_6 : decode cX0_weigh 6 = .ok (.ldc2_w 15, 3) := by decide +kernel
theorem dX0_weigh_9 : decode cX0_weigh 9 = .ok (.ladd, 1) := by decide +kernel
theorem dX0_weigh_10 : decode cX0_weigh 10 = .ok (.putfield 9, 3) := by decide +kernel
theorem dX0_weigh_13 : decode cX0_weigh 13 = .ok (.aload_n 0, 1) := by decide +kernel
theorem dX0_weigh_14 : decode cX0_weigh 14 = .ok (.aload_n 1, 1) := by decide +kernel
theorem dX0_weigh_15 : decode cX0_weigh 15 = .ok (.iload_n 2, 1) := by decide +kernel
theorem dX0_weigh_16 : decode cX0_weigh 16 = .ok (.iload_n 3, 1) := by decide +kernel
theorem dX0_weigh_17 : decode cX0_weigh 17 = .ok (.aload 4, 2) := by decide +kernel
theorem dX0_weigh_19 : decode cX0_weigh 19 = .ok (.invokespecial 17, 3) := by decide +kernel
theorem dX0_weigh_22 : decode cX0_weigh 22 = .ok (.istore 5, 2) := by decide +kernel
theorem dX0_weigh_24 : decode cX0_weigh 24 = .ok (.iload 5, 2) := by decide +kernel
theorem dX0_weigh_26 : decode cX0_weigh 26 = .ok (.ifCond .eq 6, 3) := by decide +kernel
theorem dX0_weigh_29 : decode cX0_weigh 29 = .ok (.iload 5, 2) := by decide +kernel
theorem dX0_weigh_31 : decode cX0_weigh 31 = .ok (.ireturn, 1) := by decide +kernel
theorem dX0_weigh_32 : decode cX0_weigh 32 = .ok (.iload_n 2, 1) := by decide +kernel
theorem dX0_weigh_33 : decode cX0_weigh 33 = .ok (.invokestatic 21, 3) := by decide +kernel
theorem dX0_weigh_36 : decode cX0_weigh 36 = .ok (.iload_n 3, 1) := by decide +kernel
theorem dX0_weigh_37 : decode cX0_weigh 37 = .ok (.invokestatic 21, 3) := by decide +kernel
theorem dX0_weigh_40 : decode cX0_weigh 40 = .ok (.iadd, 1) := by decide +kernel
theorem dX0_weigh_41 : decode cX0_weigh 41 = .ok (.iconst 1, 1) := by decide +kernel
theorem dX0_weigh_42 : decode cX0_weigh 42 = .ok (.if_icmp .ne 7, 3) := by decide +kernel
theorem dX0_weigh_45 : decode cX0_weigh 45 = .ok (.iconst 3, 1) := by decide +kernel
theorem dX0_weigh_46 : decode cX0_weigh 46 = .ok (.goto 4, 3) := by decide +kernel
theorem dX0_weigh_49 : decode cX0_weigh 49 = .ok (.iconst 0, 1) := by decide +kernel
theorem dX0_weigh_50 : decode cX0_weigh 50 = .ok (.ireturn, 1) := by decide +kernel
set_option maxRecDepth 20000 in
theorem ggX1_init_X6_init : GoodIn wsX1_init wsX6_init := goodIn_r _ [3, 4, 5, 6] (by decide +kernel) (by decide +kernel)
set_option maxRecDepth 20000 in
theorem gX1_init_X6_init_n3 : GoodIn wsX1_init (wsX6_init) := ggX1_init_X6_init
theorem dX1_init_0 : decode cX1_init 0 = .ok (.aload_n 0, 1) := by decide +kernel
theorem dX1_init_1 : decode cX1_init 1 = .ok (.invokespecial 3, 3) := by decide +kernel
theorem dX1_init_4 : decode cX1_init 4 = .ok (.return_, 1) := by decide +kernel
set_option maxRecDepth 20000 in
theorem ggX1_weigh_X6_weigh : GoodIn wsX1_weigh wsX6_weigh := goodIn_r _ [8, 9, 10, 11, 7, 12, 13, 14, 15, 16, 17, 18, 19, 20, 21, 22, 23, 24, 25, 26, 27, 28, 29, 30, 31, 32, 33, 34, 35, 36, 37] (by decide +kernel) (by decide +kernel)
set_option maxRecDepth 20000 in
theorem gX1_weigh_X6_weigh_s17 : GoodIn wsX1_weigh (va_wsSU RX1 17 yX6_weigh wsX6_weigh) := goodIn_app (goodIn_of _ (by decide +kernel)) ggX1_weigh_X6_weigh
theorem dX1_weigh_0 : decode cX1_weigh 0 = .ok (.aload 4, 2) := by decide +kernel
theorem dX1_weigh_2 : decode cX1_weigh 2 = .ok (.dup, 1) := by decide +kernel
theorem dX1_weigh_3 : decode cX1_weigh 3 = .ok (.getfield 9, 3) := by decide +kernel
theorem dX1_weigh_6 : decode cX1_weigh 6 = .ok (.ldc2_w 15, 3) := by decide +kernel
theorem dX1_weigh_9 : decode cX1_weigh 9 = .ok (.ladd, 1) := by decide +kernel
theorem dX1_weigh_10 : decode cX1_weigh 10 = .ok (.putfield 9, 3) := by decide +kernel
theorem dX1_weigh_13 : decode cX1_weigh 13 = .ok (.aload_n 0, 1) := by decide +kernel
theorem dX1_weigh_14 : decode cX1_weigh 14 = .ok (.aload_n 1, 1) := by decide +kernel
theorem dX1_weigh_15 : decode cX1_weigh 15 = .ok (.iload_n 2, 1) := by decide +kernel
theorem dX1_weigh_16 : decode cX1_weigh 16 = .ok (.iload_n 3, 1) := by decide +kernel
theorem dX1_weigh_17 : decode cX1_weigh 17 = .ok (.aload 4, 2) := by decide +kernel
theorem dX1_weigh_19 : decode cX1_weigh 19 = .ok (.invokespecial 17, 3) := by decide +kernel
theorem dX1_weigh_22 : decode cX1_weigh 22 = .ok (.istore 5, 2) := by decide +kernel
theorem dX1_weigh_24 : decode cX1_weigh 24 = .ok (.iload 5, 2) := by decide +kernel
theorem dX1_weigh_26 : decode cX1_weigh 26 = .ok (.ifCond .eq 6, 3) := by decide +kernel
theorem dX1_weigh_29 : decode cX1_weigh 29 = .ok (.iload 5, 2) := by decide +kernel
theorem dX1_weigh_31 : decode cX1_weigh 31 = .ok (.ireturn, 1) := by decide +kernel
theorem dX1_weigh_32 : decode cX1_weigh 32 = .ok (.iload_n 2, 1) := by decide +kernel
theorem dX1_weigh_33 : decode cX1_weigh 33 = .ok (.iload_n 3, 1) := by decide +kernel
theorem dX1_weigh_34 : decode cX1_weigh 34 = .ok (.invokestatic 21, 3) := by decide +kernel
theorem dX1_weigh_37 : decode cX1_weigh 37 = .ok (.ifCond .eq 7, 3) := by decide +kernel
theorem dX1_weigh_40 : decode cX1_weigh 40 = .ok (.iconst 2, 1) := by decide +kernel
theorem dX1_weigh_41 : decode cX1_weigh 41 = .ok (.goto 4, 3) := by decide +kernel
theorem dX1_weigh_44 : decode cX1_weigh 44 = .ok (.iconst 0, 1) := by decide +kernel
theorem dX1_weigh_45 : decode cX1_weigh 45 = .ok (.ireturn, 1) := by decide +kernel
set_option maxRecDepth 20000 in
theorem ggX2_init_X5_init : GoodIn wsX2_init wsX5_init := goodIn_r _ [6, 7, 8, 9, 10, 11, 12, 13, 14, 15, 16, 17, 18, 19, 20, 21, 22, 23, 24, 25, 26, 27, 28, 29, 30, 31, 32, 33, 34, 35] (by decide +kernel) (by decide +kernel)
set_option maxRecDepth 20000 in
theorem gX2_init_X5_init : GoodIn wsX2_init (wsX5_init) := ggX2_init_X5_init
theorem dX2_init_0 : decode cX2_init 0 = .ok (.aload_n 0, 1) := by decide +kernel
theorem dX2_init_1 : decode cX2_init 1 = .ok (.sipush 512, 3) := by decide +kernel
theorem dX2_init_4 : decode cX2_init 4 = .ok (.bipush 81, 2) := by decide +kernel
theorem dX2_init_6 : decode cX2_init 6 = .ok (.invokespecial 3, 3) := by decide +kernel
theorem dX2_init_9 : decode cX2_init 9 = .ok (.aload_n 0, 1) := by decide +kernel
theorem dX2_init_10 : decode cX2_init 10 = .ok (.iconst 0, 1) := by decide +kernel
theorem dX2_init_11 : decode cX2_init 11 = .ok (.putfield 9, 3) := by decide +kernel
theorem dX2_init_14 : decode cX2_init 14 = .ok (.aload_n 0, 1) := by decide +kernel
theorem dX2_init_15 : decode cX2_init 15 = .ok (.aload_n 1, 1) := by decide +kernel
theorem dX2_init_16 : decode cX2_init 16 = .ok (.putfield 15, 3) := by decide +kernel
theorem dX2_init_19 : decode cX2_init 19 = .ok (.return_, 1) := by decide +kernel
set_option maxRecDepth 20000 in
theorem ggX2_begin_X3_all : GoodIn wsX2_begin wsX3_all := goodIn_r _ [13, 14, 57, 58] (by decide +kernel) (by decide +kernel)
set_option maxRecDepth 20000 in
theorem gX2_begin_X3_all : GoodIn wsX2_begin (wsV RX2 19 RX3 yX3_all wsX3_all) := goodIn_app (goodIn_of _ (by decide +kernel)) ggX2_begin_X3_all
set_option maxRecDepth 20000 in
theorem ggX2_begin_J6_bitCount_0f7a4 : GoodIn wsX2_begin wsJ6_bitCount_0f7a4 := goodIn_r _ [18, 19, 20, 21] (by decide +kernel) (by decide +kernel)
set_option maxRecDepth 20000 in
theorem gX2_begin_J6_bitCount_0f7a4 : GoodIn wsX2_begin (va_wsS RX2 31 yJ6_bitCount_0f7a4 wsJ6_bitCount_0f7a4) := goodIn_app (goodIn_of _ (by decide +kernel)) ggX2_begin_J6_bitCount_0f7a4
set_option maxRecDepth 20000 in
theorem ggX2_begin_X8_isWithin : GoodIn wsX2_begin wsX8_isWithin := goodIn_r _ [24] (by decide +kernel) (by decide +kernel)
set_option maxRecDepth 20000 in
theorem gX2_begin_X8_isWithin_n37 : GoodIn wsX2_begin (wsX8_isWithin) := ggX2_begin_X8_isWithin
set_option maxRecDepth 20000 in
theorem ggX2_begin_X3_isLawful : GoodIn wsX2_begin wsX3_isLawful := goodIn_r _ [28, 29, 30, 31, 12, 32, 14, 33, 34, 10, 11, 13, 35, 36, 37, 38, 57, 58] (by decide +kernel) (by decide +kernel)
set_option maxRecDepth 20000 in
theorem gX2_begin_X3_isLawful : GoodIn wsX2_begin (wsV RX2 45 RX3 yX3_isLawful wsX3_isLawful) := goodIn_app (goodIn_of _ (by decide +kernel)) ggX2_begin_X3_isLawful
theorem dX2_begin_0 : decode cX2_begin 0 = .ok (.aload_n 0, 1) := by decide +kernel
theorem dX2_begin_1 : decode cX2_begin 1 = .ok (.iload_n 2, 1) := by decide +kernel
theorem dX2_begin_2 : decode cX2_begin 2 = .ok (.putfield 9, 3) := by decide +kernel
theorem dX2_begin_5 : decode cX2_begin 5 = .ok (.aload_n 0, 1) := by decide +kernel
theorem dX2_begin_6 : decode cX2_begin 6 = .ok (.aload_n 0, 1) := by decide +kernel
theorem dX2_begin_7 : decode cX2_begin 7 = .ok (.getfield 15, 3) := by decide +kernel
theorem dX2_begin_10 : decode cX2_begin 10 = .ok (.invokevirtual 19, 3) := by decide +kernel
theorem dX2_begin_13 : decode cX2_begin 13 = .ok (.iconst 1, 1) := by decide +kernel
theorem dX2_begin_14 : decode cX2_begin 14 = .ok (.iadd, 1) := by decide +kernel
theorem dX2_begin_15 : decode cX2_begin 15 = .ok (.putfield 25, 3) := by decide +kernel
theorem dX2_begin_18 : decode cX2_begin 18 = .ok (.aload_n 0, 1) := by decide +kernel
theorem dX2_begin_19 : decode cX2_begin 19 = .ok (.iconst 0, 1) := by decide +kernel
theorem dX2_begin_20 : decode cX2_begin 20 = .ok (.putfield 28, 3) := by decide +kernel
theorem dX2_begin_23 : decode cX2_begin 23 = .ok (.iconst 0, 1) := by decide +kernel
theorem dX2_begin_24 : decode cX2_begin 24 = .ok (.istore 5, 2) := by decide +kernel
theorem dX2_begin_26 : decode cX2_begin 26 = .ok (.iload 5, 2) := by decide +kernel
theorem dX2_begin_28 : decode cX2_begin 28 = .ok (.aload_n 0, 1) := by decide +kernel
theorem dX2_begin_29 : decode cX2_begin 29 = .ok (.getfield 25, 3) := by decide +kernel
theorem dX2_begin_32 : decode cX2_begin 32 = .ok (.if_icmp .ge 53, 3) := by decide +kernel
theorem dX2_begin_35 : decode cX2_begin 35 = .ok (.iload 5, 2) := by decide +kernel
theorem dX2_begin_37 : decode cX2_begin 37 = .ok (.invokestatic 31, 3) := by decide +kernel
theorem dX2_begin_40 : decode cX2_begin 40 = .ok (.iload_n 3, 1) := by decide +kernel
theorem dX2_begin_41 : decode cX2_begin 41 = .ok (.iload 4, 2) := by decide +kernel
theorem dX2_begin_43 : decode cX2_begin 43 = .ok (.invokestatic 37, 3) := by decide +kernel
theorem dX2_begin_46 : decode cX2_begin 46 = .ok (.istore 6, 2) := by decide +kernel
theorem dX2_begin_48 : decode cX2_begin 48 = .ok (.aload_n 0, 1) := by decide +kernel
theorem dX2_begin_49 : decode cX2_begin 49 = .ok (.getfield 41, 3) := by decide +kernel
theorem dX2_begin_52 : decode cX2_begin 52 = .ok (.iload 5, 2) := by decide +kernel
theorem dX2_begin_54 : decode cX2_begin 54 = .ok (.iload 6, 2) := by decide +kernel
theorem dX2_begin_56 : decode cX2_begin 56 = .ok (.ifCond .eq 20, 3) := by decide +kernel
theorem dX2_begin_59 : decode cX2_begin 59 = .ok (.aload_n 0, 1) := by decide +kernel
theorem dX2_begin_60 : decode cX2_begin 60 = .ok (.getfield 15, 3) := by decide +kernel
theorem dX2_begin_63 : decode cX2_begin 63 = .ok (.iload_n 1, 1) := by decide +kernel
theorem dX2_begin_64 : decode cX2_begin 64 = .ok (.iload 5, 2) := by decide +kernel
theorem dX2_begin_66 : decode cX2_begin 66 = .ok (.invokevirtual 45, 3) := by decide +kernel
theorem dX2_begin_69 : decode cX2_begin 69 = .ok (.ifCond .eq 7, 3) := by decide +kernel
theorem dX2_begin_72 : decode cX2_begin 72 = .ok (.iconst (-1), 1) := by decide +kernel
theorem dX2_begin_73 : decode cX2_begin 73 = .ok (.goto 5, 3) := by decide +kernel
theorem dX2_begin_76 : decode cX2_begin 76 = .ok (.bipush (-2), 2) := by decide +kernel
theorem dX2_begin_78 : decode cX2_begin 78 = .ok (.iastore, 1) := by decide +kernel
theorem dX2_begin_79 : decode cX2_begin 79 = .ok (.iinc 5 1, 3) := by decide +kernel
theorem dX2_begin_82 : decode cX2_begin 82 = .ok (.goto (-56), 3) := by decide +kernel
theorem dX2_begin_85 : decode cX2_begin 85 = .ok (.return_, 1) := by decide +kernel
set_option maxRecDepth 20000 in
theorem ggX2_gather_X2_gatherSwaps : GoodIn wsX2_gather wsX2_gatherSwaps := goodIn_r _ [10, 3, 11, 5, 4, 12, 13, 14, 15, 16, 17, 18, 19, 20, 21, 22, 23, 24, 25, 26, 27, 28, 29, 30, 31, 32, 33, 34, 35, 36, 37, 38, 39, 40, 41, 42, 43, 53, 54, 44, 45, 46, 47, 48, 49, 50, 51, 52] (by decide +kernel) (by decide +kernel)
set_option maxRecDepth 20000 in
theorem gX2_gather_X2_gatherSwaps : GoodIn wsX2_gather (wsV RX2 55 RX2 yX2_gatherSwaps wsX2_gatherSwaps) := goodIn_app (goodIn_of _ (by decide +kernel)) ggX2_gather_X2_gatherSwaps
set_option maxRecDepth 20000 in
theorem ggX2_gather_X5_offer : GoodIn wsX2_gather wsX5_offer := goodIn_r _ [23, 24, 25, 26, 27, 28, 29, 30, 31, 22, 32, 33, 34, 35, 36, 37, 38, 39, 40, 41, 42, 43, 44, 45, 46, 47, 48, 49, 50, 51, 52] (by decide +kernel) (by decide +kernel)
set_option maxRecDepth 20000 in
theorem gX2_gather_X5_offer_u58X2 : GoodIn wsX2_gather (va_wsU RX2 58 RX2 "SlidTokens$Search" ⟨"SlidTokens$Marks", "offer", "(II)V"⟩ yX5_offer wsX5_offer) := goodIn_app (goodIn_of _ (by decide +kernel)) ggX2_gather_X5_offer
theorem dX2_gather_0 : decode cX2_gather 0 = .ok (.aload_n 0, 1) := by decide +kernel
theorem dX2_gather_1 : decode cX2_gather 1 = .ok (.iconst 0, 1) := by decide +kernel
theorem dX2_gather_2 : decode cX2_gather 2 = .ok (.putfield 49, 3) := by decide +kernel
theorem dX2_gather_5 : decode cX2_gather 5 = .ok (.iconst 0, 1) := by decide +kernel
theorem dX2_gather_6 : decode cX2_gather 6 = .ok (.istore_n 2, 1) := by decide +kernel
theorem dX2_gather_7 : decode cX2_gather 7 = .ok (.iload_n 2, 1) := by decide +kernel
theorem dX2_gather_8 : decode cX2_gather 8 = .ok (.aload_n 0, 1) := by decide +kernel
theorem dX2_gather_9 : decode cX2_gather 9 = .ok (.getfield 15, 3) := by decide +kernel
theorem dX2_gather_12 : decode cX2_gather 12 = .ok (.getfield 52, 3) := by decide +kernel
theorem dX2_gather_15 : decode cX2_gather 15 = .ok (.if_icmp .ge 24, 3) := by decide +kernel
theorem dX2_gather_18 : decode cX2_gather 18 = .ok (.iload_n 1, 1) := by decide +kernel
theorem dX2_gather_19 : decode cX2_gather 19 = .ok (.iload_n 2, 1) := by decide +kernel
theorem dX2_gather_20 : decode cX2_gather 20 = .ok (.ishr, 1) := by decide +kernel
theorem dX2_gather_21 : decode cX2_gather 21 = .ok (.iconst 1, 1) := by decide +kernel
theorem dX2_gather_22 : decode cX2_gather 22 = .ok (.iand, 1) := by decide +kernel
theorem dX2_gather_23 : decode cX2_gather 23 = .ok (.iconst 1, 1) := by decide +kernel
theorem dX2_gather_24 : decode cX2_gather 24 = .ok (.if_icmp .ne 9, 3) := by decide +kernel
theorem dX2_gather_27 : decode cX2_gather 27 = .ok (.aload_n 0, 1) := by decide +kernel
theorem dX2_gather_28 : decode cX2_gather 28 = .ok (.iload_n 1, 1) := by decide +kernel
theorem dX2_gather_29 : decode cX2_gather 29 = .ok (.iload_n 2, 1) := by decide +kernel
theorem dX2_gather_30 : decode cX2_gather 30 = .ok (.invokevirtual 55, 3) := by decide +kernel
theorem dX2_gather_33 : decode cX2_gather 33 = .ok (.iinc 2 1, 3) := by decide +kernel
theorem dX2_gather_36 : decode cX2_gather 36 = .ok (.goto (-29), 3) := by decide +kernel
theorem dX2_gather_39 : decode cX2_gather 39 = .ok (.aload_n 0, 1) := by decide +kernel
theorem dX2_gather_40 : decode cX2_gather 40 = .ok (.getfield 9, 3) := by decide +kernel
theorem dX2_gather_43 : decode cX2_gather 43 = .ok (.iconst 2, 1) := by decide +kernel
theorem dX2_gather_44 : decode cX2_gather 44 = .ok (.if_icmp .ne 32, 3) := by decide +kernel
theorem dX2_gather_47 : decode cX2_gather 47 = .ok (.iconst 0, 1) := by decide +kernel
theorem dX2_gather_48 : decode cX2_gather 48 = .ok (.istore_n 2, 1) := by decide +kernel
theorem dX2_gather_49 : decode cX2_gather 49 = .ok (.iload_n 2, 1) := by decide +kernel
theorem dX2_gather_50 : decode cX2_gather 50 = .ok (.aload_n 0, 1) := by decide +kernel
theorem dX2_gather_51 : decode cX2_gather 51 = .ok (.getfield 15, 3) := by decide +kernel
theorem dX2_gather_54 : decode cX2_gather 54 = .ok (.getfield 52, 3) := by decide +kernel
theorem dX2_gather_57 : decode cX2_gather 57 = .ok (.if_icmp .ge 19, 3) := by decide +kernel
theorem dX2_gather_60 : decode cX2_gather 60 = .ok (.aload_n 0, 1) := by decide +kernel
theorem dX2_gather_61 : decode cX2_gather 61 = .ok (.iload_n 1, 1) := by decide +kernel
theorem dX2_gather_62 : decode cX2_gather 62 = .ok (.iconst 1, 1) := by decide +kernel
theorem dX2_gather_63 : decode cX2_gather 63 = .ok (.iload_n 2, 1) := by decide +kernel
theorem dX2_gather_64 : decode cX2_gather 64 = .ok (.ishl, 1) := by decide +kernel
theorem dX2_gather_65 : decode cX2_gather 65 = .ok (.ixor, 1) := by decide +kernel
theorem dX2_gather_66 : decode cX2_gather 66 = .ok (.iconst 3, 1) := by decide +kernel
theorem dX2_gather_67 : decode cX2_gather 67 = .ok (.invokevirtual 58, 3) := by decide +kernel
theorem dX2_gather_70 : decode cX2_gather 70 = .ok (.iinc 2 1, 3) := by decide +kernel
theorem dX2_gather_73 : decode cX2_gather 73 = .ok (.goto (-24), 3) := by decide +kernel
theorem dX2_gather_76 : decode cX2_gather 76 = .ok (.return_, 1) := by decide +kernel
set_option maxRecDepth 20000 in
theorem ggX2_gatherSwaps_X3_all : GoodIn wsX2_gatherSwaps wsX3_all := goodIn_r _ [9, 10, 37, 38] (by decide +kernel) (by decide +kernel)
set_option maxRecDepth 20000 in
theorem gX2_gatherSwaps_X3_all : GoodIn wsX2_gatherSwaps (wsV RX2 19 RX3 yX3_all wsX3_all) := goodIn_app (goodIn_of _ (by decide +kernel)) ggX2_gatherSwaps_X3_all
set_option maxRecDepth 20000 in
theorem ggX2_gatherSwaps_X5_offer : GoodIn wsX2_gatherSwaps wsX5_offer := goodIn_r _ [16, 17, 18, 19, 20, 21, 22, 23, 24, 15, 25, 26, 27, 28, 29, 30, 31, 32, 33, 34, 35, 36, 39, 40, 41, 42, 43, 44, 45, 46, 47] (by decide +kernel) (by decide +kernel)
set_option maxRecDepth 20000 in
theorem gX2_gatherSwaps_X5_offer_u58X2 : GoodIn wsX2_gatherSwaps (va_wsU RX2 58 RX2 "SlidTokens$Search" ⟨"SlidTokens$Marks", "offer", "(II)V"⟩ yX5_offer wsX5_offer) := goodIn_app (goodIn_of _ (by decide +kernel)) ggX2_gatherSwaps_X5_offer
theorem dX2_gatherSwaps_0 : decode cX2_gatherSwaps 0 = .ok (.iload_n 1, 1) := by decide +kernel
theorem dX2_gatherSwaps_1 : decode cX2_gatherSwaps 1 = .ok (.iconst 1, 1) := by decide +kernel
theorem dX2_gatherSwaps_2 : decode cX2_gatherSwaps 2 = .ok (.iload_n 2, 1) := by decide +kernel
theorem dX2_gatherSwaps_3 : decode cX2_gatherSwaps 3 = .ok (.ishl, 1) := by decide +kernel
theorem dX2_gatherSwaps_4 : decode cX2_gatherSwaps 4 = .ok (.ixor, 1) := by decide +kernel
theorem dX2_gatherSwaps_5 : decode cX2_gatherSwaps 5 = .ok (.istore_n 3, 1) := by decide +kernel
theorem dX2_gatherSwaps_6 : decode cX2_gatherSwaps 6 = .ok (.aload_n 0, 1) := by decide +kernel
theorem dX2_gatherSwaps_7 : decode cX2_gatherSwaps 7 = .ok (.getfield 15, 3) := by decide +kernel
theorem dX2_gatherSwaps_10 : decode cX2_gatherSwaps 10 = .ok (.getfield 61, 3) := by decide +kernel
theorem dX2_gatherSwaps_13 : decode cX2_gatherSwaps 13 = .ok (.iload_n 2, 1) := by decide +kernel
theorem dX2_gatherSwaps_14 : decode cX2_gatherSwaps 14 = .ok (.iaload, 1) := by decide +kernel
theorem dX2_gatherSwaps_15 : decode cX2_gatherSwaps 15 = .ok (.istore 4, 2) := by decide +kernel
theorem dX2_gatherSwaps_17 : decode cX2_gatherSwaps 17 = .ok (.aload_n 0, 1) := by decide +kernel
theorem dX2_gatherSwaps_18 : decode cX2_gatherSwaps 18 = .ok (.getfield 9, 3) := by decide +kernel
theorem dX2_gatherSwaps_21 : decode cX2_gatherSwaps 21 = .ok (.ifCond .ne 12, 3) := by decide +kernel
theorem dX2_gatherSwaps_24 : decode cX2_gatherSwaps 24 = .ok (.iload 4, 2) := by decide +kernel
theorem dX2_gatherSwaps_26 : decode cX2_gatherSwaps 26 = .ok (.iload_n 1, 1) := by decide +kernel
theorem dX2_gatherSwaps_27 : decode cX2_gatherSwaps 27 = .ok (.iconst (-1), 1) := by decide +kernel
theorem dX2_gatherSwaps_28 : decode cX2_gatherSwaps 28 = .ok (.ixor, 1) := by decide +kernel
theorem dX2_gatherSwaps_29 : decode cX2_gatherSwaps 29 = .ok (.iand, 1) := by decide +kernel
theorem dX2_gatherSwaps_30 : decode cX2_gatherSwaps 30 = .ok (.goto 14, 3) := by decide +kernel
theorem dX2_gatherSwaps_33 : decode cX2_gatherSwaps 33 = .ok (.aload_n 0, 1) := by decide +kernel
theorem dX2_gatherSwaps_34 : decode cX2_gatherSwaps 34 = .ok (.getfield 15, 3) := by decide +kernel
theorem dX2_gatherSwaps_37 : decode cX2_gatherSwaps 37 = .ok (.invokevirtual 19, 3) := by decide +kernel
theorem dX2_gatherSwaps_40 : decode cX2_gatherSwaps 40 = .ok (.iload_n 1, 1) := by decide +kernel
theorem dX2_gatherSwaps_41 : decode cX2_gatherSwaps 41 = .ok (.iconst (-1), 1) := by decide +kernel
theorem dX2_gatherSwaps_42 : decode cX2_gatherSwaps 42 = .ok (.ixor, 1) := by decide +kernel
theorem dX2_gatherSwaps_43 : decode cX2_gatherSwaps 43 = .ok (.iand, 1) := by decide +kernel
theorem dX2_gatherSwaps_44 : decode cX2_gatherSwaps 44 = .ok (.istore 5, 2) := by decide +kernel
theorem dX2_gatherSwaps_46 : decode cX2_gatherSwaps 46 = .ok (.iconst 0, 1) := by decide +kernel
theorem dX2_gatherSwaps_47 : decode cX2_gatherSwaps 47 = .ok (.istore 6, 2) := by decide +kernel
theorem dX2_gatherSwaps_49 : decode cX2_gatherSwaps 49 = .ok (.iload 6, 2) := by decide +kernel
theorem dX2_gatherSwaps_51 : decode cX2_gatherSwaps 51 = .ok (.aload_n 0, 1) := by decide +kernel
theorem dX2_gatherSwaps_52 : decode cX2_gatherSwaps 52 = .ok (.getfield 15, 3) := by decide +kernel
theorem dX2_gatherSwaps_55 : decode cX2_gatherSwaps 55 = .ok (.getfield 52, 3) := by decide +kernel
theorem dX2_gatherSwaps_58 : decode cX2_gatherSwaps 58 = .ok (.if_icmp .ge 46, 3) := by decide +kernel
theorem dX2_gatherSwaps_61 : decode cX2_gatherSwaps 61 = .ok (.iload 5, 2) := by decide +kernel
theorem dX2_gatherSwaps_63 : decode cX2_gatherSwaps 63 = .ok (.iload 6, 2) := by decide +kernel
theorem dX2_gatherSwaps_65 : decode cX2_gatherSwaps 65 = .ok (.ishr, 1) := by decide +kernel
theorem dX2_gatherSwaps_66 : decode cX2_gatherSwaps 66 = .ok (.iconst 1, 1) := by decide +kernel
theorem dX2_gatherSwaps_67 : decode cX2_gatherSwaps 67 = .ok (.iand, 1) := by decide +kernel
theorem dX2_gatherSwaps_68 : decode cX2_gatherSwaps 68 = .ok (.iconst 1, 1) := by decide +kernel
theorem dX2_gatherSwaps_69 : decode cX2_gatherSwaps 69 = .ok (.if_icmp .ne 29, 3) := by decide +kernel
theorem dX2_gatherSwaps_72 : decode cX2_gatherSwaps 72 = .ok (.aload_n 0, 1) := by decide +kernel
theorem dX2_gatherSwaps_73 : decode cX2_gatherSwaps 73 = .ok (.iload_n 3, 1) := by decide +kernel
theorem dX2_gatherSwaps_74 : decode cX2_gatherSwaps 74 = .ok (.iconst 1, 1) := by decide +kernel
theorem dX2_gatherSwaps_75 : decode cX2_gatherSwaps 75 = .ok (.iload 6, 2) := by decide +kernel
theorem dX2_gatherSwaps_77 : decode cX2_gatherSwaps 77 = .ok (.ishl, 1) := by decide +kernel
theorem dX2_gatherSwaps_78 : decode cX2_gatherSwaps 78 = .ok (.ior, 1) := by decide +kernel
theorem dX2_gatherSwaps_79 : decode cX2_gatherSwaps 79 = .ok (.iload 4, 2) := by decide +kernel
theorem dX2_gatherSwaps_81 : decode cX2_gatherSwaps 81 = .ok (.iload 6, 2) := by decide +kernel
theorem dX2_gatherSwaps_83 : decode cX2_gatherSwaps 83 = .ok (.ishr, 1) := by decide +kernel
theorem dX2_gatherSwaps_84 : decode cX2_gatherSwaps 84 = .ok (.iconst 1, 1) := by decide +kernel
theorem dX2_gatherSwaps_85 : decode cX2_gatherSwaps 85 = .ok (.iand, 1) := by decide +kernel
theorem dX2_gatherSwaps_86 : decode cX2_gatherSwaps 86 = .ok (.iconst 1, 1) := by decide +kernel
theorem dX2_gatherSwaps_87 : decode cX2_gatherSwaps 87 = .ok (.if_icmp .ne 7, 3) := by decide +kernel
theorem dX2_gatherSwaps_90 : decode cX2_gatherSwaps 90 = .ok (.iconst 1, 1) := by decide +kernel
theorem dX2_gatherSwaps_91 : decode cX2_gatherSwaps 91 = .ok (.goto 4, 3) := by decide +kernel
theorem dX2_gatherSwaps_94 : decode cX2_gatherSwaps 94 = .ok (.iconst 2, 1) := by decide +kernel
theorem dX2_gatherSwaps_95 : decode cX2_gatherSwaps 95 = .ok (.invokevirtual 58, 3) := by decide +kernel
theorem dX2_gatherSwaps_98 : decode cX2_gatherSwaps 98 = .ok (.iinc 6 1, 3) := by decide +kernel
theorem dX2_gatherSwaps_101 : decode cX2_gatherSwaps 101 = .ok (.goto (-52), 3) := by decide +kernel
theorem dX2_gatherSwaps_104 : decode cX2_gatherSwaps 104 = .ok (.return_, 1) := by decide +kernel
set_option maxRecDepth 20000 in
theorem ggX2_following_X5_fewest : GoodIn wsX2_following wsX5_fewest := goodIn_r _ [12, 13, 14, 15, 16, 17, 11, 18, 19, 20, 21, 22, 23, 24, 25, 26, 27, 28, 29, 30, 31, 32, 33, 34, 35, 36, 37, 38, 39, 40, 41, 1, 2, 42, 43, 44, 45, 46, 47, 48, 49, 50, 51, 52, 53, 54, 55, 56, 57, 58, 59, 60, 61, 62, 63, 64, 65, 66, 67, 68, 69, 70, 71, 72, 73, 74, 77, 78, 79, 80, 81, 82, 83, 84, 85, 86, 87, 88, 89, 90, 91, 92, 93, 94, 95, 96] (by decide +kernel) (by decide +kernel)
set_option maxRecDepth 20000 in
theorem gX2_following_X5_fewest_u64X2 : GoodIn wsX2_following (va_wsU RX2 64 RX2 "SlidTokens$Search" ⟨"SlidTokens$Marks", "fewest", "(II)I"⟩ yX5_fewest wsX5_fewest) := goodIn_app (goodIn_of _ (by decide +kernel)) ggX2_following_X5_fewest
set_option maxRecDepth 20000 in
theorem ggX2_following_X2_gather : GoodIn wsX2_following wsX2_gather := goodIn_r _ [41, 1, 2, 42, 43, 44, 45, 46, 47, 40, 48, 49, 50, 51, 52, 53, 54, 55, 56, 57, 58, 59, 11, 60, 13, 28, 29, 61, 14, 15, 16, 17, 18, 19, 20, 77, 78, 79, 80, 81, 82, 83, 84, 85, 86, 87, 88, 89, 90, 91, 92, 93, 94, 95, 96] (by decide +kernel) (by decide +kernel)
set_option maxRecDepth 20000 in
theorem gX2_following_X2_gather : GoodIn wsX2_following (wsV RX2 68 RX2 yX2_gather wsX2_gather) := goodIn_app (goodIn_of _ (by decide +kernel)) ggX2_following_X2_gather
theorem dX2_following_0 : decode cX2_following 0 = .ok (.aload_n 0, 1) := by decide +kernel
theorem dX2_following_1 : decode cX2_following 1 = .ok (.iload_n 1, 1) := by decide +kernel
theorem dX2_following_2 : decode cX2_following 2 = .ok (.iload_n 2, 1) := by decide +kernel
theorem dX2_following_3 : decode cX2_following 3 = .ok (.invokevirtual 64, 3) := by decide +kernel
theorem dX2_following_6 : decode cX2_following 6 = .ok (.istore_n 3, 1) := by decide +kernel
theorem dX2_following_7 : decode cX2_following 7 = .ok (.iload_n 3, 1) := by decide +kernel
theorem dX2_following_8 : decode cX2_following 8 = .ok (.ifCond .gt 6, 3) := by decide +kernel
theorem dX2_following_11 : decode cX2_following 11 = .ok (.bipush (-9), 2) := by decide +kernel
theorem dX2_following_13 : decode cX2_following 13 = .ok (.ireturn, 1) := by decide +kernel
theorem dX2_following_14 : decode cX2_following 14 = .ok (.aload_n 0, 1) := by decide +kernel
theorem dX2_following_15 : decode cX2_following 15 = .ok (.iload_n 1, 1) := by decide +kernel
theorem dX2_following_16 : decode cX2_following 16 = .ok (.invokevirtual 68, 3) := by decide +kernel
theorem dX2_following_19 : decode cX2_following 19 = .ok (.bipush (-9), 2) := by decide +kernel
theorem dX2_following_21 : decode cX2_following 21 = .ok (.istore 4, 2) := by decide +kernel
theorem dX2_following_23 : decode cX2_following 23 = .ok (.iconst 0, 1) := by decide +kernel
theorem dX2_following_24 : decode cX2_following 24 = .ok (.istore 5, 2) := by decide +kernel
theorem dX2_following_26 : decode cX2_following 26 = .ok (.iload 5, 2) := by decide +kernel
theorem dX2_following_28 : decode cX2_following 28 = .ok (.aload_n 0, 1) := by decide +kernel
theorem dX2_following_29 : decode cX2_following 29 = .ok (.getfield 49, 3) := by decide +kernel
theorem dX2_following_32 : decode cX2_following 32 = .ok (.if_icmp .ge 55, 3) := by decide +kernel
theorem dX2_following_35 : decode cX2_following 35 = .ok (.aload_n 0, 1) := by decide +kernel
theorem dX2_following_36 : decode cX2_following 36 = .ok (.getfield 41, 3) := by decide +kernel
theorem dX2_following_39 : decode cX2_following 39 = .ok (.aload_n 0, 1) := by decide +kernel
theorem dX2_following_40 : decode cX2_following 40 = .ok (.getfield 72, 3) := by decide +kernel
theorem dX2_following_43 : decode cX2_following 43 = .ok (.iload 5, 2) := by decide +kernel
theorem dX2_following_45 : decode cX2_following 45 = .ok (.iaload, 1) := by decide +kernel
theorem dX2_following_46 : decode cX2_following 46 = .ok (.iaload, 1) := by decide +kernel
theorem dX2_following_47 : decode cX2_following 47 = .ok (.iload_n 3, 1) := by decide +kernel
theorem dX2_following_48 : decode cX2_following 48 = .ok (.iconst 1, 1) := by decide +kernel
theorem dX2_following_49 : decode cX2_following 49 = .ok (.isub, 1) := by decide +kernel
theorem dX2_following_50 : decode cX2_following 50 = .ok (.if_icmp .ne 31, 3) := by decide +kernel
theorem dX2_following_53 : decode cX2_following 53 = .ok (.iload 4, 2) := by decide +kernel
theorem dX2_following_55 : decode cX2_following 55 = .ok (.bipush (-9), 2) := by decide +kernel
theorem dX2_following_57 : decode cX2_following 57 = .ok (.if_icmp .eq 15, 3) := by decide +kernel
theorem dX2_following_60 : decode cX2_following 60 = .ok (.aload_n 0, 1) := by decide +kernel
theorem dX2_following_61 : decode cX2_following 61 = .ok (.getfield 72, 3) := by decide +kernel
theorem dX2_following_64 : decode cX2_following 64 = .ok (.iload 5, 2) := by decide +kernel
theorem dX2_following_66 : decode cX2_following 66 = .ok (.iaload, 1) := by decide +kernel
theorem dX2_following_67 : decode cX2_following 67 = .ok (.iload 4, 2) := by decide +kernel
theorem dX2_following_69 : decode cX2_following 69 = .ok (.if_icmp .ge 12, 3) := by decide +kernel
theorem dX2_following_72 : decode cX2_following 72 = .ok (.aload_n 0, 1) := by decide +kernel
theorem dX2_following_73 : decode cX2_following 73 = .ok (.getfield 72, 3) := by decide +kernel
theorem dX2_following_76 : decode cX2_following 76 = .ok (.iload 5, 2) := by decide +kernel
theorem dX2_following_78 : decode cX2_following 78 = .ok (.iaload, 1) := by decide +kernel
theorem dX2_following_79 : decode cX2_following 79 = .ok (.istore 4, 2) := by decide +kernel
theorem dX2_following_81 : decode cX2_following 81 = .ok (.iinc 5 1, 3) := by decide +kernel
theorem dX2_following_84 : decode cX2_following 84 = .ok (.goto (-58), 3) := by decide +kernel
theorem dX2_following_87 : decode cX2_following 87 = .ok (.iload 4, 2) := by decide +kernel
theorem dX2_following_89 : decode cX2_following 89 = .ok (.ireturn, 1) := by decide +kernel
set_option maxRecDepth 20000 in
theorem ggX2_lightest_X5_fewest : GoodIn wsX2_lightest wsX5_fewest := goodIn_r _ [8, 9, 10, 11, 12, 13, 7, 14, 15, 16, 17, 18, 19, 20, 21, 22, 23, 24, 25, 26, 27, 28, 29, 30, 31, 32, 33, 34, 35, 36, 37, 38, 39, 40, 41, 42, 43, 44, 45, 46, 47, 48, 49, 50, 51, 52, 53, 54, 55, 56, 57, 58, 59, 60, 61, 62, 63, 64, 65, 66, 67, 68, 69, 70, 71, 72, 97, 98, 99, 100, 101, 102, 103, 104, 105, 106, 107, 108, 109, 110, 111, 112, 113, 114, 115, 116] (by decide +kernel) (by decide +kernel)
set_option maxRecDepth 20000 in
theorem gX2_lightest_X5_fewest_u64X2 : GoodIn wsX2_lightest (va_wsU RX2 64 RX2 "SlidTokens$Search" ⟨"SlidTokens$Marks", "fewest", "(II)I"⟩ yX5_fewest wsX5_fewest) := goodIn_app (goodIn_of _ (by decide +kernel)) ggX2_lightest_X5_fewest
set_option maxRecDepth 20000 in
theorem ggX2_lightest_X2_forgetSpread : GoodIn wsX2_lightest wsX2_forgetSpread := goodIn_r _ [76, 77, 78, 1, 2, 79, 80, 97, 98, 99, 100, 101, 102, 103, 104, 105, 106, 107, 108, 109, 110, 111, 112, 113, 114] (by decide +kernel) (by decide +kernel)
set_option maxRecDepth 20000 in
theorem gX2_lightest_X2_forgetSpread : GoodIn wsX2_lightest (wsV RX2 75 RX2 yX2_forgetSpread wsX2_forgetSpread) := goodIn_app (goodIn_of _ (by decide +kernel)) ggX2_lightest_X2_forgetSpread
set_option maxRecDepth 20000 in
theorem ggX2_lightest_X2_settle : GoodIn wsX2_lightest wsX2_settle := goodIn_r _ [84, 85, 86, 1, 2, 87, 35, 88, 36, 37, 38, 39, 40, 41, 42, 43, 44, 45, 46, 47, 48, 49, 50, 51, 52, 53, 54, 55, 56, 57, 7, 58, 9, 24, 25, 59, 10, 11, 12, 13, 14, 15, 16, 89, 90, 91, 92, 93, 94, 95, 96, 97, 98, 99, 100, 101, 102, 103, 104, 105, 106, 107, 108, 109, 110, 111, 112, 113, 114, 115, 116] (by decide +kernel) (by decide +kernel)
set_option maxRecDepth 20000 in
theorem gX2_lightest_X2_settle : GoodIn wsX2_lightest (wsV RX2 79 RX2 yX2_settle wsX2_settle) := goodIn_app (goodIn_of _ (by decide +kernel)) ggX2_lightest_X2_settle
theorem dX2_lightest_0 : decode cX2_lightest 0 = .ok (.aload_n 0, 1) := by decide +kernel
theorem dX2_lightest_1 : decode cX2_lightest 1 = .ok (.iload_n 1, 1) := by decide +kernel
theorem dX2_lightest_2 : decode cX2_lightest 2 = .ok (.iload_n 2, 1) := by decide +kernel
theorem dX2_lightest_3 : decode cX2_lightest 3 = .ok (.invokevirtual 64, 3) := by decide +kernel
theorem dX2_lightest_6 : decode cX2_lightest 6 = .ok (.istore_n 3, 1) := by decide +kernel
theorem dX2_lightest_7 : decode cX2_lightest 7 = .ok (.iload_n 3, 1) := by decide +kernel
theorem dX2_lightest_8 : decode cX2_lightest 8 = .ok (.ifCond .gt 5, 3) := by decide +kernel
theorem dX2_lightest_11 : decode cX2_lightest 11 = .ok (.iload_n 3, 1) := by decide +kernel
theorem dX2_lightest_12 : decode cX2_lightest 12 = .ok (.ireturn, 1) := by decide +kernel
theorem dX2_lightest_13 : decode cX2_lightest 13 = .ok (.aload_n 0, 1) := by decide +kernel
theorem dX2_lightest_14 : decode cX2_lightest 14 = .ok (.invokevirtual 75, 3) := by decide +kernel
theorem dX2_lightest_17 : decode cX2_lightest 17 = .ok (.aload_n 0, 1) := by decide +kernel
theorem dX2_lightest_18 : decode cX2_lightest 18 = .ok (.getfield 41, 3) := by decide +kernel
theorem dX2_lightest_21 : decode cX2_lightest 21 = .ok (.iload_n 1, 1) := by decide +kernel
theorem dX2_lightest_22 : decode cX2_lightest 22 = .ok (.iconst 0, 1) := by decide +kernel
theorem dX2_lightest_23 : decode cX2_lightest 23 = .ok (.iastore, 1) := by decide +kernel
theorem dX2_lightest_24 : decode cX2_lightest 24 = .ok (.iconst 0, 1) := by decide +kernel
theorem dX2_lightest_25 : decode cX2_lightest 25 = .ok (.istore 4, 2) := by decide +kernel
theorem dX2_lightest_27 : decode cX2_lightest 27 = .ok (.iload 4, 2) := by decide +kernel
theorem dX2_lightest_29 : decode cX2_lightest 29 = .ok (.iload_n 3, 1) := by decide +kernel
theorem dX2_lightest_30 : decode cX2_lightest 30 = .ok (.iconst 3, 1) := by decide +kernel
theorem dX2_lightest_31 : decode cX2_lightest 31 = .ok (.imul, 1) := by decide +kernel
theorem dX2_lightest_32 : decode cX2_lightest 32 = .ok (.if_icmp .ge 26, 3) := by decide +kernel
theorem dX2_lightest_35 : decode cX2_lightest 35 = .ok (.aload_n 0, 1) := by decide +kernel
theorem dX2_lightest_36 : decode cX2_lightest 36 = .ok (.getfield 41, 3) := by decide +kernel
theorem dX2_lightest_39 : decode cX2_lightest 39 = .ok (.iload_n 2, 1) := by decide +kernel
theorem dX2_lightest_40 : decode cX2_lightest 40 = .ok (.iaload, 1) := by decide +kernel
theorem dX2_lightest_41 : decode cX2_lightest 41 = .ok (.iload 4, 2) := by decide +kernel
theorem dX2_lightest_43 : decode cX2_lightest 43 = .ok (.if_icmp .eq 15, 3) := by decide +kernel
theorem dX2_lightest_46 : decode cX2_lightest 46 = .ok (.aload_n 0, 1) := by decide +kernel
theorem dX2_lightest_47 : decode cX2_lightest 47 = .ok (.iload 4, 2) := by decide +kernel
theorem dX2_lightest_49 : decode cX2_lightest 49 = .ok (.invokevirtual 79, 3) := by decide +kernel
theorem dX2_lightest_52 : decode cX2_lightest 52 = .ok (.iinc 4 1, 3) := by decide +kernel
theorem dX2_lightest_55 : decode cX2_lightest 55 = .ok (.goto (-28), 3) := by decide +kernel
theorem dX2_lightest_58 : decode cX2_lightest 58 = .ok (.aload_n 0, 1) := by decide +kernel
theorem dX2_lightest_59 : decode cX2_lightest 59 = .ok (.getfield 41, 3) := by decide +kernel
theorem dX2_lightest_62 : decode cX2_lightest 62 = .ok (.iload_n 2, 1) := by decide +kernel
theorem dX2_lightest_63 : decode cX2_lightest 63 = .ok (.iaload, 1) := by decide +kernel
theorem dX2_lightest_64 : decode cX2_lightest 64 = .ok (.ireturn, 1) := by decide +kernel
theorem dX2_forgetSpread_0 : decode cX2_forgetSpread 0 = .ok (.iconst 0, 1) := by decide +kernel
theorem dX2_forgetSpread_1 : decode cX2_forgetSpread 1 = .ok (.istore_n 1, 1) := by decide +kernel
theorem dX2_forgetSpread_2 : decode cX2_forgetSpread 2 = .ok (.iload_n 1, 1) := by decide +kernel
theorem dX2_forgetSpread_3 : decode cX2_forgetSpread 3 = .ok (.aload_n 0, 1) := by decide +kernel
theorem dX2_forgetSpread_4 : decode cX2_forgetSpread 4 = .ok (.getfield 28, 3) := by decide +kernel
theorem dX2_forgetSpread_7 : decode cX2_forgetSpread 7 = .ok (.if_icmp .ge 21, 3) := by decide +kernel
theorem dX2_forgetSpread_10 : decode cX2_forgetSpread 10 = .ok (.aload_n 0, 1) := by decide +kernel
theorem dX2_forgetSpread_11 : decode cX2_forgetSpread 11 = .ok (.getfield 41, 3) := by decide +kernel
theorem dX2_forgetSpread_14 : decode cX2_forgetSpread 14 = .ok (.aload_n 0, 1) := by decide +kernel
theorem dX2_forgetSpread_15 : decode cX2_forgetSpread 15 = .ok (.getfield 82, 3) := by decide +kernel
theorem dX2_forgetSpread_18 : decode cX2_forgetSpread 18 = .ok (.iload_n 1, 1) := by decide +kernel
theorem dX2_forgetSpread_19 : decode cX2_forgetSpread 19 = .ok (.iaload, 1) := by decide +kernel
theorem dX2_forgetSpread_20 : decode cX2_forgetSpread 20 = .ok (.iconst (-1), 1) := by decide +kernel
theorem dX2_forgetSpread_21 : decode cX2_forgetSpread 21 = .ok (.iastore, 1) := by decide +kernel
theorem dX2_forgetSpread_22 : decode cX2_forgetSpread 22 = .ok (.iinc 1 1, 3) := by decide +kernel
theorem dX2_forgetSpread_25 : decode cX2_forgetSpread 25 = .ok (.goto (-23), 3) := by decide +kernel
theorem dX2_forgetSpread_28 : decode cX2_forgetSpread 28 = .ok (.aload_n 0, 1) := by decide +kernel
theorem dX2_forgetSpread_29 : decode cX2_forgetSpread 29 = .ok (.iconst 0, 1) := by decide +kernel
theorem dX2_forgetSpread_30 : decode cX2_forgetSpread 30 = .ok (.putfield 28, 3) := by decide +kernel
theorem dX2_forgetSpread_33 : decode cX2_forgetSpread 33 = .ok (.return_, 1) := by decide +kernel
set_option maxRecDepth 20000 in
theorem ggX2_settle_X2_gather : GoodIn wsX2_settle wsX2_gather := goodIn_r _ [9, 10, 11, 12, 13, 14, 15, 16, 17, 8, 18, 19, 20, 21, 22, 23, 24, 25, 26, 27, 28, 29, 30, 31, 32, 33, 34, 35, 36, 37, 38, 39, 40, 41, 42, 51, 52, 53, 54, 55, 56, 57, 58, 59, 60, 61, 62, 63, 64, 65, 66, 67, 68, 69, 70] (by decide +kernel) (by decide +kernel)
set_option maxRecDepth 20000 in
theorem gX2_settle_X2_gather : GoodIn wsX2_settle (wsV RX2 68 RX2 yX2_gather wsX2_gather) := goodIn_app (goodIn_of _ (by decide +kernel)) ggX2_settle_X2_gather
set_option maxRecDepth 20000 in
theorem ggX2_settle_X2_lighten : GoodIn wsX2_settle wsX2_lighten := goodIn_r _ [46, 10, 11, 47, 48, 3, 4, 49, 50, 51, 52, 53, 54, 55, 56, 57, 58, 59, 60, 61, 62, 63, 64, 65, 66, 67, 68] (by decide +kernel) (by decide +kernel)
set_option maxRecDepth 20000 in
theorem gX2_settle_X2_lighten : GoodIn wsX2_settle (wsV RX2 85 RX2 yX2_lighten wsX2_lighten) := goodIn_app (goodIn_of _ (by decide +kernel)) ggX2_settle_X2_lighten
theorem dX2_settle_0 : decode cX2_settle 0 = .ok (.iconst 0, 1) := by decide +kernel
theorem dX2_settle_1 : decode cX2_settle 1 = .ok (.istore_n 2, 1) := by decide +kernel
theorem dX2_settle_2 : decode cX2_settle 2 = .ok (.iload_n 2, 1) := by decide +kernel
theorem dX2_settle_3 : decode cX2_settle 3 = .ok (.aload_n 0, 1) := by decide +kernel
theorem dX2_settle_4 : decode cX2_settle 4 = .ok (.getfield 25, 3) := by decide +kernel
theorem dX2_settle_7 : decode cX2_settle 7 = .ok (.if_icmp .ge 29, 3) := by decide +kernel
theorem dX2_settle_10 : decode cX2_settle 10 = .ok (.aload_n 0, 1) := by decide +kernel
theorem dX2_settle_11 : decode cX2_settle 11 = .ok (.getfield 41, 3) := by decide +kernel
theorem dX2_settle_14 : decode cX2_settle 14 = .ok (.iload_n 2, 1) := by decide +kernel
theorem dX2_settle_15 : decode cX2_settle 15 = .ok (.iaload, 1) := by decide +kernel
theorem dX2_settle_16 : decode cX2_settle 16 = .ok (.iload_n 1, 1) := by decide +kernel
theorem dX2_settle_17 : decode cX2_settle 17 = .ok (.if_icmp .ne 13, 3) := by decide +kernel
theorem dX2_settle_20 : decode cX2_settle 20 = .ok (.aload_n 0, 1) := by decide +kernel
theorem dX2_settle_21 : decode cX2_settle 21 = .ok (.iload_n 2, 1) := by decide +kernel
theorem dX2_settle_22 : decode cX2_settle 22 = .ok (.invokevirtual 68, 3) := by decide +kernel
theorem dX2_settle_25 : decode cX2_settle 25 = .ok (.aload_n 0, 1) := by decide +kernel
theorem dX2_settle_26 : decode cX2_settle 26 = .ok (.iload_n 1, 1) := by decide +kernel
theorem dX2_settle_27 : decode cX2_settle 27 = .ok (.invokevirtual 85, 3) := by decide +kernel
theorem dX2_settle_30 : decode cX2_settle 30 = .ok (.iinc 2 1, 3) := by decide +kernel
theorem dX2_settle_33 : decode cX2_settle 33 = .ok (.goto (-31), 3) := by decide +kernel
theorem dX2_settle_36 : decode cX2_settle 36 = .ok (.return_, 1) := by decide +kernel
theorem dX2_lighten_0 : decode cX2_lighten 0 = .ok (.iconst 0, 1) := by decide +kernel
theorem dX2_lighten_1 : decode cX2_lighten 1 = .ok (.istore_n 2, 1) := by decide +kernel
theorem dX2_lighten_2 : decode cX2_lighten 2 = .ok (.iload_n 2, 1) := by decide +kernel
theorem dX2_lighten_3 : decode cX2_lighten 3 = .ok (.aload_n 0, 1) := by decide +kernel
theorem dX2_lighten_4 : decode cX2_lighten 4 = .ok (.getfield 49, 3) := by decide +kernel
theorem dX2_lighten_7 : decode cX2_lighten 7 = .ok (.if_icmp .ge 57, 3) := by decide +kernel
theorem dX2_lighten_10 : decode cX2_lighten 10 = .ok (.aload_n 0, 1) := by decide +kernel
theorem dX2_lighten_11 : decode cX2_lighten 11 = .ok (.getfield 72, 3) := by decide +kernel
theorem dX2_lighten_14 : decode cX2_lighten 14 = .ok (.iload_n 2, 1) := by decide +kernel
theorem dX2_lighten_15 : decode cX2_lighten 15 = .ok (.iaload, 1) := by decide +kernel
theorem dX2_lighten_16 : decode cX2_lighten 16 = .ok (.istore_n 3, 1) := by decide +kernel
theorem dX2_lighten_17 : decode cX2_lighten 17 = .ok (.aload_n 0, 1) := by decide +kernel
theorem dX2_lighten_18 : decode cX2_lighten 18 = .ok (.getfield 41, 3) := by decide +kernel
theorem dX2_lighten_21 : decode cX2_lighten 21 = .ok (.iload_n 3, 1) := by decide +kernel
theorem dX2_lighten_22 : decode cX2_lighten 22 = .ok (.iaload, 1) := by decide +kernel
theorem dX2_lighten_23 : decode cX2_lighten 23 = .ok (.iconst (-1), 1) := by decide +kernel
theorem dX2_lighten_24 : decode cX2_lighten 24 = .ok (.if_icmp .eq 20, 3) := by decide +kernel
theorem dX2_lighten_27 : decode cX2_lighten 27 = .ok (.aload_n 0, 1) := by decide +kernel
theorem dX2_lighten_28 : decode cX2_lighten 28 = .ok (.getfield 41, 3) := by decide +kernel
theorem dX2_lighten_31 : decode cX2_lighten 31 = .ok (.iload_n 3, 1) := by decide +kernel
theorem dX2_lighten_32 : decode cX2_lighten 32 = .ok (.iaload, 1) := by decide +kernel
theorem dX2_lighten_33 : decode cX2_lighten 33 = .ok (.iload_n 1, 1) := by decide +kernel
theorem dX2_lighten_34 : decode cX2_lighten 34 = .ok (.aload_n 0, 1) := by decide +kernel
theorem dX2_lighten_35 : decode cX2_lighten 35 = .ok (.getfield 88, 3) := by decide +kernel
theorem dX2_lighten_38 : decode cX2_lighten 38 = .ok (.iload_n 2, 1) := by decide +kernel
theorem dX2_lighten_39 : decode cX2_lighten 39 = .ok (.iaload, 1) := by decide +kernel
theorem dX2_lighten_40 : decode cX2_lighten 40 = .ok (.iadd, 1) := by decide +kernel
theorem dX2_lighten_41 : decode cX2_lighten 41 = .ok (.if_icmp .le 17, 3) := by decide +kernel
theorem dX2_lighten_44 : decode cX2_lighten 44 = .ok (.aload_n 0, 1) := by decide +kernel
theorem dX2_lighten_45 : decode cX2_lighten 45 = .ok (.getfield 41, 3) := by decide +kernel
theorem dX2_lighten_48 : decode cX2_lighten 48 = .ok (.iload_n 3, 1) := by decide +kernel
theorem dX2_lighten_49 : decode cX2_lighten 49 = .ok (.iload_n 1, 1) := by decide +kernel
theorem dX2_lighten_50 : decode cX2_lighten 50 = .ok (.aload_n 0, 1) := by decide +kernel
theorem dX2_lighten_51 : decode cX2_lighten 51 = .ok (.getfield 88, 3) := by decide +kernel
theorem dX2_lighten_54 : decode cX2_lighten 54 = .ok (.iload_n 2, 1) := by decide +kernel
theorem dX2_lighten_55 : decode cX2_lighten 55 = .ok (.iaload, 1) := by decide +kernel
theorem dX2_lighten_56 : decode cX2_lighten 56 = .ok (.iadd, 1) := by decide +kernel
theorem dX2_lighten_57 : decode cX2_lighten 57 = .ok (.iastore, 1) := by decide +kernel
theorem dX2_lighten_58 : decode cX2_lighten 58 = .ok (.iinc 2 1, 3) := by decide +kernel
theorem dX2_lighten_61 : decode cX2_lighten 61 = .ok (.goto (-59), 3) := by decide +kernel
theorem dX2_lighten_64 : decode cX2_lighten 64 = .ok (.return_, 1) := by decide +kernel
set_option maxRecDepth 20000 in
theorem ggX2_frozen_X3_all : GoodIn wsX2_frozen wsX3_all := goodIn_r _ [10, 11, 30, 31] (by decide +kernel) (by decide +kernel)
set_option maxRecDepth 20000 in
theorem gX2_frozen_X3_all : GoodIn wsX2_frozen (wsV RX2 19 RX3 yX3_all wsX3_all) := goodIn_app (goodIn_of _ (by decide +kernel)) ggX2_frozen_X3_all
theorem dX2_frozen_0 : decode cX2_frozen 0 = .ok (.aload_n 0, 1) := by decide +kernel
theorem dX2_frozen_1 : decode cX2_frozen 1 = .ok (.getfield 15, 3) := by decide +kernel
theorem dX2_frozen_4 : decode cX2_frozen 4 = .ok (.invokevirtual 19, 3) := by decide +kernel
theorem dX2_frozen_7 : decode cX2_frozen 7 = .ok (.istore_n 1, 1) := by decide +kernel
theorem dX2_frozen_8 : decode cX2_frozen 8 = .ok (.iconst 0, 1) := by decide +kernel
theorem dX2_frozen_9 : decode cX2_frozen 9 = .ok (.istore_n 2, 1) := by decide +kernel
theorem dX2_frozen_10 : decode cX2_frozen 10 = .ok (.iload_n 2, 1) := by decide +kernel
theorem dX2_frozen_11 : decode cX2_frozen 11 = .ok (.aload_n 0, 1) := by decide +kernel
theorem dX2_frozen_12 : decode cX2_frozen 12 = .ok (.getfield 28, 3) := by decide +kernel
theorem dX2_frozen_15 : decode cX2_frozen 15 = .ok (.if_icmp .ge 18, 3) := by decide +kernel
theorem dX2_frozen_18 : decode cX2_frozen 18 = .ok (.iload_n 1, 1) := by decide +kernel
theorem dX2_frozen_19 : decode cX2_frozen 19 = .ok (.aload_n 0, 1) := by decide +kernel
theorem dX2_frozen_20 : decode cX2_frozen 20 = .ok (.getfield 82, 3) := by decide +kernel
theorem dX2_frozen_23 : decode cX2_frozen 23 = .ok (.iload_n 2, 1) := by decide +kernel
theorem dX2_frozen_24 : decode cX2_frozen 24 = .ok (.iaload, 1) := by decide +kernel
theorem dX2_frozen_25 : decode cX2_frozen 25 = .ok (.iand, 1) := by decide +kernel
theorem dX2_frozen_26 : decode cX2_frozen 26 = .ok (.istore_n 1, 1) := by decide +kernel
theorem dX2_frozen_27 : decode cX2_frozen 27 = .ok (.iinc 2 1, 3) := by decide +kernel
theorem dX2_frozen_30 : decode cX2_frozen 30 = .ok (.goto (-20), 3) := by decide +kernel
theorem dX2_frozen_33 : decode cX2_frozen 33 = .ok (.iload_n 1, 1) := by decide +kernel
theorem dX2_frozen_34 : decode cX2_frozen 34 = .ok (.ireturn, 1) := by decide +kernel
theorem dX2_farthest_0 : decode cX2_farthest 0 = .ok (.aload_n 0, 1) := by decide +kernel
theorem dX2_farthest_1 : decode cX2_farthest 1 = .ok (.getfield 28, 3) := by decide +kernel
theorem dX2_farthest_4 : decode cX2_farthest 4 = .ok (.ifCond .ne 7, 3) := by decide +kernel
theorem dX2_farthest_7 : decode cX2_farthest 7 = .ok (.iconst 0, 1) := by decide +kernel
theorem dX2_farthest_8 : decode cX2_farthest 8 = .ok (.goto 19, 3) := by decide +kernel
theorem dX2_farthest_11 : decode cX2_farthest 11 = .ok (.aload_n 0, 1) := by decide +kernel
theorem dX2_farthest_12 : decode cX2_farthest 12 = .ok (.getfield 41, 3) := by decide +kernel
theorem dX2_farthest_15 : decode cX2_farthest 15 = .ok (.aload_n 0, 1) := by decide +kernel
theorem dX2_farthest_16 : decode cX2_farthest 16 = .ok (.getfield 82, 3) := by decide +kernel
theorem dX2_farthest_19 : decode cX2_farthest 19 = .ok (.aload_n 0, 1) := by decide +kernel
theorem dX2_farthest_20 : decode cX2_farthest 20 = .ok (.getfield 28, 3) := by decide +kernel
theorem dX2_farthest_23 : decode cX2_farthest 23 = .ok (.iconst 1, 1) := by decide +kernel
theorem dX2_farthest_24 : decode cX2_farthest 24 = .ok (.isub, 1) := by decide +kernel
theorem dX2_farthest_25 : decode cX2_farthest 25 = .ok (.iaload, 1) := by decide +kernel
theorem dX2_farthest_26 : decode cX2_farthest 26 = .ok (.iaload, 1) := by decide +kernel
theorem dX2_farthest_27 : decode cX2_farthest 27 = .ok (.ireturn, 1) := by decide +kernel
theorem dX3_init_0 : decode cX3_init 0 = .ok (.aload_n 0, 1) := by decide +kernel
theorem dX3_init_1 : decode cX3_init 1 = .ok (.invokespecial 3, 3) := by decide +kernel
theorem dX3_init_4 : decode cX3_init 4 = .ok (.aload_n 0, 1) := by decide +kernel
theorem dX3_init_5 : decode cX3_init 5 = .ok (.bipush 9, 2) := by decide +kernel
theorem dX3_init_7 : decode cX3_init 7 = .ok (.newarray .int, 2) := by decide +kernel
theorem dX3_init_9 : decode cX3_init 9 = .ok (.putfield 9, 3) := by decide +kernel
theorem dX3_init_12 : decode cX3_init 12 = .ok (.aload_n 0, 1) := by decide +kernel
theorem dX3_init_13 : decode cX3_init 13 = .ok (.iconst 5, 1) := by decide +kernel
theorem dX3_init_14 : decode cX3_init 14 = .ok (.putfield 15, 3) := by decide +kernel
theorem dX3_init_17 : decode cX3_init 17 = .ok (.return_, 1) := by decide +kernel
set_option maxRecDepth 20000 in
theorem ggX3_restart_J7_fill_53178 : GoodIn wsX3_restart wsJ7_fill_53178 := goodIn_r _ [6] (by decide +kernel) (by decide +kernel)
set_option maxRecDepth 20000 in
theorem gX3_restart_J7_fill_53178 : GoodIn wsX3_restart (va_wsS RX3 19 yJ7_fill_53178 wsJ7_fill_53178) := goodIn_app (goodIn_of _ (by decide +kernel)) ggX3_restart_J7_fill_53178
theorem dX3_restart_0 : decode cX3_restart 0 = .ok (.aload_n 0, 1) := by decide +kernel
theorem dX3_restart_1 : decode cX3_restart 1 = .ok (.getfield 9, 3) := by decide +kernel
theorem dX3_restart_4 : decode cX3_restart 4 = .ok (.iconst 0, 1) := by decide +kernel
theorem dX3_restart_5 : decode cX3_restart 5 = .ok (.invokestatic 19, 3) := by decide +kernel
theorem dX3_restart_8 : decode cX3_restart 8 = .ok (.aload_n 0, 1) := by decide +kernel
theorem dX3_restart_9 : decode cX3_restart 9 = .ok (.iload_n 1, 1) := by decide +kernel
theorem dX3_restart_10 : decode cX3_restart 10 = .ok (.putfield 15, 3) := by decide +kernel
theorem dX3_restart_13 : decode cX3_restart 13 = .ok (.return_, 1) := by decide +kernel
theorem dX3_all_0 : decode cX3_all 0 = .ok (.iconst 1, 1) := by decide +kernel
theorem dX3_all_1 : decode cX3_all 1 = .ok (.aload_n 0, 1) := by decide +kernel
theorem dX3_all_2 : decode cX3_all 2 = .ok (.getfield 15, 3) := by decide +kernel
theorem dX3_all_5 : decode cX3_all 5 = .ok (.ishl, 1) := by decide +kernel
theorem dX3_all_6 : decode cX3_all 6 = .ok (.iconst 1, 1) := by decide +kernel
theorem dX3_all_7 : decode cX3_all 7 = .ok (.isub, 1) := by decide +kernel
theorem dX3_all_8 : decode cX3_all 8 = .ok (.ireturn, 1) := by decide +kernel
theorem dX3_hasNode_0 : decode cX3_hasNode 0 = .ok (.iload_n 1, 1) := by decide +kernel
theorem dX3_hasNode_1 : decode cX3_hasNode 1 = .ok (.ifCond .lt 15, 3) := by decide +kernel
theorem dX3_hasNode_4 : decode cX3_hasNode 4 = .ok (.iload_n 1, 1) := by decide +kernel
theorem dX3_hasNode_5 : decode cX3_hasNode 5 = .ok (.aload_n 0, 1) := by decide +kernel
theorem dX3_hasNode_6 : decode cX3_hasNode 6 = .ok (.getfield 15, 3) := by decide +kernel
theorem dX3_hasNode_9 : decode cX3_hasNode 9 = .ok (.if_icmp .ge 7, 3) := by decide +kernel
theorem dX3_hasNode_12 : decode cX3_hasNode 12 = .ok (.iconst 1, 1) := by decide +kernel
theorem dX3_hasNode_13 : decode cX3_hasNode 13 = .ok (.goto 4, 3) := by decide +kernel
theorem dX3_hasNode_16 : decode cX3_hasNode 16 = .ok (.iconst 0, 1) := by decide +kernel
theorem dX3_hasNode_17 : decode cX3_hasNode 17 = .ok (.ireturn, 1) := by decide +kernel
set_option maxRecDepth 20000 in
theorem ggX3_hasSet_X3_all : GoodIn wsX3_hasSet wsX3_all := goodIn_r _ [5, 6, 7, 8] (by decide +kernel) (by decide +kernel)
set_option maxRecDepth 20000 in
theorem gX3_hasSet_X3_all : GoodIn wsX3_hasSet (wsV RX3 25 RX3 yX3_all wsX3_all) := goodIn_app (goodIn_of _ (by decide +kernel)) ggX3_hasSet_X3_all
theorem dX3_hasSet_0 : decode cX3_hasSet 0 = .ok (.iload_n 1, 1) := by decide +kernel
theorem dX3_hasSet_1 : decode cX3_hasSet 1 = .ok (.ifCond .lt 15, 3) := by decide +kernel
theorem dX3_hasSet_4 : decode cX3_hasSet 4 = .ok (.iload_n 1, 1) := by decide +kernel
theorem dX3_hasSet_5 : decode cX3_hasSet 5 = .ok (.aload_n 0, 1) := by decide +kernel
theorem dX3_hasSet_6 : decode cX3_hasSet 6 = .ok (.invokevirtual 25, 3) := by decide +kernel
theorem dX3_hasSet_9 : decode cX3_hasSet 9 = .ok (.if_icmp .gt 7, 3) := by decide +kernel
theorem dX3_hasSet_12 : decode cX3_hasSet 12 = .ok (.iconst 1, 1) := by decide +kernel
theorem dX3_hasSet_13 : decode cX3_hasSet 13 = .ok (.goto 4, 3) := by decide +kernel
theorem dX3_hasSet_16 : decode cX3_hasSet 16 = .ok (.iconst 0, 1) := by decide +kernel
theorem dX3_hasSet_17 : decode cX3_hasSet 17 = .ok (.ireturn, 1) := by decide +kernel
set_option maxRecDepth 20000 in
theorem ggX3_areJoined_X3_hasNode : GoodIn wsX3_areJoined wsX3_hasNode := goodIn_r _ [6, 7, 8, 9] (by decide +kernel) (by decide +kernel)
set_option maxRecDepth 20000 in
theorem gX3_areJoined_X3_hasNode : GoodIn wsX3_areJoined (wsV RX3 29 RX3 yX3_hasNode wsX3_hasNode) := goodIn_app (goodIn_of _ (by decide +kernel)) ggX3_areJoined_X3_hasNode
theorem dX3_areJoined_0 : decode cX3_areJoined 0 = .ok (.aload_n 0, 1) := by decide +kernel
theorem dX3_areJoined_1 : decode cX3_areJoined 1 = .ok (.iload_n 1, 1) := by decide +kernel
theorem dX3_areJoined_2 : decode cX3_areJoined 2 = .ok (.invokevirtual 29, 3) := by decide +kernel
theorem dX3_areJoined_5 : decode cX3_areJoined 5 = .ok (.ifCond .eq 29, 3) := by decide +kernel
theorem dX3_areJoined_8 : decode cX3_areJoined 8 = .ok (.aload_n 0, 1) := by decide +kernel
theorem dX3_areJoined_9 : decode cX3_areJoined 9 = .ok (.iload_n 2, 1) := by decide +kernel
theorem dX3_areJoined_10 : decode cX3_areJoined 10 = .ok (.invokevirtual 29, 3) := by decide +kernel
theorem dX3_areJoined_13 : decode cX3_areJoined 13 = .ok (.ifCond .eq 21, 3) := by decide +kernel
theorem dX3_areJoined_16 : decode cX3_areJoined 16 = .ok (.aload_n 0, 1) := by decide +kernel
theorem dX3_areJoined_17 : decode cX3_areJoined 17 = .ok (.getfield 9, 3) := by decide +kernel
theorem dX3_areJoined_20 : decode cX3_areJoined 20 = .ok (.iload_n 1, 1) := by decide +kernel
theorem dX3_areJoined_21 : decode cX3_areJoined 21 = .ok (.iaload, 1) := by decide +kernel
theorem dX3_areJoined_22 : decode cX3_areJoined 22 = .ok (.iload_n 2, 1) := by decide +kernel
theorem dX3_areJoined_23 : decode cX3_areJoined 23 = .ok (.ishr, 1) := by decide +kernel
theorem dX3_areJoined_24 : decode cX3_areJoined 24 = .ok (.iconst 1, 1) := by decide +kernel
theorem dX3_areJoined_25 : decode cX3_areJoined 25 = .ok (.iand, 1) := by decide +kernel
theorem dX3_areJoined_26 : decode cX3_areJoined 26 = .ok (.iconst 1, 1) := by decide +kernel
theorem dX3_areJoined_27 : decode cX3_areJoined 27 = .ok (.if_icmp .ne 7, 3) := by decide +kernel
theorem dX3_areJoined_30 : decode cX3_areJoined 30 = .ok (.iconst 1, 1) := by decide +kernel
theorem dX3_areJoined_31 : decode cX3_areJoined 31 = .ok (.goto 4, 3) := by decide +kernel
theorem dX3_areJoined_34 : decode cX3_areJoined 34 = .ok (.iconst 0, 1) := by decide +kernel
theorem dX3_areJoined_35 : decode cX3_areJoined 35 = .ok (.ireturn, 1) := by decide +kernel
set_option maxRecDepth 20000 in
theorem ggX3_tie_X3_hasNode : GoodIn wsX3_tie wsX3_hasNode := goodIn_r _ [6, 7, 8, 9] (by decide +kernel) (by decide +kernel)
set_option maxRecDepth 20000 in
theorem gX3_tie_X3_hasNode : GoodIn wsX3_tie (wsV RX3 29 RX3 yX3_hasNode wsX3_hasNode) := goodIn_app (goodIn_of _ (by decide +kernel)) ggX3_tie_X3_hasNode
theorem dX3_tie_0 : decode cX3_tie 0 = .ok (.aload_n 0, 1) := by decide +kernel
theorem dX3_tie_1 : decode cX3_tie 1 = .ok (.iload_n 1, 1) := by decide +kernel
theorem dX3_tie_2 : decode cX3_tie 2 = .ok (.invokevirtual 29, 3) := by decide +kernel
theorem dX3_tie_5 : decode cX3_tie 5 = .ok (.ifCond .eq 11, 3) := by decide +kernel
theorem dX3_tie_8 : decode cX3_tie 8 = .ok (.aload_n 0, 1) := by decide +kernel
theorem dX3_tie_9 : decode cX3_tie 9 = .ok (.iload_n 2, 1) := by decide +kernel
theorem dX3_tie_10 : decode cX3_tie 10 = .ok (.invokevirtual 29, 3) := by decide +kernel
theorem dX3_tie_13 : decode cX3_tie 13 = .ok (.ifCond .ne 4, 3) := by decide +kernel
theorem dX3_tie_16 : decode cX3_tie 16 = .ok (.return_, 1) := by decide +kernel
theorem dX3_tie_17 : decode cX3_tie 17 = .ok (.aload_n 0, 1) := by decide +kernel
theorem dX3_tie_18 : decode cX3_tie 18 = .ok (.getfield 9, 3) := by decide +kernel
theorem dX3_tie_21 : decode cX3_tie 21 = .ok (.iload_n 1, 1) := by decide +kernel
theorem dX3_tie_22 : decode cX3_tie 22 = .ok (.iload_n 3, 1) := by decide +kernel
theorem dX3_tie_23 : decode cX3_tie 23 = .ok (.ifCond .eq 16, 3) := by decide +kernel
theorem dX3_tie_26 : decode cX3_tie 26 = .ok (.aload_n 0, 1) := by decide +kernel
theorem dX3_tie_27 : decode cX3_tie 27 = .ok (.getfield 9, 3) := by decide +kernel
theorem dX3_tie_30 : decode cX3_tie 30 = .ok (.iload_n 1, 1) := by decide +kernel
theorem dX3_tie_31 : decode cX3_tie 31 = .ok (.iaload, 1) := by decide +kernel
theorem dX3_tie_32 : decode cX3_tie 32 = .ok (.iconst 1, 1) := by decide +kernel
theorem dX3_tie_33 : decode cX3_tie 33 = .ok (.iload_n 2, 1) := by decide +kernel
theorem dX3_tie_34 : decode cX3_tie 34 = .ok (.ishl, 1) := by decide +kernel
theorem dX3_tie_35 : decode cX3_tie 35 = .ok (.ior, 1) := by decide +kernel
theorem dX3_tie_36 : decode cX3_tie 36 = .ok (.goto 15, 3) := by decide +kernel
theorem dX3_tie_39 : decode cX3_tie 39 = .ok (.aload_n 0, 1) := by decide +kernel
theorem dX3_tie_40 : decode cX3_tie 40 = .ok (.getfield 9, 3) := by decide +kernel
theorem dX3_tie_43 : decode cX3_tie 43 = .ok (.iload_n 1, 1) := by decide +kernel
theorem dX3_tie_44 : decode cX3_tie 44 = .ok (.iaload, 1) := by decide +kernel
theorem dX3_tie_45 : decode cX3_tie 45 = .ok (.iconst 1, 1) := by decide +kernel
theorem dX3_tie_46 : decode cX3_tie 46 = .ok (.iload_n 2, 1) := by decide +kernel
theorem dX3_tie_47 : decode cX3_tie 47 = .ok (.ishl, 1) := by decide +kernel
theorem dX3_tie_48 : decode cX3_tie 48 = .ok (.iconst (-1), 1) := by decide +kernel
theorem dX3_tie_49 : decode cX3_tie 49 = .ok (.ixor, 1) := by decide +kernel
theorem dX3_tie_50 : decode cX3_tie 50 = .ok (.iand, 1) := by decide +kernel
theorem dX3_tie_51 : decode cX3_tie 51 = .ok (.iastore, 1) := by decide +kernel
theorem dX3_tie_52 : decode cX3_tie 52 = .ok (.aload_n 0, 1) := by decide +kernel
theorem dX3_tie_53 : decode cX3_tie 53 = .ok (.getfield 9, 3) := by decide +kernel
theorem dX3_tie_56 : decode cX3_tie 56 = .ok (.iload_n 2, 1) := by decide +kernel
theorem dX3_tie_57 : decode cX3_tie 57 = .ok (.iload_n 3, 1) := by decide +kernel
theorem dX3_tie_58 : decode cX3_tie 58 = .ok (.ifCond .eq 16, 3) := by decide +kernel
theorem dX3_tie_61 : decode cX3_tie 61 = .ok (.aload_n 0, 1) := by decide +kernel
theorem dX3_tie_62 : decode cX3_tie 62 = .ok (.getfield 9, 3) := by decide +kernel
theorem dX3_tie_65 : decode cX3_tie 65 = .ok (.iload_n 2, 1) := by decide +kernel
theorem dX3_tie_66 : decode cX3_tie 66 = .ok (.iaload, 1) := by decide +kernel
theorem dX3_tie_67 : decode cX3_tie 67 = .ok (.iconst 1, 1) := by decide +kernel
theorem dX3_tie_68 : decode cX3_tie 68 = .ok (.iload_n 1, 1) := by decide +kernel
theorem dX3_tie_69 : decode cX3_tie 69 = .ok (.ishl, 1) := by decide +kernel
theorem dX3_tie_70 : decode cX3_tie 70 = .ok (.ior, 1) := by decide +kernel
theorem dX3_tie_71 : decode cX3_tie 71 = .ok (.goto 15, 3) := by decide +kernel
theorem dX3_tie_74 : decode cX3_tie 74 = .ok (.aload_n 0, 1) := by decide +kernel
theorem dX3_tie_75 : decode cX3_tie 75 = .ok (.getfield 9, 3) := by decide +kernel
theorem dX3_tie_78 : decode cX3_tie 78 = .ok (.iload_n 2, 1) := by decide +kernel
theorem dX3_tie_79 : decode cX3_tie 79 = .ok (.iaload, 1) := by decide +kernel
theorem dX3_tie_80 : decode cX3_tie 80 = .ok (.iconst 1, 1) := by decide +kernel
theorem dX3_tie_81 : decode cX3_tie 81 = .ok (.iload_n 1, 1) := by decide +kernel
theorem dX3_tie_82 : decode cX3_tie 82 = .ok (.ishl, 1) := by decide +kernel
theorem dX3_tie_83 : decode cX3_tie 83 = .ok (.iconst (-1), 1) := by decide +kernel
theorem dX3_tie_84 : decode cX3_tie 84 = .ok (.ixor, 1) := by decide +kernel
theorem dX3_tie_85 : decode cX3_tie 85 = .ok (.iand, 1) := by decide +kernel
theorem dX3_tie_86 : decode cX3_tie 86 = .ok (.iastore, 1) := by decide +kernel
theorem dX3_tie_87 : decode cX3_tie 87 = .ok (.return_, 1) := by decide +kernel
set_option maxRecDepth 20000 in
theorem ggX3_pairs_J6_bitCount_0f7a4 : GoodIn wsX3_pairs wsJ6_bitCount_0f7a4 := goodIn_r _ [6, 7, 8, 9] (by decide +kernel) (by decide +kernel)
set_option maxRecDepth 20000 in
theorem gX3_pairs_J6_bitCount_0f7a4 : GoodIn wsX3_pairs (va_wsS RX3 33 yJ6_bitCount_0f7a4 wsJ6_bitCount_0f7a4) := goodIn_app (goodIn_of _ (by decide +kernel)) ggX3_pairs_J6_bitCount_0f7a4
theorem dX3_pairs_0 : decode cX3_pairs 0 = .ok (.iconst 0, 1) := by decide +kernel
theorem dX3_pairs_1 : decode cX3_pairs 1 = .ok (.istore_n 1, 1) := by decide +kernel
theorem dX3_pairs_2 : decode cX3_pairs 2 = .ok (.iconst 0, 1) := by decide +kernel
theorem dX3_pairs_3 : decode cX3_pairs 3 = .ok (.istore_n 2, 1) := by decide +kernel
theorem dX3_pairs_4 : decode cX3_pairs 4 = .ok (.iload_n 2, 1) := by decide +kernel
theorem dX3_pairs_5 : decode cX3_pairs 5 = .ok (.aload_n 0, 1) := by decide +kernel
theorem dX3_pairs_6 : decode cX3_pairs 6 = .ok (.getfield 15, 3) := by decide +kernel
theorem dX3_pairs_9 : decode cX3_pairs 9 = .ok (.if_icmp .ge 21, 3) := by decide +kernel
theorem dX3_pairs_12 : decode cX3_pairs 12 = .ok (.iload_n 1, 1) := by decide +kernel
theorem dX3_pairs_13 : decode cX3_pairs 13 = .ok (.aload_n 0, 1) := by decide +kernel
theorem dX3_pairs_14 : decode cX3_pairs 14 = .ok (.getfield 9, 3) := by decide +kernel
theorem dX3_pairs_17 : decode cX3_pairs 17 = .ok (.iload_n 2, 1) := by decide +kernel
theorem dX3_pairs_18 : decode cX3_pairs 18 = .ok (.iaload, 1) := by decide +kernel
theorem dX3_pairs_19 : decode cX3_pairs 19 = .ok (.invokestatic 33, 3) := by decide +kernel
theorem dX3_pairs_22 : decode cX3_pairs 22 = .ok (.iadd, 1) := by decide +kernel
theorem dX3_pairs_23 : decode cX3_pairs 23 = .ok (.istore_n 1, 1) := by decide +kernel
theorem dX3_pairs_24 : decode cX3_pairs 24 = .ok (.iinc 2 1, 3) := by decide +kernel
theorem dX3_pairs_27 : decode cX3_pairs 27 = .ok (.goto (-23), 3) := by decide +kernel
theorem dX3_pairs_30 : decode cX3_pairs 30 = .ok (.iload_n 1, 1) := by decide +kernel
theorem dX3_pairs_31 : decode cX3_pairs 31 = .ok (.iconst 1, 1) := by decide +kernel
theorem dX3_pairs_32 : decode cX3_pairs 32 = .ok (.ishr, 1) := by decide +kernel
theorem dX3_pairs_33 : decode cX3_pairs 33 = .ok (.ireturn, 1) := by decide +kernel
set_option maxRecDepth 20000 in
theorem ggX3_form_X3_restart : GoodIn wsX3_form wsX3_restart := goodIn_r _ [6, 7, 1, 8, 9, 10, 11, 24, 25] (by decide +kernel) (by decide +kernel)
set_option maxRecDepth 20000 in
theorem gX3_form_X3_restart : GoodIn wsX3_form (wsV RX3 39 RX3 yX3_restart wsX3_restart) := goodIn_app (goodIn_of _ (by decide +kernel)) ggX3_form_X3_restart
set_option maxRecDepth 20000 in
theorem ggX3_form_X3_isInShape : GoodIn wsX3_form wsX3_isInShape := goodIn_r _ [15, 1, 24, 25] (by decide +kernel) (by decide +kernel)
set_option maxRecDepth 20000 in
theorem gX3_form_X3_isInShape : GoodIn wsX3_form (wsV RX3 43 RX3 yX3_isInShape wsX3_isInShape) := goodIn_app (goodIn_of _ (by decide +kernel)) ggX3_form_X3_isInShape
set_option maxRecDepth 20000 in
theorem ggX3_form_X3_tie : GoodIn wsX3_form wsX3_tie := goodIn_r _ [19, 7, 20, 21, 22, 5, 23, 1, 24, 25] (by decide +kernel) (by decide +kernel)
set_option maxRecDepth 20000 in
theorem gX3_form_X3_tie : GoodIn wsX3_form (wsV RX3 47 RX3 yX3_tie wsX3_tie) := goodIn_app (goodIn_of _ (by decide +kernel)) ggX3_form_X3_tie
theorem dX3_form_0 : decode cX3_form 0 = .ok (.aload_n 0, 1) := by decide +kernel
theorem dX3_form_1 : decode cX3_form 1 = .ok (.aload_n 0, 1) := by decide +kernel
theorem dX3_form_2 : decode cX3_form 2 = .ok (.getfield 15, 3) := by decide +kernel
theorem dX3_form_5 : decode cX3_form 5 = .ok (.invokevirtual 39, 3) := by decide +kernel
theorem dX3_form_8 : decode cX3_form 8 = .ok (.iconst 0, 1) := by decide +kernel
theorem dX3_form_9 : decode cX3_form 9 = .ok (.istore_n 2, 1) := by decide +kernel
theorem dX3_form_10 : decode cX3_form 10 = .ok (.iload_n 2, 1) := by decide +kernel
theorem dX3_form_11 : decode cX3_form 11 = .ok (.aload_n 0, 1) := by decide +kernel
theorem dX3_form_12 : decode cX3_form 12 = .ok (.getfield 15, 3) := by decide +kernel
theorem dX3_form_15 : decode cX3_form 15 = .ok (.if_icmp .ge 40, 3) := by decide +kernel
theorem dX3_form_18 : decode cX3_form 18 = .ok (.iload_n 2, 1) := by decide +kernel
theorem dX3_form_19 : decode cX3_form 19 = .ok (.iconst 1, 1) := by decide +kernel
theorem dX3_form_20 : decode cX3_form 20 = .ok (.iadd, 1) := by decide +kernel
theorem dX3_form_21 : decode cX3_form 21 = .ok (.istore_n 3, 1) := by decide +kernel
theorem dX3_form_22 : decode cX3_form 22 = .ok (.iload_n 3, 1) := by decide +kernel
theorem dX3_form_23 : decode cX3_form 23 = .ok (.aload_n 0, 1) := by decide +kernel
theorem dX3_form_24 : decode cX3_form 24 = .ok (.getfield 15, 3) := by decide +kernel
theorem dX3_form_27 : decode cX3_form 27 = .ok (.if_icmp .ge 22, 3) := by decide +kernel
theorem dX3_form_30 : decode cX3_form 30 = .ok (.aload_n 0, 1) := by decide +kernel
theorem dX3_form_31 : decode cX3_form 31 = .ok (.iload_n 2, 1) := by decide +kernel
theorem dX3_form_32 : decode cX3_form 32 = .ok (.iload_n 3, 1) := by decide +kernel
theorem dX3_form_33 : decode cX3_form 33 = .ok (.aload_n 0, 1) := by decide +kernel
theorem dX3_form_34 : decode cX3_form 34 = .ok (.iload_n 1, 1) := by decide +kernel
theorem dX3_form_35 : decode cX3_form 35 = .ok (.iload_n 2, 1) := by decide +kernel
theorem dX3_form_36 : decode cX3_form 36 = .ok (.iload_n 3, 1) := by decide +kernel
theorem dX3_form_37 : decode cX3_form 37 = .ok (.invokevirtual 43, 3) := by decide +kernel
theorem dX3_form_40 : decode cX3_form 40 = .ok (.invokevirtual 47, 3) := by decide +kernel
theorem dX3_form_43 : decode cX3_form 43 = .ok (.iinc 3 1, 3) := by decide +kernel
theorem dX3_form_46 : decode cX3_form 46 = .ok (.goto (-24), 3) := by decide +kernel
theorem dX3_form_49 : decode cX3_form 49 = .ok (.iinc 2 1, 3) := by decide +kernel
theorem dX3_form_52 : decode cX3_form 52 = .ok (.goto (-42), 3) := by decide +kernel
theorem dX3_form_55 : decode cX3_form 55 = .ok (.return_, 1) := by decide +kernel
theorem dX3_isInShape_0 : decode cX3_isInShape 0 = .ok (.iload_n 1, 1) := by decide +kernel
theorem dX3_isInShape_1 : decode cX3_isInShape 1 = .ok (.tableswitch 69 0 2 #[27, 40, 67], 27) := by decide +kernel
theorem dX3_isInShape_28 : decode cX3_isInShape 28 = .ok (.iload_n 3, 1) := by decide +kernel
theorem dX3_isInShape_29 : decode cX3_isInShape 29 = .ok (.iload_n 2, 1) := by decide +kernel
theorem dX3_isInShape_30 : decode cX3_isInShape 30 = .ok (.iconst 1, 1) := by decide +kernel
theorem dX3_isInShape_31 : decode cX3_isInShape 31 = .ok (.iadd, 1) := by decide +kernel
theorem dX3_isInShape_32 : decode cX3_isInShape 32 = .ok (.if_icmp .ne 7, 3) := by decide +kernel
theorem dX3_isInShape_35 : decode cX3_isInShape 35 = .ok (.iconst 1, 1) := by decide +kernel
theorem dX3_isInShape_36 : decode cX3_isInShape 36 = .ok (.goto 4, 3) := by decide +kernel
theorem dX3_isInShape_39 : decode cX3_isInShape 39 = .ok (.iconst 0, 1) := by decide +kernel
theorem dX3_isInShape_40 : decode cX3_isInShape 40 = .ok (.ireturn, 1) := by decide +kernel
theorem dX3_isInShape_41 : decode cX3_isInShape 41 = .ok (.iload_n 3, 1) := by decide +kernel
theorem dX3_isInShape_42 : decode cX3_isInShape 42 = .ok (.iload_n 2, 1) := by decide +kernel
theorem dX3_isInShape_43 : decode cX3_isInShape 43 = .ok (.iconst 1, 1) := by decide +kernel
theorem dX3_isInShape_44 : decode cX3_isInShape 44 = .ok (.iadd, 1) := by decide +kernel
theorem dX3_isInShape_45 : decode cX3_isInShape 45 = .ok (.if_icmp .eq 17, 3) := by decide +kernel
theorem dX3_isInShape_48 : decode cX3_isInShape 48 = .ok (.iload_n 2, 1) := by decide +kernel
theorem dX3_isInShape_49 : decode cX3_isInShape 49 = .ok (.ifCond .ne 17, 3) := by decide +kernel
theorem dX3_isInShape_52 : decode cX3_isInShape 52 = .ok (.iload_n 3, 1) := by decide +kernel
theorem dX3_isInShape_53 : decode cX3_isInShape 53 = .ok (.aload_n 0, 1) := by decide +kernel
theorem dX3_isInShape_54 : decode cX3_isInShape 54 = .ok (.getfield 15, 3) := by decide +kernel
theorem dX3_isInShape_57 : decode cX3_isInShape 57 = .ok (.iconst 1, 1) := by decide +kernel
theorem dX3_isInShape_58 : decode cX3_isInShape 58 = .ok (.isub, 1) := by decide +kernel
theorem dX3_isInShape_59 : decode cX3_isInShape 59 = .ok (.if_icmp .ne 7, 3) := by decide +kernel
theorem dX3_isInShape_62 : decode cX3_isInShape 62 = .ok (.iconst 1, 1) := by decide +kernel
theorem dX3_isInShape_63 : decode cX3_isInShape 63 = .ok (.goto 4, 3) := by decide +kernel
theorem dX3_isInShape_66 : decode cX3_isInShape 66 = .ok (.iconst 0, 1) := by decide +kernel
theorem dX3_isInShape_67 : decode cX3_isInShape 67 = .ok (.ireturn, 1) := by decide +kernel
theorem dX3_isInShape_68 : decode cX3_isInShape 68 = .ok (.iconst 1, 1) := by decide +kernel
theorem dX3_isInShape_69 : decode cX3_isInShape 69 = .ok (.ireturn, 1) := by decide +kernel
theorem dX3_isInShape_70 : decode cX3_isInShape 70 = .ok (.iload_n 2, 1) := by decide +kernel
theorem dX3_isInShape_71 : decode cX3_isInShape 71 = .ok (.ifCond .ne 7, 3) := by decide +kernel
theorem dX3_isInShape_74 : decode cX3_isInShape 74 = .ok (.iconst 1, 1) := by decide +kernel
theorem dX3_isInShape_75 : decode cX3_isInShape 75 = .ok (.goto 4, 3) := by decide +kernel
theorem dX3_isInShape_78 : decode cX3_isInShape 78 = .ok (.iconst 0, 1) := by decide +kernel
theorem dX3_isInShape_79 : decode cX3_isInShape 79 = .ok (.ireturn, 1) := by decide +kernel
set_option maxRecDepth 20000 in
theorem ggX3_isLawful_X3_touchesNowhere : GoodIn wsX3_isLawful wsX3_touchesNowhere := goodIn_r _ [5, 6, 7, 16, 17] (by decide +kernel) (by decide +kernel)
set_option maxRecDepth 20000 in
theorem gX3_isLawful_X3_touchesNowhere : GoodIn wsX3_isLawful (wsV RX3 51 RX3 yX3_touchesNowhere wsX3_touchesNowhere) := goodIn_app (goodIn_of _ (by decide +kernel)) ggX3_isLawful_X3_touchesNowhere
set_option maxRecDepth 20000 in
theorem ggX3_isLawful_X3_all : GoodIn wsX3_isLawful wsX3_all := goodIn_r _ [11, 6, 16, 17] (by decide +kernel) (by decide +kernel)
set_option maxRecDepth 20000 in
theorem gX3_isLawful_X3_all : GoodIn wsX3_isLawful (wsV RX3 25 RX3 yX3_all wsX3_all) := goodIn_app (goodIn_of _ (by decide +kernel)) ggX3_isLawful_X3_all
set_option maxRecDepth 20000 in
theorem ggX3_isLawful_X3_seesAll : GoodIn wsX3_isLawful wsX3_seesAll := goodIn_r _ [15, 6, 7, 8, 9, 10, 4, 11, 16, 17] (by decide +kernel) (by decide +kernel)
set_option maxRecDepth 20000 in
theorem gX3_isLawful_X3_seesAll : GoodIn wsX3_isLawful (wsV RX3 54 RX3 yX3_seesAll wsX3_seesAll) := goodIn_app (goodIn_of _ (by decide +kernel)) ggX3_isLawful_X3_seesAll
theorem dX3_isLawful_0 : decode cX3_isLawful 0 = .ok (.iload_n 1, 1) := by decide +kernel
theorem dX3_isLawful_1 : decode cX3_isLawful 1 = .ok (.lookupswitch 46 #[(0, 27), (1, 33)], 27) := by decide +kernel
theorem dX3_isLawful_28 : decode cX3_isLawful 28 = .ok (.aload_n 0, 1) := by decide +kernel
theorem dX3_isLawful_29 : decode cX3_isLawful 29 = .ok (.iload_n 2, 1) := by decide +kernel
theorem dX3_isLawful_30 : decode cX3_isLawful 30 = .ok (.invokevirtual 51, 3) := by decide +kernel
theorem dX3_isLawful_33 : decode cX3_isLawful 33 = .ok (.ireturn, 1) := by decide +kernel
theorem dX3_isLawful_34 : decode cX3_isLawful 34 = .ok (.aload_n 0, 1) := by decide +kernel
theorem dX3_isLawful_35 : decode cX3_isLawful 35 = .ok (.aload_n 0, 1) := by decide +kernel
theorem dX3_isLawful_36 : decode cX3_isLawful 36 = .ok (.invokevirtual 25, 3) := by decide +kernel
theorem dX3_isLawful_39 : decode cX3_isLawful 39 = .ok (.iload_n 2, 1) := by decide +kernel
theorem dX3_isLawful_40 : decode cX3_isLawful 40 = .ok (.iconst (-1), 1) := by decide +kernel
theorem dX3_isLawful_41 : decode cX3_isLawful 41 = .ok (.ixor, 1) := by decide +kernel
theorem dX3_isLawful_42 : decode cX3_isLawful 42 = .ok (.iand, 1) := by decide +kernel
theorem dX3_isLawful_43 : decode cX3_isLawful 43 = .ok (.invokevirtual 51, 3) := by decide +kernel
theorem dX3_isLawful_46 : decode cX3_isLawful 46 = .ok (.ireturn, 1) := by decide +kernel
theorem dX3_isLawful_47 : decode cX3_isLawful 47 = .ok (.aload_n 0, 1) := by decide +kernel
theorem dX3_isLawful_48 : decode cX3_isLawful 48 = .ok (.iload_n 2, 1) := by decide +kernel
theorem dX3_isLawful_49 : decode cX3_isLawful 49 = .ok (.invokevirtual 54, 3) := by decide +kernel
theorem dX3_isLawful_52 : decode cX3_isLawful 52 = .ok (.ireturn, 1) := by decide +kernel
theorem dX3_touchesNowhere_0 : decode cX3_touchesNowhere 0 = .ok (.iconst 0, 1) := by decide +kernel
theorem dX3_touchesNowhere_1 : decode cX3_touchesNowhere 1 = .ok (.istore_n 2, 1) := by decide +kernel
theorem dX3_touchesNowhere_2 : decode cX3_touchesNowhere 2 = .ok (.iload_n 2, 1) := by decide +kernel
theorem dX3_touchesNowhere_3 : decode cX3_touchesNowhere 3 = .ok (.aload_n 0, 1) := by decide +kernel
theorem dX3_touchesNowhere_4 : decode cX3_touchesNowhere 4 = .ok (.getfield 15, 3) := by decide +kernel
theorem dX3_touchesNowhere_7 : decode cX3_touchesNowhere 7 = .ok (.if_icmp .ge 31, 3) := by decide +kernel
theorem dX3_touchesNowhere_10 : decode cX3_touchesNowhere 10 = .ok (.iload_n 1, 1) := by decide +kernel
theorem dX3_touchesNowhere_11 : decode cX3_touchesNowhere 11 = .ok (.iload_n 2, 1) := by decide +kernel
theorem dX3_touchesNowhere_12 : decode cX3_touchesNowhere 12 = .ok (.ishr, 1) := by decide +kernel
theorem dX3_touchesNowhere_13 : decode cX3_touchesNowhere 13 = .ok (.iconst 1, 1) := by decide +kernel
theorem dX3_touchesNowhere_14 : decode cX3_touchesNowhere 14 = .ok (.iand, 1) := by decide +kernel
theorem dX3_touchesNowhere_15 : decode cX3_touchesNowhere 15 = .ok (.iconst 1, 1) := by decide +kernel
theorem dX3_touchesNowhere_16 : decode cX3_touchesNowhere 16 = .ok (.if_icmp .ne 16, 3) := by decide +kernel
theorem dX3_touchesNowhere_19 : decode cX3_touchesNowhere 19 = .ok (.aload_n 0, 1) := by decide +kernel
theorem dX3_touchesNowhere_20 : decode cX3_touchesNowhere 20 = .ok (.getfield 9, 3) := by decide +kernel
theorem dX3_touchesNowhere_23 : decode cX3_touchesNowhere 23 = .ok (.iload_n 2, 1) := by decide +kernel
theorem dX3_touchesNowhere_24 : decode cX3_touchesNowhere 24 = .ok (.iaload, 1) := by decide +kernel
theorem dX3_touchesNowhere_25 : decode cX3_touchesNowhere 25 = .ok (.iload_n 1, 1) := by decide +kernel
theorem dX3_touchesNowhere_26 : decode cX3_touchesNowhere 26 = .ok (.iand, 1) := by decide +kernel
theorem dX3_touchesNowhere_27 : decode cX3_touchesNowhere 27 = .ok (.ifCond .eq 5, 3) := by decide +kernel
theorem dX3_touchesNowhere_30 : decode cX3_touchesNowhere 30 = .ok (.iconst 0, 1) := by decide +kernel
theorem dX3_touchesNowhere_31 : decode cX3_touchesNowhere 31 = .ok (.ireturn, 1) := by decide +kernel
theorem dX3_touchesNowhere_32 : decode cX3_touchesNowhere 32 = .ok (.iinc 2 1, 3) := by decide +kernel
theorem dX3_touchesNowhere_35 : decode cX3_touchesNowhere 35 = .ok (.goto (-33), 3) := by decide +kernel
theorem dX3_touchesNowhere_38 : decode cX3_touchesNowhere 38 = .ok (.iconst 1, 1) := by decide +kernel
theorem dX3_touchesNowhere_39 : decode cX3_touchesNowhere 39 = .ok (.ireturn, 1) := by decide +kernel
set_option maxRecDepth 20000 in
theorem ggX3_seesAll_X3_all : GoodIn wsX3_seesAll wsX3_all := goodIn_r _ [7, 1, 8, 9] (by decide +kernel) (by decide +kernel)
set_option maxRecDepth 20000 in
theorem gX3_seesAll_X3_all : GoodIn wsX3_seesAll (wsV RX3 25 RX3 yX3_all wsX3_all) := goodIn_app (goodIn_of _ (by decide +kernel)) ggX3_seesAll_X3_all
theorem dX3_seesAll_0 : decode cX3_seesAll 0 = .ok (.iload_n 1, 1) := by decide +kernel
theorem dX3_seesAll_1 : decode cX3_seesAll 1 = .ok (.istore_n 2, 1) := by decide +kernel
theorem dX3_seesAll_2 : decode cX3_seesAll 2 = .ok (.iconst 0, 1) := by decide +kernel
theorem dX3_seesAll_3 : decode cX3_seesAll 3 = .ok (.istore_n 3, 1) := by decide +kernel
theorem dX3_seesAll_4 : decode cX3_seesAll 4 = .ok (.iload_n 3, 1) := by decide +kernel
theorem dX3_seesAll_5 : decode cX3_seesAll 5 = .ok (.aload_n 0, 1) := by decide +kernel
theorem dX3_seesAll_6 : decode cX3_seesAll 6 = .ok (.getfield 15, 3) := by decide +kernel
theorem dX3_seesAll_9 : decode cX3_seesAll 9 = .ok (.if_icmp .ge 27, 3) := by decide +kernel
theorem dX3_seesAll_12 : decode cX3_seesAll 12 = .ok (.iload_n 1, 1) := by decide +kernel
theorem dX3_seesAll_13 : decode cX3_seesAll 13 = .ok (.iload_n 3, 1) := by decide +kernel
theorem dX3_seesAll_14 : decode cX3_seesAll 14 = .ok (.ishr, 1) := by decide +kernel
theorem dX3_seesAll_15 : decode cX3_seesAll 15 = .ok (.iconst 1, 1) := by decide +kernel
theorem dX3_seesAll_16 : decode cX3_seesAll 16 = .ok (.iand, 1) := by decide +kernel
theorem dX3_seesAll_17 : decode cX3_seesAll 17 = .ok (.iconst 1, 1) := by decide +kernel
theorem dX3_seesAll_18 : decode cX3_seesAll 18 = .ok (.if_icmp .ne 12, 3) := by decide +kernel
theorem dX3_seesAll_21 : decode cX3_seesAll 21 = .ok (.iload_n 2, 1) := by decide +kernel
theorem dX3_seesAll_22 : decode cX3_seesAll 22 = .ok (.aload_n 0, 1) := by decide +kernel
theorem dX3_seesAll_23 : decode cX3_seesAll 23 = .ok (.getfield 9, 3) := by decide +kernel
theorem dX3_seesAll_26 : decode cX3_seesAll 26 = .ok (.iload_n 3, 1) := by decide +kernel
theorem dX3_seesAll_27 : decode cX3_seesAll 27 = .ok (.iaload, 1) := by decide +kernel
theorem dX3_seesAll_28 : decode cX3_seesAll 28 = .ok (.ior, 1) := by decide +kernel
theorem dX3_seesAll_29 : decode cX3_seesAll 29 = .ok (.istore_n 2, 1) := by decide +kernel
theorem dX3_seesAll_30 : decode cX3_seesAll 30 = .ok (.iinc 3 1, 3) := by decide +kernel
theorem dX3_seesAll_33 : decode cX3_seesAll 33 = .ok (.goto (-29), 3) := by decide +kernel
theorem dX3_seesAll_36 : decode cX3_seesAll 36 = .ok (.iload_n 2, 1) := by decide +kernel
theorem dX3_seesAll_37 : decode cX3_seesAll 37 = .ok (.aload_n 0, 1) := by decide +kernel
theorem dX3_seesAll_38 : decode cX3_seesAll 38 = .ok (.invokevirtual 25, 3) := by decide +kernel
theorem dX3_seesAll_41 : decode cX3_seesAll 41 = .ok (.if_icmp .ne 7, 3) := by decide +kernel
theorem dX3_seesAll_44 : decode cX3_seesAll 44 = .ok (.iconst 1, 1) := by decide +kernel
theorem dX3_seesAll_45 : decode cX3_seesAll 45 = .ok (.goto 4, 3) := by decide +kernel
theorem dX3_seesAll_48 : decode cX3_seesAll 48 = .ok (.iconst 0, 1) := by decide +kernel
theorem dX3_seesAll_49 : decode cX3_seesAll 49 = .ok (.ireturn, 1) := by decide +kernel
set_option maxRecDepth 20000 in
theorem ggX4_init_X5_init : GoodIn wsX4_init wsX5_init := goodIn_r _ [6, 7, 8, 9, 10, 11, 12, 13, 14, 15, 16, 17, 27, 28, 29, 30, 31, 32, 33, 34, 35, 18, 19, 20, 21, 22, 23, 24, 25, 26] (by decide +kernel) (by decide +kernel)
set_option maxRecDepth 20000 in
theorem gX4_init_X5_init : GoodIn wsX4_init (wsX5_init) := ggX4_init_X5_init
theorem dX4_init_0 : decode cX4_init 0 = .ok (.aload_n 0, 1) := by decide +kernel
theorem dX4_init_1 : decode cX4_init 1 = .ok (.sipush 4096, 3) := by decide +kernel
theorem dX4_init_4 : decode cX4_init 4 = .ok (.bipush 24, 2) := by decide +kernel
theorem dX4_init_6 : decode cX4_init 6 = .ok (.invokespecial 3, 3) := by decide +kernel
theorem dX4_init_9 : decode cX4_init 9 = .ok (.aload_n 0, 1) := by decide +kernel
theorem dX4_init_10 : decode cX4_init 10 = .ok (.iconst 3, 1) := by decide +kernel
theorem dX4_init_11 : decode cX4_init 11 = .ok (.putfield 9, 3) := by decide +kernel
theorem dX4_init_14 : decode cX4_init 14 = .ok (.aload_n 0, 1) := by decide +kernel
theorem dX4_init_15 : decode cX4_init 15 = .ok (.aload_n 1, 1) := by decide +kernel
theorem dX4_init_16 : decode cX4_init 16 = .ok (.putfield 15, 3) := by decide +kernel
theorem dX4_init_19 : decode cX4_init 19 = .ok (.return_, 1) := by decide +kernel
set_option maxRecDepth 20000 in
theorem ggX4_begin_X4_isLawful : GoodIn wsX4_begin wsX4_isLawful := goodIn_r _ [18, 19, 20, 21, 17, 22, 2, 3, 23, 24, 25, 26, 27, 28, 29, 30, 31, 32, 33, 34, 35, 36, 37, 38, 39, 40, 41] (by decide +kernel) (by decide +kernel)
set_option maxRecDepth 20000 in
theorem gX4_begin_X4_isLawful : GoodIn wsX4_begin (wsV RX4 40 RX4 yX4_isLawful wsX4_isLawful) := goodIn_app (goodIn_of _ (by decide +kernel)) ggX4_begin_X4_isLawful
theorem dX4_begin_0 : decode cX4_begin 0 = .ok (.aload_n 0, 1) := by decide +kernel
theorem dX4_begin_1 : decode cX4_begin 1 = .ok (.iload_n 1, 1) := by decide +kernel
theorem dX4_begin_2 : decode cX4_begin 2 = .ok (.putfield 9, 3) := by decide +kernel
theorem dX4_begin_5 : decode cX4_begin 5 = .ok (.aload_n 0, 1) := by decide +kernel
theorem dX4_begin_6 : decode cX4_begin 6 = .ok (.iconst 1, 1) := by decide +kernel
theorem dX4_begin_7 : decode cX4_begin 7 = .ok (.iconst 2, 1) := by decide +kernel
theorem dX4_begin_8 : decode cX4_begin 8 = .ok (.aload_n 0, 1) := by decide +kernel
theorem dX4_begin_9 : decode cX4_begin 9 = .ok (.getfield 15, 3) := by decide +kernel
theorem dX4_begin_12 : decode cX4_begin 12 = .ok (.getfield 19, 3) := by decide +kernel
theorem dX4_begin_15 : decode cX4_begin 15 = .ok (.imul, 1) := by decide +kernel
theorem dX4_begin_16 : decode cX4_begin 16 = .ok (.ishl, 1) := by decide +kernel
