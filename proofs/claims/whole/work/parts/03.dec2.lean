theorem dX4_begin_17 : decode cX4_begin 17 = .ok (.aload_n 0, 1) := by decide +kernel
theorem dX4_begin_18 : decode cX4_begin 18 = .ok (.getfield 24, 3) := by decide +kernel
theorem dX4_begin_21 : decode cX4_begin 21 = .ok (.arraylength, 1) := by decide +kernel
theorem dX4_begin_22 : decode cX4_begin 22 = .ok (.invokestatic 28, 3) := by decide +kernel
theorem dX4_begin_25 : decode cX4_begin 25 = .ok (.putfield 34, 3) := by decide +kernel
theorem dX4_begin_28 : decode cX4_begin 28 = .ok (.aload_n 0, 1) := by decide +kernel
theorem dX4_begin_29 : decode cX4_begin 29 = .ok (.iconst 0, 1) := by decide +kernel
theorem dX4_begin_30 : decode cX4_begin 30 = .ok (.putfield 37, 3) := by decide +kernel
theorem dX4_begin_33 : decode cX4_begin 33 = .ok (.iconst 0, 1) := by decide +kernel
theorem dX4_begin_34 : decode cX4_begin 34 = .ok (.istore_n 2, 1) := by decide +kernel
theorem dX4_begin_35 : decode cX4_begin 35 = .ok (.iload_n 2, 1) := by decide +kernel
theorem dX4_begin_36 : decode cX4_begin 36 = .ok (.aload_n 0, 1) := by decide +kernel
theorem dX4_begin_37 : decode cX4_begin 37 = .ok (.getfield 34, 3) := by decide +kernel
theorem dX4_begin_40 : decode cX4_begin 40 = .ok (.if_icmp .ge 33, 3) := by decide +kernel
theorem dX4_begin_43 : decode cX4_begin 43 = .ok (.aload_n 0, 1) := by decide +kernel
theorem dX4_begin_44 : decode cX4_begin 44 = .ok (.getfield 24, 3) := by decide +kernel
theorem dX4_begin_47 : decode cX4_begin 47 = .ok (.iload_n 2, 1) := by decide +kernel
theorem dX4_begin_48 : decode cX4_begin 48 = .ok (.aload_n 0, 1) := by decide +kernel
theorem dX4_begin_49 : decode cX4_begin 49 = .ok (.iload_n 2, 1) := by decide +kernel
theorem dX4_begin_50 : decode cX4_begin 50 = .ok (.aload_n 0, 1) := by decide +kernel
theorem dX4_begin_51 : decode cX4_begin 51 = .ok (.getfield 9, 3) := by decide +kernel
theorem dX4_begin_54 : decode cX4_begin 54 = .ok (.invokevirtual 40, 3) := by decide +kernel
theorem dX4_begin_57 : decode cX4_begin 57 = .ok (.ifCond .eq 7, 3) := by decide +kernel
theorem dX4_begin_60 : decode cX4_begin 60 = .ok (.iconst (-1), 1) := by decide +kernel
theorem dX4_begin_61 : decode cX4_begin 61 = .ok (.goto 5, 3) := by decide +kernel
theorem dX4_begin_64 : decode cX4_begin 64 = .ok (.bipush (-2), 2) := by decide +kernel
theorem dX4_begin_66 : decode cX4_begin 66 = .ok (.iastore, 1) := by decide +kernel
theorem dX4_begin_67 : decode cX4_begin 67 = .ok (.iinc 2 1, 3) := by decide +kernel
theorem dX4_begin_70 : decode cX4_begin 70 = .ok (.goto (-35), 3) := by decide +kernel
theorem dX4_begin_73 : decode cX4_begin 73 = .ok (.return_, 1) := by decide +kernel
set_option maxRecDepth 20000 in
theorem ggX4_isLawful_X4_isColouring : GoodIn wsX4_isLawful wsX4_isColouring := goodIn_r _ [5, 6, 7, 8, 9, 4, 10, 16, 17, 18, 19, 20, 21, 22, 23, 24, 25, 26] (by decide +kernel) (by decide +kernel)
set_option maxRecDepth 20000 in
theorem gX4_isLawful_X4_isColouring : GoodIn wsX4_isLawful (wsV RX4 44 RX4 yX4_isColouring wsX4_isColouring) := goodIn_app (goodIn_of _ (by decide +kernel)) ggX4_isLawful_X4_isColouring
set_option maxRecDepth 20000 in
theorem ggX4_isLawful_X4_differs : GoodIn wsX4_isLawful wsX4_differs := goodIn_r _ [14, 6, 7, 15, 8, 9, 4, 10, 16, 17, 18, 19, 20, 21, 22, 23, 24, 25, 26] (by decide +kernel) (by decide +kernel)
set_option maxRecDepth 20000 in
theorem gX4_isLawful_X4_differs : GoodIn wsX4_isLawful (wsV RX4 47 RX4 yX4_differs wsX4_differs) := goodIn_app (goodIn_of _ (by decide +kernel)) ggX4_isLawful_X4_differs
theorem dX4_isLawful_0 : decode cX4_isLawful 0 = .ok (.aload_n 0, 1) := by decide +kernel
theorem dX4_isLawful_1 : decode cX4_isLawful 1 = .ok (.iload_n 1, 1) := by decide +kernel
theorem dX4_isLawful_2 : decode cX4_isLawful 2 = .ok (.iload_n 2, 1) := by decide +kernel
theorem dX4_isLawful_3 : decode cX4_isLawful 3 = .ok (.invokevirtual 44, 3) := by decide +kernel
theorem dX4_isLawful_6 : decode cX4_isLawful 6 = .ok (.ifCond .eq 15, 3) := by decide +kernel
theorem dX4_isLawful_9 : decode cX4_isLawful 9 = .ok (.aload_n 0, 1) := by decide +kernel
theorem dX4_isLawful_10 : decode cX4_isLawful 10 = .ok (.iload_n 1, 1) := by decide +kernel
theorem dX4_isLawful_11 : decode cX4_isLawful 11 = .ok (.invokevirtual 47, 3) := by decide +kernel
theorem dX4_isLawful_14 : decode cX4_isLawful 14 = .ok (.ifCond .eq 7, 3) := by decide +kernel
theorem dX4_isLawful_17 : decode cX4_isLawful 17 = .ok (.iconst 1, 1) := by decide +kernel
theorem dX4_isLawful_18 : decode cX4_isLawful 18 = .ok (.goto 4, 3) := by decide +kernel
theorem dX4_isLawful_21 : decode cX4_isLawful 21 = .ok (.iconst 0, 1) := by decide +kernel
theorem dX4_isLawful_22 : decode cX4_isLawful 22 = .ok (.ireturn, 1) := by decide +kernel
set_option maxRecDepth 20000 in
theorem ggX4_isColouring_X4_colourOf : GoodIn wsX4_isColouring wsX4_colourOf := goodIn_r _ [6] (by decide +kernel) (by decide +kernel)
set_option maxRecDepth 20000 in
theorem gX4_isColouring_X4_colourOf : GoodIn wsX4_isColouring (va_wsS RX4 51 yX4_colourOf wsX4_colourOf) := goodIn_app (goodIn_of _ (by decide +kernel)) ggX4_isColouring_X4_colourOf
theorem dX4_isColouring_0 : decode cX4_isColouring 0 = .ok (.iload_n 1, 1) := by decide +kernel
theorem dX4_isColouring_1 : decode cX4_isColouring 1 = .ok (.ifCond .lt 18, 3) := by decide +kernel
theorem dX4_isColouring_4 : decode cX4_isColouring 4 = .ok (.iload_n 1, 1) := by decide +kernel
theorem dX4_isColouring_5 : decode cX4_isColouring 5 = .ok (.iconst 1, 1) := by decide +kernel
theorem dX4_isColouring_6 : decode cX4_isColouring 6 = .ok (.iconst 2, 1) := by decide +kernel
theorem dX4_isColouring_7 : decode cX4_isColouring 7 = .ok (.aload_n 0, 1) := by decide +kernel
theorem dX4_isColouring_8 : decode cX4_isColouring 8 = .ok (.getfield 15, 3) := by decide +kernel
theorem dX4_isColouring_11 : decode cX4_isColouring 11 = .ok (.getfield 19, 3) := by decide +kernel
theorem dX4_isColouring_14 : decode cX4_isColouring 14 = .ok (.imul, 1) := by decide +kernel
theorem dX4_isColouring_15 : decode cX4_isColouring 15 = .ok (.ishl, 1) := by decide +kernel
theorem dX4_isColouring_16 : decode cX4_isColouring 16 = .ok (.if_icmp .lt 5, 3) := by decide +kernel
theorem dX4_isColouring_19 : decode cX4_isColouring 19 = .ok (.iconst 0, 1) := by decide +kernel
theorem dX4_isColouring_20 : decode cX4_isColouring 20 = .ok (.ireturn, 1) := by decide +kernel
theorem dX4_isColouring_21 : decode cX4_isColouring 21 = .ok (.iconst 0, 1) := by decide +kernel
theorem dX4_isColouring_22 : decode cX4_isColouring 22 = .ok (.istore_n 3, 1) := by decide +kernel
theorem dX4_isColouring_23 : decode cX4_isColouring 23 = .ok (.iload_n 3, 1) := by decide +kernel
theorem dX4_isColouring_24 : decode cX4_isColouring 24 = .ok (.aload_n 0, 1) := by decide +kernel
theorem dX4_isColouring_25 : decode cX4_isColouring 25 = .ok (.getfield 15, 3) := by decide +kernel
theorem dX4_isColouring_28 : decode cX4_isColouring 28 = .ok (.getfield 19, 3) := by decide +kernel
theorem dX4_isColouring_31 : decode cX4_isColouring 31 = .ok (.if_icmp .ge 20, 3) := by decide +kernel
theorem dX4_isColouring_34 : decode cX4_isColouring 34 = .ok (.iload_n 1, 1) := by decide +kernel
theorem dX4_isColouring_35 : decode cX4_isColouring 35 = .ok (.iload_n 3, 1) := by decide +kernel
theorem dX4_isColouring_36 : decode cX4_isColouring 36 = .ok (.invokestatic 51, 3) := by decide +kernel
theorem dX4_isColouring_39 : decode cX4_isColouring 39 = .ok (.iload_n 2, 1) := by decide +kernel
theorem dX4_isColouring_40 : decode cX4_isColouring 40 = .ok (.if_icmp .lt 5, 3) := by decide +kernel
theorem dX4_isColouring_43 : decode cX4_isColouring 43 = .ok (.iconst 0, 1) := by decide +kernel
theorem dX4_isColouring_44 : decode cX4_isColouring 44 = .ok (.ireturn, 1) := by decide +kernel
theorem dX4_isColouring_45 : decode cX4_isColouring 45 = .ok (.iinc 3 1, 3) := by decide +kernel
theorem dX4_isColouring_48 : decode cX4_isColouring 48 = .ok (.goto (-25), 3) := by decide +kernel
theorem dX4_isColouring_51 : decode cX4_isColouring 51 = .ok (.iconst 1, 1) := by decide +kernel
theorem dX4_isColouring_52 : decode cX4_isColouring 52 = .ok (.ireturn, 1) := by decide +kernel
set_option maxRecDepth 20000 in
theorem ggX4_differs_X4_colourOf : GoodIn wsX4_differs wsX4_colourOf := goodIn_r _ [7] (by decide +kernel) (by decide +kernel)
set_option maxRecDepth 20000 in
theorem gX4_differs_X4_colourOf : GoodIn wsX4_differs (va_wsS RX4 51 yX4_colourOf wsX4_colourOf) := goodIn_app (goodIn_of _ (by decide +kernel)) ggX4_differs_X4_colourOf
theorem dX4_differs_0 : decode cX4_differs 0 = .ok (.iconst 0, 1) := by decide +kernel
theorem dX4_differs_1 : decode cX4_differs 1 = .ok (.istore_n 2, 1) := by decide +kernel
theorem dX4_differs_2 : decode cX4_differs 2 = .ok (.iload_n 2, 1) := by decide +kernel
theorem dX4_differs_3 : decode cX4_differs 3 = .ok (.aload_n 0, 1) := by decide +kernel
theorem dX4_differs_4 : decode cX4_differs 4 = .ok (.getfield 15, 3) := by decide +kernel
theorem dX4_differs_7 : decode cX4_differs 7 = .ok (.getfield 19, 3) := by decide +kernel
theorem dX4_differs_10 : decode cX4_differs 10 = .ok (.if_icmp .ge 75, 3) := by decide +kernel
theorem dX4_differs_13 : decode cX4_differs 13 = .ok (.aload_n 0, 1) := by decide +kernel
theorem dX4_differs_14 : decode cX4_differs 14 = .ok (.getfield 15, 3) := by decide +kernel
theorem dX4_differs_17 : decode cX4_differs 17 = .ok (.getfield 54, 3) := by decide +kernel
theorem dX4_differs_20 : decode cX4_differs 20 = .ok (.iload_n 2, 1) := by decide +kernel
theorem dX4_differs_21 : decode cX4_differs 21 = .ok (.iaload, 1) := by decide +kernel
theorem dX4_differs_22 : decode cX4_differs 22 = .ok (.istore_n 3, 1) := by decide +kernel
theorem dX4_differs_23 : decode cX4_differs 23 = .ok (.iload_n 2, 1) := by decide +kernel
theorem dX4_differs_24 : decode cX4_differs 24 = .ok (.iconst 1, 1) := by decide +kernel
theorem dX4_differs_25 : decode cX4_differs 25 = .ok (.iadd, 1) := by decide +kernel
theorem dX4_differs_26 : decode cX4_differs 26 = .ok (.istore 4, 2) := by decide +kernel
theorem dX4_differs_28 : decode cX4_differs 28 = .ok (.iload 4, 2) := by decide +kernel
theorem dX4_differs_30 : decode cX4_differs 30 = .ok (.aload_n 0, 1) := by decide +kernel
theorem dX4_differs_31 : decode cX4_differs 31 = .ok (.getfield 15, 3) := by decide +kernel
theorem dX4_differs_34 : decode cX4_differs 34 = .ok (.getfield 19, 3) := by decide +kernel
theorem dX4_differs_37 : decode cX4_differs 37 = .ok (.if_icmp .ge 42, 3) := by decide +kernel
theorem dX4_differs_40 : decode cX4_differs 40 = .ok (.iload_n 3, 1) := by decide +kernel
theorem dX4_differs_41 : decode cX4_differs 41 = .ok (.iload 4, 2) := by decide +kernel
theorem dX4_differs_43 : decode cX4_differs 43 = .ok (.ishr, 1) := by decide +kernel
theorem dX4_differs_44 : decode cX4_differs 44 = .ok (.ifCond .eq 35, 3) := by decide +kernel
theorem dX4_differs_47 : decode cX4_differs 47 = .ok (.iload_n 3, 1) := by decide +kernel
theorem dX4_differs_48 : decode cX4_differs 48 = .ok (.iload 4, 2) := by decide +kernel
theorem dX4_differs_50 : decode cX4_differs 50 = .ok (.ishr, 1) := by decide +kernel
theorem dX4_differs_51 : decode cX4_differs 51 = .ok (.iconst 1, 1) := by decide +kernel
theorem dX4_differs_52 : decode cX4_differs 52 = .ok (.iand, 1) := by decide +kernel
theorem dX4_differs_53 : decode cX4_differs 53 = .ok (.iconst 1, 1) := by decide +kernel
theorem dX4_differs_54 : decode cX4_differs 54 = .ok (.if_icmp .ne 19, 3) := by decide +kernel
theorem dX4_differs_57 : decode cX4_differs 57 = .ok (.iload_n 1, 1) := by decide +kernel
theorem dX4_differs_58 : decode cX4_differs 58 = .ok (.iload_n 2, 1) := by decide +kernel
theorem dX4_differs_59 : decode cX4_differs 59 = .ok (.invokestatic 51, 3) := by decide +kernel
theorem dX4_differs_62 : decode cX4_differs 62 = .ok (.iload_n 1, 1) := by decide +kernel
theorem dX4_differs_63 : decode cX4_differs 63 = .ok (.iload 4, 2) := by decide +kernel
theorem dX4_differs_65 : decode cX4_differs 65 = .ok (.invokestatic 51, 3) := by decide +kernel
theorem dX4_differs_68 : decode cX4_differs 68 = .ok (.if_icmp .ne 5, 3) := by decide +kernel
theorem dX4_differs_71 : decode cX4_differs 71 = .ok (.iconst 0, 1) := by decide +kernel
theorem dX4_differs_72 : decode cX4_differs 72 = .ok (.ireturn, 1) := by decide +kernel
theorem dX4_differs_73 : decode cX4_differs 73 = .ok (.iinc 4 1, 3) := by decide +kernel
theorem dX4_differs_76 : decode cX4_differs 76 = .ok (.goto (-48), 3) := by decide +kernel
theorem dX4_differs_79 : decode cX4_differs 79 = .ok (.iinc 2 1, 3) := by decide +kernel
theorem dX4_differs_82 : decode cX4_differs 82 = .ok (.goto (-80), 3) := by decide +kernel
theorem dX4_differs_85 : decode cX4_differs 85 = .ok (.iconst 1, 1) := by decide +kernel
theorem dX4_differs_86 : decode cX4_differs 86 = .ok (.ireturn, 1) := by decide +kernel
theorem dX4_colourOf_0 : decode cX4_colourOf 0 = .ok (.iload_n 0, 1) := by decide +kernel
theorem dX4_colourOf_1 : decode cX4_colourOf 1 = .ok (.iconst 2, 1) := by decide +kernel
theorem dX4_colourOf_2 : decode cX4_colourOf 2 = .ok (.iload_n 1, 1) := by decide +kernel
theorem dX4_colourOf_3 : decode cX4_colourOf 3 = .ok (.imul, 1) := by decide +kernel
theorem dX4_colourOf_4 : decode cX4_colourOf 4 = .ok (.ishr, 1) := by decide +kernel
theorem dX4_colourOf_5 : decode cX4_colourOf 5 = .ok (.iconst 3, 1) := by decide +kernel
theorem dX4_colourOf_6 : decode cX4_colourOf 6 = .ok (.iand, 1) := by decide +kernel
theorem dX4_colourOf_7 : decode cX4_colourOf 7 = .ok (.ireturn, 1) := by decide +kernel
set_option maxRecDepth 20000 in
theorem ggX4_gather_X5_offer : GoodIn wsX4_gather wsX5_offer := goodIn_r _ [11, 12, 13, 14, 15, 16, 17, 18, 19, 10, 20, 21, 22, 23, 24, 25, 26, 27, 28, 29, 30, 31, 32, 33, 34, 35, 36, 37, 38, 39, 40] (by decide +kernel) (by decide +kernel)
set_option maxRecDepth 20000 in
theorem gX4_gather_X5_offer_u60X4 : GoodIn wsX4_gather (va_wsU RX4 60 RX4 "SlidTokens$Search" ⟨"SlidTokens$Paints", "offer", "(II)V"⟩ yX5_offer wsX5_offer) := goodIn_app (goodIn_of _ (by decide +kernel)) ggX4_gather_X5_offer
theorem dX4_gather_0 : decode cX4_gather 0 = .ok (.aload_n 0, 1) := by decide +kernel
theorem dX4_gather_1 : decode cX4_gather 1 = .ok (.iconst 0, 1) := by decide +kernel
theorem dX4_gather_2 : decode cX4_gather 2 = .ok (.putfield 57, 3) := by decide +kernel
theorem dX4_gather_5 : decode cX4_gather 5 = .ok (.iconst 0, 1) := by decide +kernel
theorem dX4_gather_6 : decode cX4_gather 6 = .ok (.istore_n 2, 1) := by decide +kernel
theorem dX4_gather_7 : decode cX4_gather 7 = .ok (.iload_n 2, 1) := by decide +kernel
theorem dX4_gather_8 : decode cX4_gather 8 = .ok (.aload_n 0, 1) := by decide +kernel
theorem dX4_gather_9 : decode cX4_gather 9 = .ok (.getfield 15, 3) := by decide +kernel
theorem dX4_gather_12 : decode cX4_gather 12 = .ok (.getfield 19, 3) := by decide +kernel
theorem dX4_gather_15 : decode cX4_gather 15 = .ok (.if_icmp .ge 60, 3) := by decide +kernel
theorem dX4_gather_18 : decode cX4_gather 18 = .ok (.iload_n 1, 1) := by decide +kernel
theorem dX4_gather_19 : decode cX4_gather 19 = .ok (.iconst 3, 1) := by decide +kernel
theorem dX4_gather_20 : decode cX4_gather 20 = .ok (.iconst 2, 1) := by decide +kernel
theorem dX4_gather_21 : decode cX4_gather 21 = .ok (.iload_n 2, 1) := by decide +kernel
theorem dX4_gather_22 : decode cX4_gather 22 = .ok (.imul, 1) := by decide +kernel
theorem dX4_gather_23 : decode cX4_gather 23 = .ok (.ishl, 1) := by decide +kernel
theorem dX4_gather_24 : decode cX4_gather 24 = .ok (.iconst (-1), 1) := by decide +kernel
theorem dX4_gather_25 : decode cX4_gather 25 = .ok (.ixor, 1) := by decide +kernel
theorem dX4_gather_26 : decode cX4_gather 26 = .ok (.iand, 1) := by decide +kernel
theorem dX4_gather_27 : decode cX4_gather 27 = .ok (.istore_n 3, 1) := by decide +kernel
theorem dX4_gather_28 : decode cX4_gather 28 = .ok (.iconst 0, 1) := by decide +kernel
theorem dX4_gather_29 : decode cX4_gather 29 = .ok (.istore 4, 2) := by decide +kernel
theorem dX4_gather_31 : decode cX4_gather 31 = .ok (.iload 4, 2) := by decide +kernel
theorem dX4_gather_33 : decode cX4_gather 33 = .ok (.aload_n 0, 1) := by decide +kernel
theorem dX4_gather_34 : decode cX4_gather 34 = .ok (.getfield 9, 3) := by decide +kernel
theorem dX4_gather_37 : decode cX4_gather 37 = .ok (.if_icmp .ge 32, 3) := by decide +kernel
theorem dX4_gather_40 : decode cX4_gather 40 = .ok (.iload_n 3, 1) := by decide +kernel
theorem dX4_gather_41 : decode cX4_gather 41 = .ok (.iload 4, 2) := by decide +kernel
theorem dX4_gather_43 : decode cX4_gather 43 = .ok (.iconst 2, 1) := by decide +kernel
theorem dX4_gather_44 : decode cX4_gather 44 = .ok (.iload_n 2, 1) := by decide +kernel
theorem dX4_gather_45 : decode cX4_gather 45 = .ok (.imul, 1) := by decide +kernel
theorem dX4_gather_46 : decode cX4_gather 46 = .ok (.ishl, 1) := by decide +kernel
theorem dX4_gather_47 : decode cX4_gather 47 = .ok (.ior, 1) := by decide +kernel
theorem dX4_gather_48 : decode cX4_gather 48 = .ok (.istore 5, 2) := by decide +kernel
theorem dX4_gather_50 : decode cX4_gather 50 = .ok (.iload 5, 2) := by decide +kernel
theorem dX4_gather_52 : decode cX4_gather 52 = .ok (.iload_n 1, 1) := by decide +kernel
theorem dX4_gather_53 : decode cX4_gather 53 = .ok (.if_icmp .eq 10, 3) := by decide +kernel
theorem dX4_gather_56 : decode cX4_gather 56 = .ok (.aload_n 0, 1) := by decide +kernel
theorem dX4_gather_57 : decode cX4_gather 57 = .ok (.iload 5, 2) := by decide +kernel
theorem dX4_gather_59 : decode cX4_gather 59 = .ok (.iconst 1, 1) := by decide +kernel
theorem dX4_gather_60 : decode cX4_gather 60 = .ok (.invokevirtual 60, 3) := by decide +kernel
theorem dX4_gather_63 : decode cX4_gather 63 = .ok (.iinc 4 1, 3) := by decide +kernel
theorem dX4_gather_66 : decode cX4_gather 66 = .ok (.goto (-35), 3) := by decide +kernel
theorem dX4_gather_69 : decode cX4_gather 69 = .ok (.iinc 2 1, 3) := by decide +kernel
theorem dX4_gather_72 : decode cX4_gather 72 = .ok (.goto (-65), 3) := by decide +kernel
theorem dX4_gather_75 : decode cX4_gather 75 = .ok (.return_, 1) := by decide +kernel
theorem dX4_many_0 : decode cX4_many 0 = .ok (.iconst 0, 1) := by decide +kernel
theorem dX4_many_1 : decode cX4_many 1 = .ok (.istore_n 1, 1) := by decide +kernel
theorem dX4_many_2 : decode cX4_many 2 = .ok (.iconst 0, 1) := by decide +kernel
theorem dX4_many_3 : decode cX4_many 3 = .ok (.istore_n 2, 1) := by decide +kernel
theorem dX4_many_4 : decode cX4_many 4 = .ok (.iload_n 2, 1) := by decide +kernel
theorem dX4_many_5 : decode cX4_many 5 = .ok (.aload_n 0, 1) := by decide +kernel
theorem dX4_many_6 : decode cX4_many 6 = .ok (.getfield 34, 3) := by decide +kernel
theorem dX4_many_9 : decode cX4_many 9 = .ok (.if_icmp .ge 23, 3) := by decide +kernel
theorem dX4_many_12 : decode cX4_many 12 = .ok (.aload_n 0, 1) := by decide +kernel
theorem dX4_many_13 : decode cX4_many 13 = .ok (.getfield 24, 3) := by decide +kernel
theorem dX4_many_16 : decode cX4_many 16 = .ok (.iload_n 2, 1) := by decide +kernel
theorem dX4_many_17 : decode cX4_many 17 = .ok (.iaload, 1) := by decide +kernel
theorem dX4_many_18 : decode cX4_many 18 = .ok (.bipush (-2), 2) := by decide +kernel
theorem dX4_many_20 : decode cX4_many 20 = .ok (.if_icmp .eq 6, 3) := by decide +kernel
theorem dX4_many_23 : decode cX4_many 23 = .ok (.iinc 1 1, 3) := by decide +kernel
theorem dX4_many_26 : decode cX4_many 26 = .ok (.iinc 2 1, 3) := by decide +kernel
theorem dX4_many_29 : decode cX4_many 29 = .ok (.goto (-25), 3) := by decide +kernel
theorem dX4_many_32 : decode cX4_many 32 = .ok (.iload_n 1, 1) := by decide +kernel
theorem dX4_many_33 : decode cX4_many 33 = .ok (.ireturn, 1) := by decide +kernel
set_option maxRecDepth 20000 in
theorem ggX4_stuck_X4_gather : GoodIn wsX4_stuck wsX4_gather := goodIn_r _ [11, 5, 6, 12, 13, 14, 15, 16, 17, 18, 19, 20, 21, 22, 23, 24, 25, 26, 27, 28, 29, 30, 31, 32, 33, 34, 35, 36, 37, 38, 39, 40, 41, 42, 43, 44, 45, 46, 47, 48, 49, 50, 51] (by decide +kernel) (by decide +kernel)
set_option maxRecDepth 20000 in
theorem gX4_stuck_X4_gather : GoodIn wsX4_stuck (wsV RX4 63 RX4 yX4_gather wsX4_gather) := goodIn_app (goodIn_of _ (by decide +kernel)) ggX4_stuck_X4_gather
theorem dX4_stuck_0 : decode cX4_stuck 0 = .ok (.iconst 0, 1) := by decide +kernel
theorem dX4_stuck_1 : decode cX4_stuck 1 = .ok (.istore_n 1, 1) := by decide +kernel
theorem dX4_stuck_2 : decode cX4_stuck 2 = .ok (.iconst 0, 1) := by decide +kernel
theorem dX4_stuck_3 : decode cX4_stuck 3 = .ok (.istore_n 2, 1) := by decide +kernel
theorem dX4_stuck_4 : decode cX4_stuck 4 = .ok (.iload_n 2, 1) := by decide +kernel
theorem dX4_stuck_5 : decode cX4_stuck 5 = .ok (.aload_n 0, 1) := by decide +kernel
theorem dX4_stuck_6 : decode cX4_stuck 6 = .ok (.getfield 34, 3) := by decide +kernel
theorem dX4_stuck_9 : decode cX4_stuck 9 = .ok (.if_icmp .ge 40, 3) := by decide +kernel
theorem dX4_stuck_12 : decode cX4_stuck 12 = .ok (.aload_n 0, 1) := by decide +kernel
theorem dX4_stuck_13 : decode cX4_stuck 13 = .ok (.getfield 24, 3) := by decide +kernel
theorem dX4_stuck_16 : decode cX4_stuck 16 = .ok (.iload_n 2, 1) := by decide +kernel
theorem dX4_stuck_17 : decode cX4_stuck 17 = .ok (.iaload, 1) := by decide +kernel
theorem dX4_stuck_18 : decode cX4_stuck 18 = .ok (.bipush (-2), 2) := by decide +kernel
theorem dX4_stuck_20 : decode cX4_stuck 20 = .ok (.if_icmp .eq 23, 3) := by decide +kernel
theorem dX4_stuck_23 : decode cX4_stuck 23 = .ok (.aload_n 0, 1) := by decide +kernel
theorem dX4_stuck_24 : decode cX4_stuck 24 = .ok (.iload_n 2, 1) := by decide +kernel
theorem dX4_stuck_25 : decode cX4_stuck 25 = .ok (.invokevirtual 63, 3) := by decide +kernel
theorem dX4_stuck_28 : decode cX4_stuck 28 = .ok (.iload_n 1, 1) := by decide +kernel
theorem dX4_stuck_29 : decode cX4_stuck 29 = .ok (.aload_n 0, 1) := by decide +kernel
theorem dX4_stuck_30 : decode cX4_stuck 30 = .ok (.getfield 57, 3) := by decide +kernel
theorem dX4_stuck_33 : decode cX4_stuck 33 = .ok (.ifCond .ne 7, 3) := by decide +kernel
theorem dX4_stuck_36 : decode cX4_stuck 36 = .ok (.iconst 1, 1) := by decide +kernel
theorem dX4_stuck_37 : decode cX4_stuck 37 = .ok (.goto 4, 3) := by decide +kernel
theorem dX4_stuck_40 : decode cX4_stuck 40 = .ok (.iconst 0, 1) := by decide +kernel
theorem dX4_stuck_41 : decode cX4_stuck 41 = .ok (.iadd, 1) := by decide +kernel
theorem dX4_stuck_42 : decode cX4_stuck 42 = .ok (.istore_n 1, 1) := by decide +kernel
theorem dX4_stuck_43 : decode cX4_stuck 43 = .ok (.iinc 2 1, 3) := by decide +kernel
theorem dX4_stuck_46 : decode cX4_stuck 46 = .ok (.goto (-42), 3) := by decide +kernel
theorem dX4_stuck_49 : decode cX4_stuck 49 = .ok (.iload_n 1, 1) := by decide +kernel
theorem dX4_stuck_50 : decode cX4_stuck 50 = .ok (.ireturn, 1) := by decide +kernel
theorem dX5_init_0 : decode cX5_init 0 = .ok (.aload_n 0, 1) := by decide +kernel
theorem dX5_init_1 : decode cX5_init 1 = .ok (.invokespecial 3, 3) := by decide +kernel
theorem dX5_init_4 : decode cX5_init 4 = .ok (.aload_n 0, 1) := by decide +kernel
theorem dX5_init_5 : decode cX5_init 5 = .ok (.iconst 0, 1) := by decide +kernel
theorem dX5_init_6 : decode cX5_init 6 = .ok (.putfield 9, 3) := by decide +kernel
theorem dX5_init_9 : decode cX5_init 9 = .ok (.aload_n 0, 1) := by decide +kernel
theorem dX5_init_10 : decode cX5_init 10 = .ok (.iconst 0, 1) := by decide +kernel
theorem dX5_init_11 : decode cX5_init 11 = .ok (.putfield 15, 3) := by decide +kernel
theorem dX5_init_14 : decode cX5_init 14 = .ok (.aload_n 0, 1) := by decide +kernel
theorem dX5_init_15 : decode cX5_init 15 = .ok (.iconst 0, 1) := by decide +kernel
theorem dX5_init_16 : decode cX5_init 16 = .ok (.putfield 18, 3) := by decide +kernel
theorem dX5_init_19 : decode cX5_init 19 = .ok (.aload_n 0, 1) := by decide +kernel
theorem dX5_init_20 : decode cX5_init 20 = .ok (.iload_n 1, 1) := by decide +kernel
theorem dX5_init_21 : decode cX5_init 21 = .ok (.newarray .int, 2) := by decide +kernel
theorem dX5_init_23 : decode cX5_init 23 = .ok (.putfield 21, 3) := by decide +kernel
theorem dX5_init_26 : decode cX5_init 26 = .ok (.aload_n 0, 1) := by decide +kernel
theorem dX5_init_27 : decode cX5_init 27 = .ok (.iload_n 1, 1) := by decide +kernel
theorem dX5_init_28 : decode cX5_init 28 = .ok (.newarray .int, 2) := by decide +kernel
theorem dX5_init_30 : decode cX5_init 30 = .ok (.putfield 25, 3) := by decide +kernel
theorem dX5_init_33 : decode cX5_init 33 = .ok (.aload_n 0, 1) := by decide +kernel
theorem dX5_init_34 : decode cX5_init 34 = .ok (.iload_n 2, 1) := by decide +kernel
theorem dX5_init_35 : decode cX5_init 35 = .ok (.newarray .int, 2) := by decide +kernel
theorem dX5_init_37 : decode cX5_init 37 = .ok (.putfield 28, 3) := by decide +kernel
theorem dX5_init_40 : decode cX5_init 40 = .ok (.aload_n 0, 1) := by decide +kernel
theorem dX5_init_41 : decode cX5_init 41 = .ok (.iload_n 2, 1) := by decide +kernel
theorem dX5_init_42 : decode cX5_init 42 = .ok (.newarray .int, 2) := by decide +kernel
theorem dX5_init_44 : decode cX5_init 44 = .ok (.putfield 31, 3) := by decide +kernel
theorem dX5_init_47 : decode cX5_init 47 = .ok (.return_, 1) := by decide +kernel
theorem dX5_isState_0 : decode cX5_isState 0 = .ok (.iload_n 1, 1) := by decide +kernel
theorem dX5_isState_1 : decode cX5_isState 1 = .ok (.ifCond .lt 24, 3) := by decide +kernel
theorem dX5_isState_4 : decode cX5_isState 4 = .ok (.iload_n 1, 1) := by decide +kernel
theorem dX5_isState_5 : decode cX5_isState 5 = .ok (.aload_n 0, 1) := by decide +kernel
theorem dX5_isState_6 : decode cX5_isState 6 = .ok (.getfield 9, 3) := by decide +kernel
theorem dX5_isState_9 : decode cX5_isState 9 = .ok (.if_icmp .ge 16, 3) := by decide +kernel
theorem dX5_isState_12 : decode cX5_isState 12 = .ok (.iload_n 1, 1) := by decide +kernel
theorem dX5_isState_13 : decode cX5_isState 13 = .ok (.aload_n 0, 1) := by decide +kernel
theorem dX5_isState_14 : decode cX5_isState 14 = .ok (.getfield 21, 3) := by decide +kernel
theorem dX5_isState_17 : decode cX5_isState 17 = .ok (.arraylength, 1) := by decide +kernel
theorem dX5_isState_18 : decode cX5_isState 18 = .ok (.if_icmp .ge 7, 3) := by decide +kernel
theorem dX5_isState_21 : decode cX5_isState 21 = .ok (.iconst 1, 1) := by decide +kernel
theorem dX5_isState_22 : decode cX5_isState 22 = .ok (.goto 4, 3) := by decide +kernel
theorem dX5_isState_25 : decode cX5_isState 25 = .ok (.iconst 0, 1) := by decide +kernel
theorem dX5_isState_26 : decode cX5_isState 26 = .ok (.ireturn, 1) := by decide +kernel
set_option maxRecDepth 20000 in
theorem ggX5_spread_X5_isState : GoodIn wsX5_spread wsX5_isState := goodIn_r _ [11, 12, 2, 60, 61, 62, 63, 64, 65, 66, 67, 68, 69, 70, 71, 72, 73, 74, 75, 76, 77] (by decide +kernel) (by decide +kernel)
set_option maxRecDepth 20000 in
theorem gX5_spread_X5_isState_u34X2 : GoodIn wsX5_spread (va_wsU RX5 34 RX2 "SlidTokens$Search" ⟨"SlidTokens$Search", "isState", "(I)Z"⟩ yX5_isState wsX5_isState) := goodIn_app (goodIn_of _ (by decide +kernel)) ggX5_spread_X5_isState
set_option maxRecDepth 20000 in
theorem gX5_spread_X5_isState_u34X4 : GoodIn wsX5_spread (va_wsU RX5 34 RX4 "SlidTokens$Search" ⟨"SlidTokens$Search", "isState", "(I)Z"⟩ yX5_isState wsX5_isState) := goodIn_app (goodIn_of _ (by decide +kernel)) ggX5_spread_X5_isState
set_option maxRecDepth 20000 in
theorem ggX5_spread_X5_enter : GoodIn wsX5_spread wsX5_enter := goodIn_r _ [18, 1, 3, 2, 60, 61, 62, 63, 64, 65, 66, 67, 68, 69, 70, 71, 72, 73, 74, 75, 76, 77] (by decide +kernel) (by decide +kernel)
set_option maxRecDepth 20000 in
theorem gX5_spread_X5_enter_u38X2 : GoodIn wsX5_spread (va_wsU RX5 38 RX2 "SlidTokens$Search" ⟨"SlidTokens$Search", "enter", "(II)V"⟩ yX5_enter wsX5_enter) := goodIn_app (goodIn_of _ (by decide +kernel)) ggX5_spread_X5_enter
set_option maxRecDepth 20000 in
theorem gX5_spread_X5_enter_u38X4 : GoodIn wsX5_spread (va_wsU RX5 38 RX4 "SlidTokens$Search" ⟨"SlidTokens$Search", "enter", "(II)V"⟩ yX5_enter wsX5_enter) := goodIn_app (goodIn_of _ (by decide +kernel)) ggX5_spread_X5_enter
set_option maxRecDepth 20000 in
theorem ggX5_spread_X2_gather : GoodIn wsX5_spread wsX2_gather := goodIn_r _ [25, 26, 27, 28, 29, 30, 31, 32, 33, 24, 34, 35, 36, 37, 38, 39, 40, 41, 42, 43, 44, 45, 10, 46, 2, 4, 5, 47, 6, 7, 8, 9, 11, 12, 13, 60, 61, 62, 63, 64, 65, 66, 67, 68, 69, 70, 71, 72, 73, 74, 75, 76, 77, 78, 79] (by decide +kernel) (by decide +kernel)
set_option maxRecDepth 20000 in
theorem gX5_spread_X2_gather_u42X2 : GoodIn wsX5_spread (va_wsU RX5 42 RX2 "SlidTokens$Search" ⟨"SlidTokens$Search", "gather", "(I)V"⟩ yX2_gather wsX2_gather) := goodIn_app (goodIn_of _ (by decide +kernel)) ggX5_spread_X2_gather
set_option maxRecDepth 20000 in
theorem ggX5_spread_X4_gather : GoodIn wsX5_spread wsX4_gather := goodIn_r _ [51, 52, 53, 54, 55, 56, 57, 58, 59, 45, 10, 46, 2, 4, 5, 47, 6, 7, 8, 9, 11, 12, 13, 60, 61, 62, 63, 64, 65, 66, 67, 68, 69, 70, 71, 72, 73, 74, 75, 76, 77, 78, 79] (by decide +kernel) (by decide +kernel)
set_option maxRecDepth 20000 in
theorem gX5_spread_X4_gather_u42X4 : GoodIn wsX5_spread (va_wsU RX5 42 RX4 "SlidTokens$Search" ⟨"SlidTokens$Search", "gather", "(I)V"⟩ yX4_gather wsX4_gather) := goodIn_app (goodIn_of _ (by decide +kernel)) ggX5_spread_X4_gather
theorem dX5_spread_0 : decode cX5_spread 0 = .ok (.aload_n 0, 1) := by decide +kernel
theorem dX5_spread_1 : decode cX5_spread 1 = .ok (.iload_n 1, 1) := by decide +kernel
theorem dX5_spread_2 : decode cX5_spread 2 = .ok (.invokevirtual 34, 3) := by decide +kernel
theorem dX5_spread_5 : decode cX5_spread 5 = .ok (.ifCond .ne 4, 3) := by decide +kernel
theorem dX5_spread_8 : decode cX5_spread 8 = .ok (.return_, 1) := by decide +kernel
theorem dX5_spread_9 : decode cX5_spread 9 = .ok (.aload_n 0, 1) := by decide +kernel
theorem dX5_spread_10 : decode cX5_spread 10 = .ok (.getfield 15, 3) := by decide +kernel
theorem dX5_spread_13 : decode cX5_spread 13 = .ok (.istore_n 3, 1) := by decide +kernel
theorem dX5_spread_14 : decode cX5_spread 14 = .ok (.aload_n 0, 1) := by decide +kernel
theorem dX5_spread_15 : decode cX5_spread 15 = .ok (.getfield 21, 3) := by decide +kernel
theorem dX5_spread_18 : decode cX5_spread 18 = .ok (.iload_n 1, 1) := by decide +kernel
theorem dX5_spread_19 : decode cX5_spread 19 = .ok (.iaload, 1) := by decide +kernel
theorem dX5_spread_20 : decode cX5_spread 20 = .ok (.bipush (-2), 2) := by decide +kernel
theorem dX5_spread_22 : decode cX5_spread 22 = .ok (.if_icmp .eq 7, 3) := by decide +kernel
theorem dX5_spread_25 : decode cX5_spread 25 = .ok (.iconst 1, 1) := by decide +kernel
theorem dX5_spread_26 : decode cX5_spread 26 = .ok (.goto 4, 3) := by decide +kernel
theorem dX5_spread_29 : decode cX5_spread 29 = .ok (.iconst 0, 1) := by decide +kernel
theorem dX5_spread_30 : decode cX5_spread 30 = .ok (.istore 4, 2) := by decide +kernel
theorem dX5_spread_32 : decode cX5_spread 32 = .ok (.aload_n 0, 1) := by decide +kernel
theorem dX5_spread_33 : decode cX5_spread 33 = .ok (.iload_n 1, 1) := by decide +kernel
theorem dX5_spread_34 : decode cX5_spread 34 = .ok (.iconst 0, 1) := by decide +kernel
theorem dX5_spread_35 : decode cX5_spread 35 = .ok (.invokevirtual 38, 3) := by decide +kernel
theorem dX5_spread_38 : decode cX5_spread 38 = .ok (.iload 4, 2) := by decide +kernel
theorem dX5_spread_40 : decode cX5_spread 40 = .ok (.ifCond .eq 112, 3) := by decide +kernel
theorem dX5_spread_43 : decode cX5_spread 43 = .ok (.iload_n 3, 1) := by decide +kernel
theorem dX5_spread_44 : decode cX5_spread 44 = .ok (.aload_n 0, 1) := by decide +kernel
theorem dX5_spread_45 : decode cX5_spread 45 = .ok (.getfield 15, 3) := by decide +kernel
theorem dX5_spread_48 : decode cX5_spread 48 = .ok (.if_icmp .ge 104, 3) := by decide +kernel
theorem dX5_spread_51 : decode cX5_spread 51 = .ok (.iload_n 3, 1) := by decide +kernel
theorem dX5_spread_52 : decode cX5_spread 52 = .ok (.aload_n 0, 1) := by decide +kernel
theorem dX5_spread_53 : decode cX5_spread 53 = .ok (.getfield 25, 3) := by decide +kernel
theorem dX5_spread_56 : decode cX5_spread 56 = .ok (.arraylength, 1) := by decide +kernel
theorem dX5_spread_57 : decode cX5_spread 57 = .ok (.if_icmp .ge 95, 3) := by decide +kernel
theorem dX5_spread_60 : decode cX5_spread 60 = .ok (.aload_n 0, 1) := by decide +kernel
theorem dX5_spread_61 : decode cX5_spread 61 = .ok (.iload_n 2, 1) := by decide +kernel
theorem dX5_spread_62 : decode cX5_spread 62 = .ok (.invokevirtual 34, 3) := by decide +kernel
theorem dX5_spread_65 : decode cX5_spread 65 = .ok (.ifCond .eq 13, 3) := by decide +kernel
theorem dX5_spread_68 : decode cX5_spread 68 = .ok (.aload_n 0, 1) := by decide +kernel
theorem dX5_spread_69 : decode cX5_spread 69 = .ok (.getfield 21, 3) := by decide +kernel
theorem dX5_spread_72 : decode cX5_spread 72 = .ok (.iload_n 2, 1) := by decide +kernel
theorem dX5_spread_73 : decode cX5_spread 73 = .ok (.iaload, 1) := by decide +kernel
theorem dX5_spread_74 : decode cX5_spread 74 = .ok (.ifCond .lt 4, 3) := by decide +kernel
theorem dX5_spread_77 : decode cX5_spread 77 = .ok (.return_, 1) := by decide +kernel
theorem dX5_spread_78 : decode cX5_spread 78 = .ok (.aload_n 0, 1) := by decide +kernel
theorem dX5_spread_79 : decode cX5_spread 79 = .ok (.getfield 25, 3) := by decide +kernel
theorem dX5_spread_82 : decode cX5_spread 82 = .ok (.iload_n 3, 1) := by decide +kernel
theorem dX5_spread_83 : decode cX5_spread 83 = .ok (.iaload, 1) := by decide +kernel
theorem dX5_spread_84 : decode cX5_spread 84 = .ok (.istore 5, 2) := by decide +kernel
theorem dX5_spread_86 : decode cX5_spread 86 = .ok (.aload_n 0, 1) := by decide +kernel
theorem dX5_spread_87 : decode cX5_spread 87 = .ok (.iload 5, 2) := by decide +kernel
theorem dX5_spread_89 : decode cX5_spread 89 = .ok (.invokevirtual 42, 3) := by decide +kernel
theorem dX5_spread_92 : decode cX5_spread 92 = .ok (.iconst 0, 1) := by decide +kernel
theorem dX5_spread_93 : decode cX5_spread 93 = .ok (.istore 6, 2) := by decide +kernel
theorem dX5_spread_95 : decode cX5_spread 95 = .ok (.iload 6, 2) := by decide +kernel
theorem dX5_spread_97 : decode cX5_spread 97 = .ok (.aload_n 0, 1) := by decide +kernel
theorem dX5_spread_98 : decode cX5_spread 98 = .ok (.getfield 18, 3) := by decide +kernel
theorem dX5_spread_101 : decode cX5_spread 101 = .ok (.if_icmp .ge 45, 3) := by decide +kernel
theorem dX5_spread_104 : decode cX5_spread 104 = .ok (.aload_n 0, 1) := by decide +kernel
theorem dX5_spread_105 : decode cX5_spread 105 = .ok (.getfield 21, 3) := by decide +kernel
theorem dX5_spread_108 : decode cX5_spread 108 = .ok (.aload_n 0, 1) := by decide +kernel
theorem dX5_spread_109 : decode cX5_spread 109 = .ok (.getfield 28, 3) := by decide +kernel
theorem dX5_spread_112 : decode cX5_spread 112 = .ok (.iload 6, 2) := by decide +kernel
theorem dX5_spread_114 : decode cX5_spread 114 = .ok (.iaload, 1) := by decide +kernel
theorem dX5_spread_115 : decode cX5_spread 115 = .ok (.iaload, 1) := by decide +kernel
theorem dX5_spread_116 : decode cX5_spread 116 = .ok (.iconst (-1), 1) := by decide +kernel
theorem dX5_spread_117 : decode cX5_spread 117 = .ok (.if_icmp .ne 23, 3) := by decide +kernel
theorem dX5_spread_120 : decode cX5_spread 120 = .ok (.aload_n 0, 1) := by decide +kernel
theorem dX5_spread_121 : decode cX5_spread 121 = .ok (.aload_n 0, 1) := by decide +kernel
theorem dX5_spread_122 : decode cX5_spread 122 = .ok (.getfield 28, 3) := by decide +kernel
theorem dX5_spread_125 : decode cX5_spread 125 = .ok (.iload 6, 2) := by decide +kernel
theorem dX5_spread_127 : decode cX5_spread 127 = .ok (.iaload, 1) := by decide +kernel
theorem dX5_spread_128 : decode cX5_spread 128 = .ok (.aload_n 0, 1) := by decide +kernel
theorem dX5_spread_129 : decode cX5_spread 129 = .ok (.getfield 21, 3) := by decide +kernel
theorem dX5_spread_132 : decode cX5_spread 132 = .ok (.iload 5, 2) := by decide +kernel
theorem dX5_spread_134 : decode cX5_spread 134 = .ok (.iaload, 1) := by decide +kernel
theorem dX5_spread_135 : decode cX5_spread 135 = .ok (.iconst 1, 1) := by decide +kernel
theorem dX5_spread_136 : decode cX5_spread 136 = .ok (.iadd, 1) := by decide +kernel
theorem dX5_spread_137 : decode cX5_spread 137 = .ok (.invokevirtual 38, 3) := by decide +kernel
theorem dX5_spread_140 : decode cX5_spread 140 = .ok (.iinc 6 1, 3) := by decide +kernel
theorem dX5_spread_143 : decode cX5_spread 143 = .ok (.goto (-48), 3) := by decide +kernel
theorem dX5_spread_146 : decode cX5_spread 146 = .ok (.iinc 3 1, 3) := by decide +kernel
theorem dX5_spread_149 : decode cX5_spread 149 = .ok (.goto (-111), 3) := by decide +kernel
theorem dX5_spread_152 : decode cX5_spread 152 = .ok (.return_, 1) := by decide +kernel
theorem dX5_enter_0 : decode cX5_enter 0 = .ok (.aload_n 0, 1) := by decide +kernel
theorem dX5_enter_1 : decode cX5_enter 1 = .ok (.getfield 15, 3) := by decide +kernel
theorem dX5_enter_4 : decode cX5_enter 4 = .ok (.aload_n 0, 1) := by decide +kernel
theorem dX5_enter_5 : decode cX5_enter 5 = .ok (.getfield 25, 3) := by decide +kernel
theorem dX5_enter_8 : decode cX5_enter 8 = .ok (.arraylength, 1) := by decide +kernel
theorem dX5_enter_9 : decode cX5_enter 9 = .ok (.if_icmp .ge 30, 3) := by decide +kernel
theorem dX5_enter_12 : decode cX5_enter 12 = .ok (.aload_n 0, 1) := by decide +kernel
theorem dX5_enter_13 : decode cX5_enter 13 = .ok (.getfield 21, 3) := by decide +kernel
theorem dX5_enter_16 : decode cX5_enter 16 = .ok (.iload_n 1, 1) := by decide +kernel
theorem dX5_enter_17 : decode cX5_enter 17 = .ok (.iload_n 2, 1) := by decide +kernel
theorem dX5_enter_18 : decode cX5_enter 18 = .ok (.iastore, 1) := by decide +kernel
theorem dX5_enter_19 : decode cX5_enter 19 = .ok (.aload_n 0, 1) := by decide +kernel
theorem dX5_enter_20 : decode cX5_enter 20 = .ok (.getfield 25, 3) := by decide +kernel
theorem dX5_enter_23 : decode cX5_enter 23 = .ok (.aload_n 0, 1) := by decide +kernel
theorem dX5_enter_24 : decode cX5_enter 24 = .ok (.getfield 15, 3) := by decide +kernel
theorem dX5_enter_27 : decode cX5_enter 27 = .ok (.iload_n 1, 1) := by decide +kernel
theorem dX5_enter_28 : decode cX5_enter 28 = .ok (.iastore, 1) := by decide +kernel
theorem dX5_enter_29 : decode cX5_enter 29 = .ok (.aload_n 0, 1) := by decide +kernel
theorem dX5_enter_30 : decode cX5_enter 30 = .ok (.dup, 1) := by decide +kernel
theorem dX5_enter_31 : decode cX5_enter 31 = .ok (.getfield 15, 3) := by decide +kernel
theorem dX5_enter_34 : decode cX5_enter 34 = .ok (.iconst 1, 1) := by decide +kernel
theorem dX5_enter_35 : decode cX5_enter 35 = .ok (.iadd, 1) := by decide +kernel
theorem dX5_enter_36 : decode cX5_enter 36 = .ok (.putfield 15, 3) := by decide +kernel
theorem dX5_enter_39 : decode cX5_enter 39 = .ok (.return_, 1) := by decide +kernel
set_option maxRecDepth 20000 in
theorem ggX5_offer_X5_isState : GoodIn wsX5_offer wsX5_isState := goodIn_r _ [10, 11, 1, 13, 14, 15, 16, 17, 18, 19, 20, 21, 22, 23, 24, 25, 26, 27, 28, 29, 30] (by decide +kernel) (by decide +kernel)
set_option maxRecDepth 20000 in
theorem gX5_offer_X5_isState_u34X2 : GoodIn wsX5_offer (va_wsU RX5 34 RX2 "SlidTokens$Search" ⟨"SlidTokens$Search", "isState", "(I)Z"⟩ yX5_isState wsX5_isState) := goodIn_app (goodIn_of _ (by decide +kernel)) ggX5_offer_X5_isState
set_option maxRecDepth 20000 in
theorem gX5_offer_X5_isState_u34X4 : GoodIn wsX5_offer (va_wsU RX5 34 RX4 "SlidTokens$Search" ⟨"SlidTokens$Search", "isState", "(I)Z"⟩ yX5_isState wsX5_isState) := goodIn_app (goodIn_of _ (by decide +kernel)) ggX5_offer_X5_isState
theorem dX5_offer_0 : decode cX5_offer 0 = .ok (.aload_n 0, 1) := by decide +kernel
theorem dX5_offer_1 : decode cX5_offer 1 = .ok (.iload_n 1, 1) := by decide +kernel
theorem dX5_offer_2 : decode cX5_offer 2 = .ok (.invokevirtual 34, 3) := by decide +kernel
theorem dX5_offer_5 : decode cX5_offer 5 = .ok (.ifCond .eq 56, 3) := by decide +kernel
theorem dX5_offer_8 : decode cX5_offer 8 = .ok (.aload_n 0, 1) := by decide +kernel
theorem dX5_offer_9 : decode cX5_offer 9 = .ok (.getfield 21, 3) := by decide +kernel
theorem dX5_offer_12 : decode cX5_offer 12 = .ok (.iload_n 1, 1) := by decide +kernel
theorem dX5_offer_13 : decode cX5_offer 13 = .ok (.iaload, 1) := by decide +kernel
theorem dX5_offer_14 : decode cX5_offer 14 = .ok (.bipush (-2), 2) := by decide +kernel
theorem dX5_offer_16 : decode cX5_offer 16 = .ok (.if_icmp .eq 45, 3) := by decide +kernel
theorem dX5_offer_19 : decode cX5_offer 19 = .ok (.aload_n 0, 1) := by decide +kernel
theorem dX5_offer_20 : decode cX5_offer 20 = .ok (.getfield 18, 3) := by decide +kernel
theorem dX5_offer_23 : decode cX5_offer 23 = .ok (.aload_n 0, 1) := by decide +kernel
theorem dX5_offer_24 : decode cX5_offer 24 = .ok (.getfield 28, 3) := by decide +kernel
theorem dX5_offer_27 : decode cX5_offer 27 = .ok (.arraylength, 1) := by decide +kernel
theorem dX5_offer_28 : decode cX5_offer 28 = .ok (.if_icmp .ge 33, 3) := by decide +kernel
theorem dX5_offer_31 : decode cX5_offer 31 = .ok (.aload_n 0, 1) := by decide +kernel
theorem dX5_offer_32 : decode cX5_offer 32 = .ok (.getfield 28, 3) := by decide +kernel
theorem dX5_offer_35 : decode cX5_offer 35 = .ok (.aload_n 0, 1) := by decide +kernel
theorem dX5_offer_36 : decode cX5_offer 36 = .ok (.getfield 18, 3) := by decide +kernel
theorem dX5_offer_39 : decode cX5_offer 39 = .ok (.iload_n 1, 1) := by decide +kernel
theorem dX5_offer_40 : decode cX5_offer 40 = .ok (.iastore, 1) := by decide +kernel
theorem dX5_offer_41 : decode cX5_offer 41 = .ok (.aload_n 0, 1) := by decide +kernel
theorem dX5_offer_42 : decode cX5_offer 42 = .ok (.getfield 31, 3) := by decide +kernel
theorem dX5_offer_45 : decode cX5_offer 45 = .ok (.aload_n 0, 1) := by decide +kernel
theorem dX5_offer_46 : decode cX5_offer 46 = .ok (.getfield 18, 3) := by decide +kernel
theorem dX5_offer_49 : decode cX5_offer 49 = .ok (.iload_n 2, 1) := by decide +kernel
theorem dX5_offer_50 : decode cX5_offer 50 = .ok (.iastore, 1) := by decide +kernel
theorem dX5_offer_51 : decode cX5_offer 51 = .ok (.aload_n 0, 1) := by decide +kernel
theorem dX5_offer_52 : decode cX5_offer 52 = .ok (.dup, 1) := by decide +kernel
theorem dX5_offer_53 : decode cX5_offer 53 = .ok (.getfield 18, 3) := by decide +kernel
theorem dX5_offer_56 : decode cX5_offer 56 = .ok (.iconst 1, 1) := by decide +kernel
theorem dX5_offer_57 : decode cX5_offer 57 = .ok (.iadd, 1) := by decide +kernel
theorem dX5_offer_58 : decode cX5_offer 58 = .ok (.putfield 18, 3) := by decide +kernel
theorem dX5_offer_61 : decode cX5_offer 61 = .ok (.return_, 1) := by decide +kernel
set_option maxRecDepth 20000 in
theorem ggX5_fewest_X5_isState : GoodIn wsX5_fewest wsX5_isState := goodIn_r _ [7, 8, 1, 66, 67, 68, 69, 70, 71, 72, 73, 74, 75, 76, 77, 78, 79, 80, 81, 82, 83] (by decide +kernel) (by decide +kernel)
set_option maxRecDepth 20000 in
theorem gX5_fewest_X5_isState_u34X2 : GoodIn wsX5_fewest (va_wsU RX5 34 RX2 "SlidTokens$Search" ⟨"SlidTokens$Search", "isState", "(I)Z"⟩ yX5_isState wsX5_isState) := goodIn_app (goodIn_of _ (by decide +kernel)) ggX5_fewest_X5_isState
set_option maxRecDepth 20000 in
theorem gX5_fewest_X5_isState_u34X4 : GoodIn wsX5_fewest (va_wsU RX5 34 RX4 "SlidTokens$Search" ⟨"SlidTokens$Search", "isState", "(I)Z"⟩ yX5_isState wsX5_isState) := goodIn_app (goodIn_of _ (by decide +kernel)) ggX5_fewest_X5_isState
set_option maxRecDepth 20000 in
theorem ggX5_fewest_X5_spread : GoodIn wsX5_fewest wsX5_spread := goodIn_r _ [14, 15, 1, 16, 17, 18, 2, 3, 4, 5, 6, 7, 8, 9, 19, 20, 21, 22, 23, 24, 25, 26, 27, 28, 29, 30, 31, 32, 33, 34, 35, 36, 37, 38, 39, 40, 41, 42, 43, 44, 45, 46, 47, 48, 49, 50, 51, 52, 53, 54, 55, 56, 57, 58, 59, 60, 61, 62, 63, 64, 66, 67, 68, 69, 70, 71, 72, 73, 74, 75, 76, 77, 78, 79, 80, 81, 82, 83, 84, 85] (by decide +kernel) (by decide +kernel)
set_option maxRecDepth 20000 in
theorem gX5_fewest_X5_spread_u46X2 : GoodIn wsX5_fewest (va_wsU RX5 46 RX2 "SlidTokens$Search" ⟨"SlidTokens$Search", "spread", "(II)V"⟩ yX5_spread wsX5_spread) := goodIn_app (goodIn_of _ (by decide +kernel)) ggX5_fewest_X5_spread
set_option maxRecDepth 20000 in
theorem gX5_fewest_X5_spread_u46X4 : GoodIn wsX5_fewest (va_wsU RX5 46 RX4 "SlidTokens$Search" ⟨"SlidTokens$Search", "spread", "(II)V"⟩ yX5_spread wsX5_spread) := goodIn_app (goodIn_of _ (by decide +kernel)) ggX5_fewest_X5_spread
theorem dX5_fewest_0 : decode cX5_fewest 0 = .ok (.iload_n 1, 1) := by decide +kernel
theorem dX5_fewest_1 : decode cX5_fewest 1 = .ok (.iload_n 2, 1) := by decide +kernel
theorem dX5_fewest_2 : decode cX5_fewest 2 = .ok (.if_icmp .ne 5, 3) := by decide +kernel
theorem dX5_fewest_5 : decode cX5_fewest 5 = .ok (.iconst 0, 1) := by decide +kernel
theorem dX5_fewest_6 : decode cX5_fewest 6 = .ok (.ireturn, 1) := by decide +kernel
theorem dX5_fewest_7 : decode cX5_fewest 7 = .ok (.aload_n 0, 1) := by decide +kernel
theorem dX5_fewest_8 : decode cX5_fewest 8 = .ok (.iload_n 1, 1) := by decide +kernel
theorem dX5_fewest_9 : decode cX5_fewest 9 = .ok (.invokevirtual 34, 3) := by decide +kernel
theorem dX5_fewest_12 : decode cX5_fewest 12 = .ok (.ifCond .eq 33, 3) := by decide +kernel
theorem dX5_fewest_15 : decode cX5_fewest 15 = .ok (.aload_n 0, 1) := by decide +kernel
theorem dX5_fewest_16 : decode cX5_fewest 16 = .ok (.iload_n 2, 1) := by decide +kernel
theorem dX5_fewest_17 : decode cX5_fewest 17 = .ok (.invokevirtual 34, 3) := by decide +kernel
theorem dX5_fewest_20 : decode cX5_fewest 20 = .ok (.ifCond .eq 25, 3) := by decide +kernel
theorem dX5_fewest_23 : decode cX5_fewest 23 = .ok (.aload_n 0, 1) := by decide +kernel
theorem dX5_fewest_24 : decode cX5_fewest 24 = .ok (.getfield 21, 3) := by decide +kernel
theorem dX5_fewest_27 : decode cX5_fewest 27 = .ok (.iload_n 1, 1) := by decide +kernel
theorem dX5_fewest_28 : decode cX5_fewest 28 = .ok (.iaload, 1) := by decide +kernel
theorem dX5_fewest_29 : decode cX5_fewest 29 = .ok (.bipush (-2), 2) := by decide +kernel
theorem dX5_fewest_31 : decode cX5_fewest 31 = .ok (.if_icmp .eq 14, 3) := by decide +kernel
theorem dX5_fewest_34 : decode cX5_fewest 34 = .ok (.aload_n 0, 1) := by decide +kernel
theorem dX5_fewest_35 : decode cX5_fewest 35 = .ok (.getfield 21, 3) := by decide +kernel
theorem dX5_fewest_38 : decode cX5_fewest 38 = .ok (.iload_n 2, 1) := by decide +kernel
theorem dX5_fewest_39 : decode cX5_fewest 39 = .ok (.iaload, 1) := by decide +kernel
theorem dX5_fewest_40 : decode cX5_fewest 40 = .ok (.bipush (-2), 2) := by decide +kernel
theorem dX5_fewest_42 : decode cX5_fewest 42 = .ok (.if_icmp .ne 6, 3) := by decide +kernel
theorem dX5_fewest_45 : decode cX5_fewest 45 = .ok (.bipush (-9), 2) := by decide +kernel
theorem dX5_fewest_47 : decode cX5_fewest 47 = .ok (.ireturn, 1) := by decide +kernel
theorem dX5_fewest_48 : decode cX5_fewest 48 = .ok (.aload_n 0, 1) := by decide +kernel
theorem dX5_fewest_49 : decode cX5_fewest 49 = .ok (.iload_n 2, 1) := by decide +kernel
theorem dX5_fewest_50 : decode cX5_fewest 50 = .ok (.iload_n 1, 1) := by decide +kernel
theorem dX5_fewest_51 : decode cX5_fewest 51 = .ok (.invokevirtual 46, 3) := by decide +kernel
theorem dX5_fewest_54 : decode cX5_fewest 54 = .ok (.aload_n 0, 1) := by decide +kernel
theorem dX5_fewest_55 : decode cX5_fewest 55 = .ok (.getfield 21, 3) := by decide +kernel
theorem dX5_fewest_58 : decode cX5_fewest 58 = .ok (.iload_n 1, 1) := by decide +kernel
theorem dX5_fewest_59 : decode cX5_fewest 59 = .ok (.iaload, 1) := by decide +kernel
theorem dX5_fewest_60 : decode cX5_fewest 60 = .ok (.iconst (-1), 1) := by decide +kernel
theorem dX5_fewest_61 : decode cX5_fewest 61 = .ok (.if_icmp .ne 8, 3) := by decide +kernel
theorem dX5_fewest_64 : decode cX5_fewest 64 = .ok (.bipush (-9), 2) := by decide +kernel
theorem dX5_fewest_66 : decode cX5_fewest 66 = .ok (.goto 9, 3) := by decide +kernel
theorem dX5_fewest_69 : decode cX5_fewest 69 = .ok (.aload_n 0, 1) := by decide +kernel
theorem dX5_fewest_70 : decode cX5_fewest 70 = .ok (.getfield 21, 3) := by decide +kernel
theorem dX5_fewest_73 : decode cX5_fewest 73 = .ok (.iload_n 1, 1) := by decide +kernel
theorem dX5_fewest_74 : decode cX5_fewest 74 = .ok (.iaload, 1) := by decide +kernel
theorem dX5_fewest_75 : decode cX5_fewest 75 = .ok (.ireturn, 1) := by decide +kernel
set_option maxRecDepth 20000 in
theorem ggX5_components_X5_spread : GoodIn wsX5_components wsX5_spread := goodIn_r _ [8, 9, 2, 10, 11, 12, 13, 14, 15, 16, 7, 17, 1, 18, 19, 20, 21, 22, 23, 24, 25, 26, 27, 28, 29, 30, 31, 32, 33, 34, 35, 36, 37, 38, 39, 40, 41, 42, 43, 44, 45, 46, 47, 48, 49, 50, 51, 52, 53, 54, 55, 56, 57, 58, 59, 60, 61, 62, 63, 64, 66, 67, 68, 69, 70, 71, 72, 73, 74, 75, 76, 77, 78, 79, 80, 81, 82, 83, 84, 85] (by decide +kernel) (by decide +kernel)
set_option maxRecDepth 20000 in
theorem gX5_components_X5_spread_u46X2 : GoodIn wsX5_components (va_wsU RX5 46 RX2 "SlidTokens$Search" ⟨"SlidTokens$Search", "spread", "(II)V"⟩ yX5_spread wsX5_spread) := goodIn_app (goodIn_of _ (by decide +kernel)) ggX5_components_X5_spread
set_option maxRecDepth 20000 in
theorem gX5_components_X5_spread_u46X4 : GoodIn wsX5_components (va_wsU RX5 46 RX4 "SlidTokens$Search" ⟨"SlidTokens$Search", "spread", "(II)V"⟩ yX5_spread wsX5_spread) := goodIn_app (goodIn_of _ (by decide +kernel)) ggX5_components_X5_spread
theorem dX5_components_0 : decode cX5_components 0 = .ok (.iconst 0, 1) := by decide +kernel
theorem dX5_components_1 : decode cX5_components 1 = .ok (.istore_n 1, 1) := by decide +kernel
theorem dX5_components_2 : decode cX5_components 2 = .ok (.iconst 0, 1) := by decide +kernel
theorem dX5_components_3 : decode cX5_components 3 = .ok (.istore_n 2, 1) := by decide +kernel
theorem dX5_components_4 : decode cX5_components 4 = .ok (.iload_n 2, 1) := by decide +kernel
theorem dX5_components_5 : decode cX5_components 5 = .ok (.aload_n 0, 1) := by decide +kernel
theorem dX5_components_6 : decode cX5_components 6 = .ok (.getfield 9, 3) := by decide +kernel
theorem dX5_components_9 : decode cX5_components 9 = .ok (.if_icmp .ge 28, 3) := by decide +kernel
theorem dX5_components_12 : decode cX5_components 12 = .ok (.aload_n 0, 1) := by decide +kernel
theorem dX5_components_13 : decode cX5_components 13 = .ok (.getfield 21, 3) := by decide +kernel
theorem dX5_components_16 : decode cX5_components 16 = .ok (.iload_n 2, 1) := by decide +kernel
theorem dX5_components_17 : decode cX5_components 17 = .ok (.iaload, 1) := by decide +kernel
theorem dX5_components_18 : decode cX5_components 18 = .ok (.iconst (-1), 1) := by decide +kernel
theorem dX5_components_19 : decode cX5_components 19 = .ok (.if_icmp .ne 12, 3) := by decide +kernel
theorem dX5_components_22 : decode cX5_components 22 = .ok (.aload_n 0, 1) := by decide +kernel
theorem dX5_components_23 : decode cX5_components 23 = .ok (.iload_n 2, 1) := by decide +kernel
theorem dX5_components_24 : decode cX5_components 24 = .ok (.iconst (-1), 1) := by decide +kernel
theorem dX5_components_25 : decode cX5_components 25 = .ok (.invokevirtual 46, 3) := by decide +kernel
theorem dX5_components_28 : decode cX5_components 28 = .ok (.iinc 1 1, 3) := by decide +kernel
theorem dX5_components_31 : decode cX5_components 31 = .ok (.iinc 2 1, 3) := by decide +kernel
theorem dX5_components_34 : decode cX5_components 34 = .ok (.goto (-30), 3) := by decide +kernel
theorem dX5_components_37 : decode cX5_components 37 = .ok (.iload_n 1, 1) := by decide +kernel
theorem dX5_components_38 : decode cX5_components 38 = .ok (.ireturn, 1) := by decide +kernel
theorem dX6_init_0 : decode cX6_init 0 = .ok (.aload_n 0, 1) := by decide +kernel
theorem dX6_init_1 : decode cX6_init 1 = .ok (.invokespecial 3, 3) := by decide +kernel
theorem dX6_init_4 : decode cX6_init 4 = .ok (.return_, 1) := by decide +kernel
set_option maxRecDepth 20000 in
theorem ggX6_weigh_X6_isSwap : GoodIn wsX6_weigh wsX6_isSwap := goodIn_r _ [5, 6, 7, 8, 9, 10, 11, 12] (by decide +kernel) (by decide +kernel)
set_option maxRecDepth 20000 in
theorem gX6_weigh_X6_isSwap : GoodIn wsX6_weigh (va_wsS RX6 15 yX6_isSwap wsX6_isSwap) := goodIn_app (goodIn_of _ (by decide +kernel)) ggX6_weigh_X6_isSwap
set_option maxRecDepth 20000 in
theorem ggX6_weigh_J6_numberOfTrailingZeros_0f7a4 : GoodIn wsX6_weigh wsJ6_numberOfTrailingZeros_0f7a4 := goodIn_r _ [15, 16] (by decide +kernel) (by decide +kernel)
set_option maxRecDepth 20000 in
theorem gX6_weigh_J6_numberOfTrailingZeros_0f7a4 : GoodIn wsX6_weigh (va_wsS RX6 21 yJ6_numberOfTrailingZeros_0f7a4 wsJ6_numberOfTrailingZeros_0f7a4) := goodIn_app (goodIn_of _ (by decide +kernel)) ggX6_weigh_J6_numberOfTrailingZeros_0f7a4
set_option maxRecDepth 20000 in
theorem ggX6_weigh_X3_areJoined : GoodIn wsX6_weigh wsX3_areJoined := goodIn_r _ [21, 22, 23, 24, 25, 20, 26, 27, 29, 30] (by decide +kernel) (by decide +kernel)
set_option maxRecDepth 20000 in
theorem gX6_weigh_X3_areJoined : GoodIn wsX6_weigh (wsV RX6 27 RX3 yX3_areJoined wsX3_areJoined) := goodIn_app (goodIn_of _ (by decide +kernel)) ggX6_weigh_X3_areJoined
theorem dX6_weigh_0 : decode cX6_weigh 0 = .ok (.aload 4, 2) := by decide +kernel
theorem dX6_weigh_2 : decode cX6_weigh 2 = .ok (.dup, 1) := by decide +kernel
theorem dX6_weigh_3 : decode cX6_weigh 3 = .ok (.getfield 9, 3) := by decide +kernel
theorem dX6_weigh_6 : decode cX6_weigh 6 = .ok (.lconst 1, 1) := by decide +kernel
theorem dX6_weigh_7 : decode cX6_weigh 7 = .ok (.ladd, 1) := by decide +kernel
theorem dX6_weigh_8 : decode cX6_weigh 8 = .ok (.putfield 9, 3) := by decide +kernel
theorem dX6_weigh_11 : decode cX6_weigh 11 = .ok (.iload_n 2, 1) := by decide +kernel
theorem dX6_weigh_12 : decode cX6_weigh 12 = .ok (.iload_n 3, 1) := by decide +kernel
theorem dX6_weigh_13 : decode cX6_weigh 13 = .ok (.invokestatic 15, 3) := by decide +kernel
theorem dX6_weigh_16 : decode cX6_weigh 16 = .ok (.ifCond .ne 5, 3) := by decide +kernel
theorem dX6_weigh_19 : decode cX6_weigh 19 = .ok (.iconst 0, 1) := by decide +kernel
theorem dX6_weigh_20 : decode cX6_weigh 20 = .ok (.ireturn, 1) := by decide +kernel
theorem dX6_weigh_21 : decode cX6_weigh 21 = .ok (.iload_n 2, 1) := by decide +kernel
theorem dX6_weigh_22 : decode cX6_weigh 22 = .ok (.invokestatic 21, 3) := by decide +kernel
theorem dX6_weigh_25 : decode cX6_weigh 25 = .ok (.istore 5, 2) := by decide +kernel
theorem dX6_weigh_27 : decode cX6_weigh 27 = .ok (.iload_n 3, 1) := by decide +kernel
theorem dX6_weigh_28 : decode cX6_weigh 28 = .ok (.invokestatic 21, 3) := by decide +kernel
theorem dX6_weigh_31 : decode cX6_weigh 31 = .ok (.istore 6, 2) := by decide +kernel
theorem dX6_weigh_33 : decode cX6_weigh 33 = .ok (.aload_n 1, 1) := by decide +kernel
theorem dX6_weigh_34 : decode cX6_weigh 34 = .ok (.iload 5, 2) := by decide +kernel
theorem dX6_weigh_36 : decode cX6_weigh 36 = .ok (.iload 6, 2) := by decide +kernel
theorem dX6_weigh_38 : decode cX6_weigh 38 = .ok (.invokevirtual 27, 3) := by decide +kernel
theorem dX6_weigh_41 : decode cX6_weigh 41 = .ok (.ifCond .eq 7, 3) := by decide +kernel
theorem dX6_weigh_44 : decode cX6_weigh 44 = .ok (.iconst 1, 1) := by decide +kernel
theorem dX6_weigh_45 : decode cX6_weigh 45 = .ok (.goto 4, 3) := by decide +kernel
theorem dX6_weigh_48 : decode cX6_weigh 48 = .ok (.iconst 0, 1) := by decide +kernel
theorem dX6_weigh_49 : decode cX6_weigh 49 = .ok (.ireturn, 1) := by decide +kernel
set_option maxRecDepth 20000 in
theorem ggX6_isSwap_J6_bitCount_0f7a4 : GoodIn wsX6_isSwap wsJ6_bitCount_0f7a4 := goodIn_r _ [4, 5, 6, 7] (by decide +kernel) (by decide +kernel)
set_option maxRecDepth 20000 in
theorem gX6_isSwap_J6_bitCount_0f7a4 : GoodIn wsX6_isSwap (va_wsS RX6 32 yJ6_bitCount_0f7a4 wsJ6_bitCount_0f7a4) := goodIn_app (goodIn_of _ (by decide +kernel)) ggX6_isSwap_J6_bitCount_0f7a4
theorem dX6_isSwap_0 : decode cX6_isSwap 0 = .ok (.iload_n 0, 1) := by decide +kernel
theorem dX6_isSwap_1 : decode cX6_isSwap 1 = .ok (.invokestatic 32, 3) := by decide +kernel
theorem dX6_isSwap_4 : decode cX6_isSwap 4 = .ok (.iconst 1, 1) := by decide +kernel
theorem dX6_isSwap_5 : decode cX6_isSwap 5 = .ok (.if_icmp .ne 15, 3) := by decide +kernel
theorem dX6_isSwap_8 : decode cX6_isSwap 8 = .ok (.iload_n 1, 1) := by decide +kernel
theorem dX6_isSwap_9 : decode cX6_isSwap 9 = .ok (.invokestatic 32, 3) := by decide +kernel
theorem dX6_isSwap_12 : decode cX6_isSwap 12 = .ok (.iconst 1, 1) := by decide +kernel
theorem dX6_isSwap_13 : decode cX6_isSwap 13 = .ok (.if_icmp .ne 7, 3) := by decide +kernel
theorem dX6_isSwap_16 : decode cX6_isSwap 16 = .ok (.iconst 1, 1) := by decide +kernel
theorem dX6_isSwap_17 : decode cX6_isSwap 17 = .ok (.goto 4, 3) := by decide +kernel
theorem dX6_isSwap_20 : decode cX6_isSwap 20 = .ok (.iconst 0, 1) := by decide +kernel
theorem dX6_isSwap_21 : decode cX6_isSwap 21 = .ok (.ireturn, 1) := by decide +kernel
theorem dX7_init_0 : decode cX7_init 0 = .ok (.aload_n 0, 1) := by decide +kernel
theorem dX7_init_1 : decode cX7_init 1 = .ok (.invokespecial 1, 3) := by decide +kernel
theorem dX7_init_4 : decode cX7_init 4 = .ok (.aload_n 0, 1) := by decide +kernel
theorem dX7_init_5 : decode cX7_init 5 = .ok (.lconst 0, 1) := by decide +kernel
theorem dX7_init_6 : decode cX7_init 6 = .ok (.putfield 7, 3) := by decide +kernel
theorem dX7_init_9 : decode cX7_init 9 = .ok (.return_, 1) := by decide +kernel
set_option maxRecDepth 20000 in
theorem ggX8_init_X3_init : GoodIn wsX8_init wsX3_init := goodIn_r _ [34, 35, 2, 3, 36, 37, 38, 73, 74] (by decide +kernel) (by decide +kernel)
set_option maxRecDepth 20000 in
theorem gX8_init_X3_init_n9 : GoodIn wsX8_init (wsX3_init) := ggX8_init_X3_init
set_option maxRecDepth 20000 in
theorem ggX8_init_X2_init : GoodIn wsX8_init wsX2_init := goodIn_r _ [41, 42, 43, 44, 45, 46, 47, 48, 2, 3, 49, 50, 51, 36, 52, 53, 54, 55, 83, 84, 85, 86, 87, 88, 89, 90, 91, 92, 93, 94, 95, 96, 97, 98, 99, 100] (by decide +kernel) (by decide +kernel)
set_option maxRecDepth 20000 in
theorem gX8_init_X2_init : GoodIn wsX8_init (wsX2_init) := ggX8_init_X2_init
set_option maxRecDepth 20000 in
theorem ggX8_init_X4_init : GoodIn wsX8_init wsX4_init := goodIn_r _ [58, 59, 60, 61, 45, 46, 47, 48, 2, 3, 49, 50, 51, 36, 52, 53, 54, 55, 92, 93, 94, 95, 96, 97, 98, 99, 100, 83, 84, 85, 86, 87, 88, 89, 90, 91] (by decide +kernel) (by decide +kernel)
set_option maxRecDepth 20000 in
theorem gX8_init_X4_init : GoodIn wsX8_init (wsX4_init) := ggX8_init_X4_init
set_option maxRecDepth 20000 in
theorem ggX8_init_X6_init : GoodIn wsX8_init wsX6_init := goodIn_r _ [63, 64, 2, 3] (by decide +kernel) (by decide +kernel)
set_option maxRecDepth 20000 in
theorem gX8_init_X6_init_n34 : GoodIn wsX8_init (wsX6_init) := ggX8_init_X6_init
set_option maxRecDepth 20000 in
theorem ggX8_init_X1_init : GoodIn wsX8_init wsX1_init := goodIn_r _ [66, 62, 18, 63, 64, 2, 3] (by decide +kernel) (by decide +kernel)
set_option maxRecDepth 20000 in
theorem gX8_init_X1_init_n37 : GoodIn wsX8_init (wsX1_init) := ggX8_init_X1_init
set_option maxRecDepth 20000 in
theorem ggX8_init_X0_init : GoodIn wsX8_init wsX0_init := goodIn_r _ [68, 65, 21, 66, 62, 18, 63, 64, 2, 3] (by decide +kernel) (by decide +kernel)
set_option maxRecDepth 20000 in
theorem gX8_init_X0_init_n40 : GoodIn wsX8_init (wsX0_init) := ggX8_init_X0_init
set_option maxRecDepth 20000 in
theorem ggX8_init_X7_init : GoodIn wsX8_init wsX7_init := goodIn_r _ [70, 71, 2, 3, 72, 101] (by decide +kernel) (by decide +kernel)
set_option maxRecDepth 20000 in
theorem gX8_init_X7_init_n47 : GoodIn wsX8_init (wsX7_init) := ggX8_init_X7_init
theorem dX8_init_0 : decode cX8_init 0 = .ok (.aload_n 0, 1) := by decide +kernel
theorem dX8_init_1 : decode cX8_init 1 = .ok (.invokespecial 1, 3) := by decide +kernel
theorem dX8_init_4 : decode cX8_init 4 = .ok (.aload_n 0, 1) := by decide +kernel
theorem dX8_init_5 : decode cX8_init 5 = .ok (.new 7, 3) := by decide +kernel
theorem dX8_init_8 : decode cX8_init 8 = .ok (.dup, 1) := by decide +kernel
theorem dX8_init_9 : decode cX8_init 9 = .ok (.invokespecial 9, 3) := by decide +kernel
theorem dX8_init_12 : decode cX8_init 12 = .ok (.putfield 10, 3) := by decide +kernel
theorem dX8_init_15 : decode cX8_init 15 = .ok (.aload_n 0, 1) := by decide +kernel
theorem dX8_init_16 : decode cX8_init 16 = .ok (.new 16, 3) := by decide +kernel
theorem dX8_init_19 : decode cX8_init 19 = .ok (.dup, 1) := by decide +kernel
theorem dX8_init_20 : decode cX8_init 20 = .ok (.aload_n 0, 1) := by decide +kernel
theorem dX8_init_21 : decode cX8_init 21 = .ok (.getfield 10, 3) := by decide +kernel
theorem dX8_init_24 : decode cX8_init 24 = .ok (.invokespecial 18, 3) := by decide +kernel
theorem dX8_init_27 : decode cX8_init 27 = .ok (.putfield 21, 3) := by decide +kernel
theorem dX8_init_30 : decode cX8_init 30 = .ok (.aload_n 0, 1) := by decide +kernel
theorem dX8_init_31 : decode cX8_init 31 = .ok (.new 25, 3) := by decide +kernel
theorem dX8_init_34 : decode cX8_init 34 = .ok (.dup, 1) := by decide +kernel
theorem dX8_init_35 : decode cX8_init 35 = .ok (.aload_n 0, 1) := by decide +kernel
theorem dX8_init_36 : decode cX8_init 36 = .ok (.getfield 10, 3) := by decide +kernel
theorem dX8_init_39 : decode cX8_init 39 = .ok (.invokespecial 27, 3) := by decide +kernel
theorem dX8_init_42 : decode cX8_init 42 = .ok (.putfield 28, 3) := by decide +kernel
theorem dX8_init_45 : decode cX8_init 45 = .ok (.aload_n 0, 1) := by decide +kernel
theorem dX8_init_46 : decode cX8_init 46 = .ok (.iconst 3, 1) := by decide +kernel
theorem dX8_init_47 : decode cX8_init 47 = .ok (.anewarray 32, 3) := by decide +kernel
theorem dX8_init_50 : decode cX8_init 50 = .ok (.dup, 1) := by decide +kernel
theorem dX8_init_51 : decode cX8_init 51 = .ok (.iconst 0, 1) := by decide +kernel
theorem dX8_init_52 : decode cX8_init 52 = .ok (.new 32, 3) := by decide +kernel
theorem dX8_init_55 : decode cX8_init 55 = .ok (.dup, 1) := by decide +kernel
theorem dX8_init_56 : decode cX8_init 56 = .ok (.invokespecial 34, 3) := by decide +kernel
theorem dX8_init_59 : decode cX8_init 59 = .ok (.aastore, 1) := by decide +kernel
theorem dX8_init_60 : decode cX8_init 60 = .ok (.dup, 1) := by decide +kernel
theorem dX8_init_61 : decode cX8_init 61 = .ok (.iconst 1, 1) := by decide +kernel
theorem dX8_init_62 : decode cX8_init 62 = .ok (.new 35, 3) := by decide +kernel
theorem dX8_init_65 : decode cX8_init 65 = .ok (.dup, 1) := by decide +kernel
theorem dX8_init_66 : decode cX8_init 66 = .ok (.invokespecial 37, 3) := by decide +kernel
theorem dX8_init_69 : decode cX8_init 69 = .ok (.aastore, 1) := by decide +kernel
theorem dX8_init_70 : decode cX8_init 70 = .ok (.dup, 1) := by decide +kernel
theorem dX8_init_71 : decode cX8_init 71 = .ok (.iconst 2, 1) := by decide +kernel
theorem dX8_init_72 : decode cX8_init 72 = .ok (.new 38, 3) := by decide +kernel
theorem dX8_init_75 : decode cX8_init 75 = .ok (.dup, 1) := by decide +kernel
theorem dX8_init_76 : decode cX8_init 76 = .ok (.invokespecial 40, 3) := by decide +kernel
theorem dX8_init_79 : decode cX8_init 79 = .ok (.aastore, 1) := by decide +kernel
theorem dX8_init_80 : decode cX8_init 80 = .ok (.putfield 41, 3) := by decide +kernel
theorem dX8_init_83 : decode cX8_init 83 = .ok (.aload_n 0, 1) := by decide +kernel
theorem dX8_init_84 : decode cX8_init 84 = .ok (.new 45, 3) := by decide +kernel
theorem dX8_init_87 : decode cX8_init 87 = .ok (.dup, 1) := by decide +kernel
theorem dX8_init_88 : decode cX8_init 88 = .ok (.invokespecial 47, 3) := by decide +kernel
theorem dX8_init_91 : decode cX8_init 91 = .ok (.putfield 48, 3) := by decide +kernel
theorem dX8_init_94 : decode cX8_init 94 = .ok (.aload_n 0, 1) := by decide +kernel
theorem dX8_init_95 : decode cX8_init 95 = .ok (.iconst 0, 1) := by decide +kernel
theorem dX8_init_96 : decode cX8_init 96 = .ok (.putfield 52, 3) := by decide +kernel
theorem dX8_init_99 : decode cX8_init 99 = .ok (.aload_n 0, 1) := by decide +kernel
theorem dX8_init_100 : decode cX8_init 100 = .ok (.bipush 9, 2) := by decide +kernel
theorem dX8_init_102 : decode cX8_init 102 = .ok (.putfield 56, 3) := by decide +kernel
theorem dX8_init_105 : decode cX8_init 105 = .ok (.aload_n 0, 1) := by decide +kernel
theorem dX8_init_106 : decode cX8_init 106 = .ok (.iconst 3, 1) := by decide +kernel
theorem dX8_init_107 : decode cX8_init 107 = .ok (.putfield 59, 3) := by decide +kernel
theorem dX8_init_110 : decode cX8_init 110 = .ok (.return_, 1) := by decide +kernel
set_option maxRecDepth 20000 in
theorem ggX8_net_X8_isWithin : GoodIn wsX8_net wsX8_isWithin := goodIn_r _ [6] (by decide +kernel) (by decide +kernel)
set_option maxRecDepth 20000 in
theorem gX8_net_X8_isWithin : GoodIn wsX8_net (va_wsS RX8 62 yX8_isWithin wsX8_isWithin) := goodIn_app (goodIn_of _ (by decide +kernel)) ggX8_net_X8_isWithin
set_option maxRecDepth 20000 in
theorem ggX8_net_X3_restart : GoodIn wsX8_net wsX3_restart := goodIn_r _ [11, 12, 13, 14, 15, 16, 17, 26, 27] (by decide +kernel) (by decide +kernel)
set_option maxRecDepth 20000 in
theorem gX8_net_X3_restart : GoodIn wsX8_net (wsV RX8 69 RX3 yX3_restart wsX3_restart) := goodIn_app (goodIn_of _ (by decide +kernel)) ggX8_net_X3_restart
theorem dX8_net_0 : decode cX8_net 0 = .ok (.iload_n 1, 1) := by decide +kernel
theorem dX8_net_1 : decode cX8_net 1 = .ok (.iconst 1, 1) := by decide +kernel
theorem dX8_net_2 : decode cX8_net 2 = .ok (.bipush 9, 2) := by decide +kernel
theorem dX8_net_4 : decode cX8_net 4 = .ok (.invokestatic 62, 3) := by decide +kernel
theorem dX8_net_7 : decode cX8_net 7 = .ok (.ifCond .ne 5, 3) := by decide +kernel
theorem dX8_net_10 : decode cX8_net 10 = .ok (.iconst (-1), 1) := by decide +kernel
theorem dX8_net_11 : decode cX8_net 11 = .ok (.ireturn, 1) := by decide +kernel
theorem dX8_net_12 : decode cX8_net 12 = .ok (.aload_n 0, 1) := by decide +kernel
theorem dX8_net_13 : decode cX8_net 13 = .ok (.getfield 10, 3) := by decide +kernel
theorem dX8_net_16 : decode cX8_net 16 = .ok (.getfield 66, 3) := by decide +kernel
theorem dX8_net_19 : decode cX8_net 19 = .ok (.istore_n 2, 1) := by decide +kernel
theorem dX8_net_20 : decode cX8_net 20 = .ok (.aload_n 0, 1) := by decide +kernel
theorem dX8_net_21 : decode cX8_net 21 = .ok (.getfield 10, 3) := by decide +kernel
theorem dX8_net_24 : decode cX8_net 24 = .ok (.iload_n 1, 1) := by decide +kernel
theorem dX8_net_25 : decode cX8_net 25 = .ok (.invokevirtual 69, 3) := by decide +kernel
theorem dX8_net_28 : decode cX8_net 28 = .ok (.iload_n 2, 1) := by decide +kernel
theorem dX8_net_29 : decode cX8_net 29 = .ok (.ireturn, 1) := by decide +kernel
set_option maxRecDepth 20000 in
theorem ggX8_join_X3_hasNode : GoodIn wsX8_join wsX3_hasNode := goodIn_r _ [6, 7, 33, 34] (by decide +kernel) (by decide +kernel)
set_option maxRecDepth 20000 in
theorem gX8_join_X3_hasNode : GoodIn wsX8_join (wsV RX8 73 RX3 yX3_hasNode wsX3_hasNode) := goodIn_app (goodIn_of _ (by decide +kernel)) ggX8_join_X3_hasNode
set_option maxRecDepth 20000 in
theorem ggX8_join_X8_isWithin : GoodIn wsX8_join wsX8_isWithin := goodIn_r _ [11] (by decide +kernel) (by decide +kernel)
set_option maxRecDepth 20000 in
theorem gX8_join_X8_isWithin : GoodIn wsX8_join (va_wsS RX8 62 yX8_isWithin wsX8_isWithin) := goodIn_app (goodIn_of _ (by decide +kernel)) ggX8_join_X8_isWithin
set_option maxRecDepth 20000 in
theorem ggX8_join_X3_areJoined : GoodIn wsX8_join wsX3_areJoined := goodIn_r _ [15, 16, 17, 3, 4, 5, 6, 7, 33, 34] (by decide +kernel) (by decide +kernel)
set_option maxRecDepth 20000 in
theorem gX8_join_X3_areJoined : GoodIn wsX8_join (wsV RX8 77 RX3 yX3_areJoined wsX3_areJoined) := goodIn_app (goodIn_of _ (by decide +kernel)) ggX8_join_X3_areJoined
set_option maxRecDepth 20000 in
theorem ggX8_join_X8_asNumber : GoodIn wsX8_join wsX8_asNumber := goodIn_r _ [20] (by decide +kernel) (by decide +kernel)
set_option maxRecDepth 20000 in
theorem gX8_join_X8_asNumber : GoodIn wsX8_join (va_wsS RX8 81 yX8_asNumber wsX8_asNumber) := goodIn_app (goodIn_of _ (by decide +kernel)) ggX8_join_X8_asNumber
set_option maxRecDepth 20000 in
theorem ggX8_join_X3_tie : GoodIn wsX8_join wsX3_tie := goodIn_r _ [24, 16, 17, 3, 4, 5, 6, 7, 33, 34] (by decide +kernel) (by decide +kernel)
set_option maxRecDepth 20000 in
theorem gX8_join_X3_tie : GoodIn wsX8_join (wsV RX8 85 RX3 yX3_tie wsX3_tie) := goodIn_app (goodIn_of _ (by decide +kernel)) ggX8_join_X3_tie
theorem dX8_join_0 : decode cX8_join 0 = .ok (.aload_n 0, 1) := by decide +kernel
theorem dX8_join_1 : decode cX8_join 1 = .ok (.getfield 10, 3) := by decide +kernel
theorem dX8_join_4 : decode cX8_join 4 = .ok (.iload_n 1, 1) := by decide +kernel
theorem dX8_join_5 : decode cX8_join 5 = .ok (.invokevirtual 73, 3) := by decide +kernel
theorem dX8_join_8 : decode cX8_join 8 = .ok (.ifCond .eq 28, 3) := by decide +kernel
theorem dX8_join_11 : decode cX8_join 11 = .ok (.aload_n 0, 1) := by decide +kernel
theorem dX8_join_12 : decode cX8_join 12 = .ok (.getfield 10, 3) := by decide +kernel
theorem dX8_join_15 : decode cX8_join 15 = .ok (.iload_n 2, 1) := by decide +kernel
theorem dX8_join_16 : decode cX8_join 16 = .ok (.invokevirtual 73, 3) := by decide +kernel
theorem dX8_join_19 : decode cX8_join 19 = .ok (.ifCond .eq 17, 3) := by decide +kernel
theorem dX8_join_22 : decode cX8_join 22 = .ok (.iload_n 1, 1) := by decide +kernel
theorem dX8_join_23 : decode cX8_join 23 = .ok (.iload_n 2, 1) := by decide +kernel
theorem dX8_join_24 : decode cX8_join 24 = .ok (.if_icmp .eq 12, 3) := by decide +kernel
theorem dX8_join_27 : decode cX8_join 27 = .ok (.iload_n 3, 1) := by decide +kernel
theorem dX8_join_28 : decode cX8_join 28 = .ok (.iconst 0, 1) := by decide +kernel
theorem dX8_join_29 : decode cX8_join 29 = .ok (.iconst 1, 1) := by decide +kernel
theorem dX8_join_30 : decode cX8_join 30 = .ok (.invokestatic 62, 3) := by decide +kernel
theorem dX8_join_33 : decode cX8_join 33 = .ok (.ifCond .ne 5, 3) := by decide +kernel
theorem dX8_join_36 : decode cX8_join 36 = .ok (.iconst (-1), 1) := by decide +kernel
theorem dX8_join_37 : decode cX8_join 37 = .ok (.ireturn, 1) := by decide +kernel
theorem dX8_join_38 : decode cX8_join 38 = .ok (.aload_n 0, 1) := by decide +kernel
theorem dX8_join_39 : decode cX8_join 39 = .ok (.getfield 10, 3) := by decide +kernel
theorem dX8_join_42 : decode cX8_join 42 = .ok (.iload_n 1, 1) := by decide +kernel
theorem dX8_join_43 : decode cX8_join 43 = .ok (.iload_n 2, 1) := by decide +kernel
theorem dX8_join_44 : decode cX8_join 44 = .ok (.invokevirtual 77, 3) := by decide +kernel
theorem dX8_join_47 : decode cX8_join 47 = .ok (.invokestatic 81, 3) := by decide +kernel
theorem dX8_join_50 : decode cX8_join 50 = .ok (.istore 4, 2) := by decide +kernel
theorem dX8_join_52 : decode cX8_join 52 = .ok (.aload_n 0, 1) := by decide +kernel
theorem dX8_join_53 : decode cX8_join 53 = .ok (.getfield 10, 3) := by decide +kernel
theorem dX8_join_56 : decode cX8_join 56 = .ok (.iload_n 1, 1) := by decide +kernel
theorem dX8_join_57 : decode cX8_join 57 = .ok (.iload_n 2, 1) := by decide +kernel
theorem dX8_join_58 : decode cX8_join 58 = .ok (.iload_n 3, 1) := by decide +kernel
theorem dX8_join_59 : decode cX8_join 59 = .ok (.iconst 1, 1) := by decide +kernel
theorem dX8_join_60 : decode cX8_join 60 = .ok (.if_icmp .ne 7, 3) := by decide +kernel
theorem dX8_join_63 : decode cX8_join 63 = .ok (.iconst 1, 1) := by decide +kernel
theorem dX8_join_64 : decode cX8_join 64 = .ok (.goto 4, 3) := by decide +kernel
theorem dX8_join_67 : decode cX8_join 67 = .ok (.iconst 0, 1) := by decide +kernel
theorem dX8_join_68 : decode cX8_join 68 = .ok (.invokevirtual 85, 3) := by decide +kernel
theorem dX8_join_71 : decode cX8_join 71 = .ok (.iload 4, 2) := by decide +kernel
theorem dX8_join_73 : decode cX8_join 73 = .ok (.ireturn, 1) := by decide +kernel
set_option maxRecDepth 20000 in
theorem ggX8_shape_X8_isWithin : GoodIn wsX8_shape wsX8_isWithin := goodIn_r _ [5] (by decide +kernel) (by decide +kernel)
set_option maxRecDepth 20000 in
theorem gX8_shape_X8_isWithin : GoodIn wsX8_shape (va_wsS RX8 62 yX8_isWithin wsX8_isWithin) := goodIn_app (goodIn_of _ (by decide +kernel)) ggX8_shape_X8_isWithin
set_option maxRecDepth 20000 in
theorem ggX8_shape_X3_form : GoodIn wsX8_shape wsX3_form := goodIn_r _ [10, 11, 12, 13, 14, 9, 15, 16, 17, 18, 19, 20, 21, 22, 23, 24, 25, 26, 27, 28, 29, 30, 31, 32, 52, 53] (by decide +kernel) (by decide +kernel)
set_option maxRecDepth 20000 in
theorem gX8_shape_X3_form : GoodIn wsX8_shape (wsV RX8 89 RX3 yX3_form wsX3_form) := goodIn_app (goodIn_of _ (by decide +kernel)) ggX8_shape_X3_form
set_option maxRecDepth 20000 in
theorem ggX8_shape_X3_pairs : GoodIn wsX8_shape wsX3_pairs := goodIn_r _ [36, 11, 16, 37, 38, 39, 40, 41, 42, 43, 52, 53] (by decide +kernel) (by decide +kernel)
set_option maxRecDepth 20000 in
theorem gX8_shape_X3_pairs : GoodIn wsX8_shape (wsV RX8 92 RX3 yX3_pairs wsX3_pairs) := goodIn_app (goodIn_of _ (by decide +kernel)) ggX8_shape_X3_pairs
theorem dX8_shape_0 : decode cX8_shape 0 = .ok (.iload_n 1, 1) := by decide +kernel
theorem dX8_shape_1 : decode cX8_shape 1 = .ok (.iconst 0, 1) := by decide +kernel
theorem dX8_shape_2 : decode cX8_shape 2 = .ok (.iconst 3, 1) := by decide +kernel
theorem dX8_shape_3 : decode cX8_shape 3 = .ok (.invokestatic 62, 3) := by decide +kernel
theorem dX8_shape_6 : decode cX8_shape 6 = .ok (.ifCond .ne 5, 3) := by decide +kernel
theorem dX8_shape_9 : decode cX8_shape 9 = .ok (.iconst (-1), 1) := by decide +kernel
theorem dX8_shape_10 : decode cX8_shape 10 = .ok (.ireturn, 1) := by decide +kernel
theorem dX8_shape_11 : decode cX8_shape 11 = .ok (.aload_n 0, 1) := by decide +kernel
theorem dX8_shape_12 : decode cX8_shape 12 = .ok (.getfield 10, 3) := by decide +kernel
theorem dX8_shape_15 : decode cX8_shape 15 = .ok (.iload_n 1, 1) := by decide +kernel
theorem dX8_shape_16 : decode cX8_shape 16 = .ok (.invokevirtual 89, 3) := by decide +kernel
theorem dX8_shape_19 : decode cX8_shape 19 = .ok (.aload_n 0, 1) := by decide +kernel
theorem dX8_shape_20 : decode cX8_shape 20 = .ok (.getfield 10, 3) := by decide +kernel
theorem dX8_shape_23 : decode cX8_shape 23 = .ok (.invokevirtual 92, 3) := by decide +kernel
theorem dX8_shape_26 : decode cX8_shape 26 = .ok (.ireturn, 1) := by decide +kernel
set_option maxRecDepth 20000 in
theorem ggX8_set_X8_isWithin : GoodIn wsX8_set wsX8_isWithin := goodIn_r _ [7] (by decide +kernel) (by decide +kernel)
set_option maxRecDepth 20000 in
theorem gX8_set_X8_isWithin : GoodIn wsX8_set (va_wsS RX8 62 yX8_isWithin wsX8_isWithin) := goodIn_app (goodIn_of _ (by decide +kernel)) ggX8_set_X8_isWithin
theorem dX8_set_0 : decode cX8_set 0 = .ok (.iload_n 1, 1) := by decide +kernel
theorem dX8_set_1 : decode cX8_set 1 = .ok (.iconst 2, 1) := by decide +kernel
theorem dX8_set_2 : decode cX8_set 2 = .ok (.if_icmp .ne 7, 3) := by decide +kernel
theorem dX8_set_5 : decode cX8_set 5 = .ok (.iconst 1, 1) := by decide +kernel
theorem dX8_set_6 : decode cX8_set 6 = .ok (.goto 4, 3) := by decide +kernel
theorem dX8_set_9 : decode cX8_set 9 = .ok (.iconst 0, 1) := by decide +kernel
theorem dX8_set_10 : decode cX8_set 10 = .ok (.istore_n 3, 1) := by decide +kernel
theorem dX8_set_11 : decode cX8_set 11 = .ok (.iload_n 3, 1) := by decide +kernel
theorem dX8_set_12 : decode cX8_set 12 = .ok (.ifCond .eq 7, 3) := by decide +kernel
theorem dX8_set_15 : decode cX8_set 15 = .ok (.iconst 1, 1) := by decide +kernel
theorem dX8_set_16 : decode cX8_set 16 = .ok (.goto 4, 3) := by decide +kernel
theorem dX8_set_19 : decode cX8_set 19 = .ok (.iconst 0, 1) := by decide +kernel
theorem dX8_set_20 : decode cX8_set 20 = .ok (.istore 4, 2) := by decide +kernel
theorem dX8_set_22 : decode cX8_set 22 = .ok (.iload_n 3, 1) := by decide +kernel
theorem dX8_set_23 : decode cX8_set 23 = .ok (.ifCond .eq 7, 3) := by decide +kernel
theorem dX8_set_26 : decode cX8_set 26 = .ok (.iconst 4, 1) := by decide +kernel
theorem dX8_set_27 : decode cX8_set 27 = .ok (.goto 5, 3) := by decide +kernel
theorem dX8_set_30 : decode cX8_set 30 = .ok (.bipush 9, 2) := by decide +kernel
theorem dX8_set_32 : decode cX8_set 32 = .ok (.istore 5, 2) := by decide +kernel
theorem dX8_set_34 : decode cX8_set 34 = .ok (.iload_n 1, 1) := by decide +kernel
theorem dX8_set_35 : decode cX8_set 35 = .ok (.iconst 0, 1) := by decide +kernel
theorem dX8_set_36 : decode cX8_set 36 = .ok (.iconst 2, 1) := by decide +kernel
theorem dX8_set_37 : decode cX8_set 37 = .ok (.invokestatic 62, 3) := by decide +kernel
theorem dX8_set_40 : decode cX8_set 40 = .ok (.ifCond .eq 14, 3) := by decide +kernel
theorem dX8_set_43 : decode cX8_set 43 = .ok (.iload_n 2, 1) := by decide +kernel
theorem dX8_set_44 : decode cX8_set 44 = .ok (.iload 4, 2) := by decide +kernel
theorem dX8_set_46 : decode cX8_set 46 = .ok (.iload 5, 2) := by decide +kernel
theorem dX8_set_48 : decode cX8_set 48 = .ok (.invokestatic 62, 3) := by decide +kernel
theorem dX8_set_51 : decode cX8_set 51 = .ok (.ifCond .ne 5, 3) := by decide +kernel
theorem dX8_set_54 : decode cX8_set 54 = .ok (.iconst (-1), 1) := by decide +kernel
theorem dX8_set_55 : decode cX8_set 55 = .ok (.ireturn, 1) := by decide +kernel
theorem dX8_set_56 : decode cX8_set 56 = .ok (.iload_n 3, 1) := by decide +kernel
theorem dX8_set_57 : decode cX8_set 57 = .ok (.ifCond .eq 17, 3) := by decide +kernel
theorem dX8_set_60 : decode cX8_set 60 = .ok (.aload_n 0, 1) := by decide +kernel
theorem dX8_set_61 : decode cX8_set 61 = .ok (.getfield 59, 3) := by decide +kernel
theorem dX8_set_64 : decode cX8_set 64 = .ok (.istore 6, 2) := by decide +kernel
theorem dX8_set_66 : decode cX8_set 66 = .ok (.aload_n 0, 1) := by decide +kernel
theorem dX8_set_67 : decode cX8_set 67 = .ok (.iload_n 2, 1) := by decide +kernel
theorem dX8_set_68 : decode cX8_set 68 = .ok (.putfield 59, 3) := by decide +kernel
theorem dX8_set_71 : decode cX8_set 71 = .ok (.goto 33, 3) := by decide +kernel
theorem dX8_set_74 : decode cX8_set 74 = .ok (.iload_n 1, 1) := by decide +kernel
theorem dX8_set_75 : decode cX8_set 75 = .ok (.iconst 1, 1) := by decide +kernel
theorem dX8_set_76 : decode cX8_set 76 = .ok (.if_icmp .ne 17, 3) := by decide +kernel
theorem dX8_set_79 : decode cX8_set 79 = .ok (.aload_n 0, 1) := by decide +kernel
theorem dX8_set_80 : decode cX8_set 80 = .ok (.getfield 56, 3) := by decide +kernel
theorem dX8_set_83 : decode cX8_set 83 = .ok (.istore 6, 2) := by decide +kernel
theorem dX8_set_85 : decode cX8_set 85 = .ok (.aload_n 0, 1) := by decide +kernel
theorem dX8_set_86 : decode cX8_set 86 = .ok (.iload_n 2, 1) := by decide +kernel
theorem dX8_set_87 : decode cX8_set 87 = .ok (.putfield 56, 3) := by decide +kernel
theorem dX8_set_90 : decode cX8_set 90 = .ok (.goto 14, 3) := by decide +kernel
theorem dX8_set_93 : decode cX8_set 93 = .ok (.aload_n 0, 1) := by decide +kernel
theorem dX8_set_94 : decode cX8_set 94 = .ok (.getfield 52, 3) := by decide +kernel
theorem dX8_set_97 : decode cX8_set 97 = .ok (.istore 6, 2) := by decide +kernel
theorem dX8_set_99 : decode cX8_set 99 = .ok (.aload_n 0, 1) := by decide +kernel
theorem dX8_set_100 : decode cX8_set 100 = .ok (.iload_n 2, 1) := by decide +kernel
theorem dX8_set_101 : decode cX8_set 101 = .ok (.putfield 52, 3) := by decide +kernel
theorem dX8_set_104 : decode cX8_set 104 = .ok (.iload 6, 2) := by decide +kernel
theorem dX8_set_106 : decode cX8_set 106 = .ok (.ireturn, 1) := by decide +kernel
set_option maxRecDepth 20000 in
theorem ggX8_lawful_X8_isKind : GoodIn wsX8_lawful wsX8_isKind := goodIn_r _ [5, 6, 7, 4, 8] (by decide +kernel) (by decide +kernel)
set_option maxRecDepth 20000 in
theorem gX8_lawful_X8_isKind : GoodIn wsX8_lawful (va_wsS RX8 96 yX8_isKind wsX8_isKind) := goodIn_app (goodIn_of _ (by decide +kernel)) ggX8_lawful_X8_isKind
set_option maxRecDepth 20000 in
theorem ggX8_lawful_X3_hasSet : GoodIn wsX8_lawful wsX3_hasSet := goodIn_r _ [13, 14, 15, 16, 12, 17, 18, 43, 44] (by decide +kernel) (by decide +kernel)
set_option maxRecDepth 20000 in
theorem gX8_lawful_X3_hasSet : GoodIn wsX8_lawful (wsV RX8 99 RX3 yX3_hasSet wsX3_hasSet) := goodIn_app (goodIn_of _ (by decide +kernel)) ggX8_lawful_X3_hasSet
set_option maxRecDepth 20000 in
theorem ggX8_lawful_X3_isLawful : GoodIn wsX8_lawful wsX3_isLawful := goodIn_r _ [22, 23, 24, 25, 12, 26, 18, 27, 14, 15, 16, 17, 28, 29, 30, 31, 43, 44] (by decide +kernel) (by decide +kernel)
set_option maxRecDepth 20000 in
theorem gX8_lawful_X3_isLawful : GoodIn wsX8_lawful (wsV RX8 102 RX3 yX3_isLawful wsX3_isLawful) := goodIn_app (goodIn_of _ (by decide +kernel)) ggX8_lawful_X3_isLawful
set_option maxRecDepth 20000 in
theorem ggX8_lawful_X8_asNumber : GoodIn wsX8_lawful wsX8_asNumber := goodIn_r _ [34] (by decide +kernel) (by decide +kernel)
set_option maxRecDepth 20000 in
theorem gX8_lawful_X8_asNumber : GoodIn wsX8_lawful (va_wsS RX8 81 yX8_asNumber wsX8_asNumber) := goodIn_app (goodIn_of _ (by decide +kernel)) ggX8_lawful_X8_asNumber
theorem dX8_lawful_0 : decode cX8_lawful 0 = .ok (.iload_n 1, 1) := by decide +kernel
theorem dX8_lawful_1 : decode cX8_lawful 1 = .ok (.invokestatic 96, 3) := by decide +kernel
theorem dX8_lawful_4 : decode cX8_lawful 4 = .ok (.ifCond .eq 14, 3) := by decide +kernel
theorem dX8_lawful_7 : decode cX8_lawful 7 = .ok (.aload_n 0, 1) := by decide +kernel
theorem dX8_lawful_8 : decode cX8_lawful 8 = .ok (.getfield 10, 3) := by decide +kernel
theorem dX8_lawful_11 : decode cX8_lawful 11 = .ok (.iload_n 2, 1) := by decide +kernel
theorem dX8_lawful_12 : decode cX8_lawful 12 = .ok (.invokevirtual 99, 3) := by decide +kernel
theorem dX8_lawful_15 : decode cX8_lawful 15 = .ok (.ifCond .ne 5, 3) := by decide +kernel
theorem dX8_lawful_18 : decode cX8_lawful 18 = .ok (.iconst (-1), 1) := by decide +kernel
theorem dX8_lawful_19 : decode cX8_lawful 19 = .ok (.ireturn, 1) := by decide +kernel
theorem dX8_lawful_20 : decode cX8_lawful 20 = .ok (.aload_n 0, 1) := by decide +kernel
theorem dX8_lawful_21 : decode cX8_lawful 21 = .ok (.getfield 10, 3) := by decide +kernel
theorem dX8_lawful_24 : decode cX8_lawful 24 = .ok (.iload_n 1, 1) := by decide +kernel
theorem dX8_lawful_25 : decode cX8_lawful 25 = .ok (.iload_n 2, 1) := by decide +kernel
theorem dX8_lawful_26 : decode cX8_lawful 26 = .ok (.invokevirtual 102, 3) := by decide +kernel
theorem dX8_lawful_29 : decode cX8_lawful 29 = .ok (.invokestatic 81, 3) := by decide +kernel
theorem dX8_lawful_32 : decode cX8_lawful 32 = .ok (.ireturn, 1) := by decide +kernel
