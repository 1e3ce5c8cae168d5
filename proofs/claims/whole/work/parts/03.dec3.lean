set_option maxRecDepth 20000 in
theorem ggX8_count_X8_isKind : GoodIn wsX8_count wsX8_isKind := goodIn_r _ [6, 7, 8, 5, 9] (by decide +kernel) (by decide +kernel)
set_option maxRecDepth 20000 in
theorem gX8_count_X8_isKind : GoodIn wsX8_count (va_wsS RX8 96 yX8_isKind wsX8_isKind) := goodIn_app (goodIn_of _ (by decide +kernel)) ggX8_count_X8_isKind
set_option maxRecDepth 20000 in
theorem ggX8_count_X8_isWithin : GoodIn wsX8_count wsX8_isWithin := goodIn_r _ [9] (by decide +kernel) (by decide +kernel)
set_option maxRecDepth 20000 in
theorem gX8_count_X8_isWithin : GoodIn wsX8_count (va_wsS RX8 62 yX8_isWithin wsX8_isWithin) := goodIn_app (goodIn_of _ (by decide +kernel)) ggX8_count_X8_isWithin
set_option maxRecDepth 20000 in
theorem ggX8_count_X3_all : GoodIn wsX8_count wsX3_all := goodIn_r _ [14, 15, 45, 46] (by decide +kernel) (by decide +kernel)
set_option maxRecDepth 20000 in
theorem gX8_count_X3_all : GoodIn wsX8_count (wsV RX8 105 RX3 yX3_all wsX3_all) := goodIn_app (goodIn_of _ (by decide +kernel)) ggX8_count_X3_all
set_option maxRecDepth 20000 in
theorem ggX8_count_J6_bitCount_0f7a4 : GoodIn wsX8_count wsJ6_bitCount_0f7a4 := goodIn_r _ [19, 20, 21, 22] (by decide +kernel) (by decide +kernel)
set_option maxRecDepth 20000 in
theorem gX8_count_J6_bitCount_0f7a4 : GoodIn wsX8_count (va_wsS RX8 108 yJ6_bitCount_0f7a4 wsJ6_bitCount_0f7a4) := goodIn_app (goodIn_of _ (by decide +kernel)) ggX8_count_J6_bitCount_0f7a4
set_option maxRecDepth 20000 in
theorem ggX8_count_X3_isLawful : GoodIn wsX8_count wsX3_isLawful := goodIn_r _ [26, 27, 28, 29, 13, 30, 15, 31, 32, 11, 12, 14, 33, 34, 35, 36, 45, 46] (by decide +kernel) (by decide +kernel)
set_option maxRecDepth 20000 in
theorem gX8_count_X3_isLawful : GoodIn wsX8_count (wsV RX8 102 RX3 yX3_isLawful wsX3_isLawful) := goodIn_app (goodIn_of _ (by decide +kernel)) ggX8_count_X3_isLawful
theorem dX8_count_0 : decode cX8_count 0 = .ok (.iload_n 1, 1) := by decide +kernel
theorem dX8_count_1 : decode cX8_count 1 = .ok (.invokestatic 96, 3) := by decide +kernel
theorem dX8_count_4 : decode cX8_count 4 = .ok (.ifCond .eq 18, 3) := by decide +kernel
theorem dX8_count_7 : decode cX8_count 7 = .ok (.iload_n 2, 1) := by decide +kernel
theorem dX8_count_8 : decode cX8_count 8 = .ok (.iconst (-1), 1) := by decide +kernel
theorem dX8_count_9 : decode cX8_count 9 = .ok (.aload_n 0, 1) := by decide +kernel
theorem dX8_count_10 : decode cX8_count 10 = .ok (.getfield 10, 3) := by decide +kernel
theorem dX8_count_13 : decode cX8_count 13 = .ok (.getfield 66, 3) := by decide +kernel
theorem dX8_count_16 : decode cX8_count 16 = .ok (.invokestatic 62, 3) := by decide +kernel
theorem dX8_count_19 : decode cX8_count 19 = .ok (.ifCond .ne 5, 3) := by decide +kernel
theorem dX8_count_22 : decode cX8_count 22 = .ok (.iconst (-1), 1) := by decide +kernel
theorem dX8_count_23 : decode cX8_count 23 = .ok (.ireturn, 1) := by decide +kernel
theorem dX8_count_24 : decode cX8_count 24 = .ok (.iconst 0, 1) := by decide +kernel
theorem dX8_count_25 : decode cX8_count 25 = .ok (.istore_n 3, 1) := by decide +kernel
theorem dX8_count_26 : decode cX8_count 26 = .ok (.iconst 0, 1) := by decide +kernel
theorem dX8_count_27 : decode cX8_count 27 = .ok (.istore 4, 2) := by decide +kernel
theorem dX8_count_29 : decode cX8_count 29 = .ok (.iload 4, 2) := by decide +kernel
theorem dX8_count_31 : decode cX8_count 31 = .ok (.aload_n 0, 1) := by decide +kernel
theorem dX8_count_32 : decode cX8_count 32 = .ok (.getfield 10, 3) := by decide +kernel
theorem dX8_count_35 : decode cX8_count 35 = .ok (.invokevirtual 105, 3) := by decide +kernel
theorem dX8_count_38 : decode cX8_count 38 = .ok (.if_icmp .gt 51, 3) := by decide +kernel
theorem dX8_count_41 : decode cX8_count 41 = .ok (.iload_n 2, 1) := by decide +kernel
theorem dX8_count_42 : decode cX8_count 42 = .ok (.iconst (-1), 1) := by decide +kernel
theorem dX8_count_43 : decode cX8_count 43 = .ok (.if_icmp .eq 12, 3) := by decide +kernel
theorem dX8_count_46 : decode cX8_count 46 = .ok (.iload 4, 2) := by decide +kernel
theorem dX8_count_48 : decode cX8_count 48 = .ok (.invokestatic 108, 3) := by decide +kernel
theorem dX8_count_51 : decode cX8_count 51 = .ok (.iload_n 2, 1) := by decide +kernel
theorem dX8_count_52 : decode cX8_count 52 = .ok (.if_icmp .ne 7, 3) := by decide +kernel
theorem dX8_count_55 : decode cX8_count 55 = .ok (.iconst 1, 1) := by decide +kernel
theorem dX8_count_56 : decode cX8_count 56 = .ok (.goto 4, 3) := by decide +kernel
theorem dX8_count_59 : decode cX8_count 59 = .ok (.iconst 0, 1) := by decide +kernel
theorem dX8_count_60 : decode cX8_count 60 = .ok (.istore 5, 2) := by decide +kernel
theorem dX8_count_62 : decode cX8_count 62 = .ok (.iload 5, 2) := by decide +kernel
theorem dX8_count_64 : decode cX8_count 64 = .ok (.ifCond .eq 19, 3) := by decide +kernel
theorem dX8_count_67 : decode cX8_count 67 = .ok (.aload_n 0, 1) := by decide +kernel
theorem dX8_count_68 : decode cX8_count 68 = .ok (.getfield 10, 3) := by decide +kernel
theorem dX8_count_71 : decode cX8_count 71 = .ok (.iload_n 1, 1) := by decide +kernel
theorem dX8_count_72 : decode cX8_count 72 = .ok (.iload 4, 2) := by decide +kernel
theorem dX8_count_74 : decode cX8_count 74 = .ok (.invokevirtual 102, 3) := by decide +kernel
theorem dX8_count_77 : decode cX8_count 77 = .ok (.ifCond .eq 6, 3) := by decide +kernel
theorem dX8_count_80 : decode cX8_count 80 = .ok (.iinc 3 1, 3) := by decide +kernel
theorem dX8_count_83 : decode cX8_count 83 = .ok (.iinc 4 1, 3) := by decide +kernel
theorem dX8_count_86 : decode cX8_count 86 = .ok (.goto (-57), 3) := by decide +kernel
theorem dX8_count_89 : decode cX8_count 89 = .ok (.iload_n 3, 1) := by decide +kernel
theorem dX8_count_90 : decode cX8_count 90 = .ok (.ireturn, 1) := by decide +kernel
set_option maxRecDepth 20000 in
theorem ggX8_weight_X8_areMoves : GoodIn wsX8_weight wsX8_areMoves := goodIn_r _ [7, 8, 9, 6, 10] (by decide +kernel) (by decide +kernel)
set_option maxRecDepth 20000 in
theorem gX8_weight_X8_areMoves : GoodIn wsX8_weight (va_wsS RX8 114 yX8_areMoves wsX8_areMoves) := goodIn_app (goodIn_of _ (by decide +kernel)) ggX8_weight_X8_areMoves
set_option maxRecDepth 20000 in
theorem ggX8_weight_X3_hasSet : GoodIn wsX8_weight wsX3_hasSet := goodIn_r _ [15, 16, 17, 18, 14, 19, 20, 79, 80] (by decide +kernel) (by decide +kernel)
set_option maxRecDepth 20000 in
theorem gX8_weight_X3_hasSet : GoodIn wsX8_weight (wsV RX8 99 RX3 yX3_hasSet wsX3_hasSet) := goodIn_app (goodIn_of _ (by decide +kernel)) ggX8_weight_X3_hasSet
set_option maxRecDepth 20000 in
theorem ggX8_weight_X0_weigh : GoodIn wsX8_weight wsX0_weigh := goodIn_r _ [27, 28, 29, 30, 31, 32, 33, 34, 35, 36, 37, 38, 22, 39, 40, 41, 42, 43, 44, 45, 46, 47, 48, 49, 50, 51, 52, 53, 54, 55, 56, 57, 58, 59, 60, 14, 61, 62, 63, 64, 65, 66, 20, 67, 81, 79, 80] (by decide +kernel) (by decide +kernel)
set_option maxRecDepth 20000 in
theorem gX8_weight_X0_weigh_u117X0 : GoodIn wsX8_weight (va_wsO RX8 117 RX0 "SlidTokens$Slide" ⟨"SlidTokens$Slide", "weigh", "(LSlidTokens$Net;IILSlidTokens$Tally;)I"⟩ yX0_weigh wsX0_weigh) := goodIn_app (goodIn_of _ (by decide +kernel)) ggX8_weight_X0_weigh
set_option maxRecDepth 20000 in
theorem ggX8_weight_X1_weigh : GoodIn wsX8_weight wsX1_weigh := goodIn_r _ [35, 36, 37, 38, 22, 39, 40, 41, 42, 43, 44, 45, 46, 47, 48, 49, 50, 51, 52, 53, 54, 55, 56, 57, 58, 59, 60, 14, 61, 62, 63, 64, 65, 66, 20, 81, 79, 80] (by decide +kernel) (by decide +kernel)
set_option maxRecDepth 20000 in
theorem gX8_weight_X1_weigh_u117X1 : GoodIn wsX8_weight (va_wsO RX8 117 RX1 "SlidTokens$Slide" ⟨"SlidTokens$Slide", "weigh", "(LSlidTokens$Net;IILSlidTokens$Tally;)I"⟩ yX1_weigh wsX1_weigh) := goodIn_app (goodIn_of _ (by decide +kernel)) ggX8_weight_X1_weigh
set_option maxRecDepth 20000 in
theorem ggX8_weight_X6_weigh : GoodIn wsX8_weight wsX6_weigh := goodIn_r _ [42, 43, 44, 45, 41, 46, 47, 48, 49, 50, 51, 52, 53, 54, 55, 56, 57, 58, 59, 60, 14, 61, 62, 63, 64, 65, 66, 20, 81, 79, 80] (by decide +kernel) (by decide +kernel)
set_option maxRecDepth 20000 in
theorem gX8_weight_X6_weigh : GoodIn wsX8_weight (wsV RX8 117 RX6 yX6_weigh wsX6_weigh) := goodIn_app (goodIn_of _ (by decide +kernel)) ggX8_weight_X6_weigh
theorem dX8_weight_0 : decode cX8_weight 0 = .ok (.iload_n 1, 1) := by decide +kernel
theorem dX8_weight_1 : decode cX8_weight 1 = .ok (.invokestatic 114, 3) := by decide +kernel
theorem dX8_weight_4 : decode cX8_weight 4 = .ok (.ifCond .eq 25, 3) := by decide +kernel
theorem dX8_weight_7 : decode cX8_weight 7 = .ok (.aload_n 0, 1) := by decide +kernel
theorem dX8_weight_8 : decode cX8_weight 8 = .ok (.getfield 10, 3) := by decide +kernel
theorem dX8_weight_11 : decode cX8_weight 11 = .ok (.iload_n 2, 1) := by decide +kernel
theorem dX8_weight_12 : decode cX8_weight 12 = .ok (.invokevirtual 99, 3) := by decide +kernel
theorem dX8_weight_15 : decode cX8_weight 15 = .ok (.ifCond .eq 14, 3) := by decide +kernel
theorem dX8_weight_18 : decode cX8_weight 18 = .ok (.aload_n 0, 1) := by decide +kernel
theorem dX8_weight_19 : decode cX8_weight 19 = .ok (.getfield 10, 3) := by decide +kernel
theorem dX8_weight_22 : decode cX8_weight 22 = .ok (.iload_n 3, 1) := by decide +kernel
theorem dX8_weight_23 : decode cX8_weight 23 = .ok (.invokevirtual 99, 3) := by decide +kernel
theorem dX8_weight_26 : decode cX8_weight 26 = .ok (.ifCond .ne 5, 3) := by decide +kernel
theorem dX8_weight_29 : decode cX8_weight 29 = .ok (.iconst (-1), 1) := by decide +kernel
theorem dX8_weight_30 : decode cX8_weight 30 = .ok (.ireturn, 1) := by decide +kernel
theorem dX8_weight_31 : decode cX8_weight 31 = .ok (.aload_n 0, 1) := by decide +kernel
theorem dX8_weight_32 : decode cX8_weight 32 = .ok (.getfield 41, 3) := by decide +kernel
theorem dX8_weight_35 : decode cX8_weight 35 = .ok (.iload_n 1, 1) := by decide +kernel
theorem dX8_weight_36 : decode cX8_weight 36 = .ok (.aaload, 1) := by decide +kernel
theorem dX8_weight_37 : decode cX8_weight 37 = .ok (.aload_n 0, 1) := by decide +kernel
theorem dX8_weight_38 : decode cX8_weight 38 = .ok (.getfield 10, 3) := by decide +kernel
theorem dX8_weight_41 : decode cX8_weight 41 = .ok (.iload_n 2, 1) := by decide +kernel
theorem dX8_weight_42 : decode cX8_weight 42 = .ok (.iload_n 3, 1) := by decide +kernel
theorem dX8_weight_43 : decode cX8_weight 43 = .ok (.iconst (-1), 1) := by decide +kernel
theorem dX8_weight_44 : decode cX8_weight 44 = .ok (.ixor, 1) := by decide +kernel
theorem dX8_weight_45 : decode cX8_weight 45 = .ok (.iand, 1) := by decide +kernel
theorem dX8_weight_46 : decode cX8_weight 46 = .ok (.iload_n 3, 1) := by decide +kernel
theorem dX8_weight_47 : decode cX8_weight 47 = .ok (.iload_n 2, 1) := by decide +kernel
theorem dX8_weight_48 : decode cX8_weight 48 = .ok (.iconst (-1), 1) := by decide +kernel
theorem dX8_weight_49 : decode cX8_weight 49 = .ok (.ixor, 1) := by decide +kernel
theorem dX8_weight_50 : decode cX8_weight 50 = .ok (.iand, 1) := by decide +kernel
theorem dX8_weight_51 : decode cX8_weight 51 = .ok (.aload_n 0, 1) := by decide +kernel
theorem dX8_weight_52 : decode cX8_weight 52 = .ok (.getfield 48, 3) := by decide +kernel
theorem dX8_weight_55 : decode cX8_weight 55 = .ok (.invokevirtual 117, 3) := by decide +kernel
theorem dX8_weight_58 : decode cX8_weight 58 = .ok (.ireturn, 1) := by decide +kernel
set_option maxRecDepth 20000 in
theorem ggX8_walk_X8_isKind : GoodIn wsX8_walk wsX8_isKind := goodIn_r _ [5, 6, 7, 4, 8] (by decide +kernel) (by decide +kernel)
set_option maxRecDepth 20000 in
theorem gX8_walk_X8_isKind : GoodIn wsX8_walk (va_wsS RX8 96 yX8_isKind wsX8_isKind) := goodIn_app (goodIn_of _ (by decide +kernel)) ggX8_walk_X8_isKind
set_option maxRecDepth 20000 in
theorem ggX8_walk_X8_areMoves : GoodIn wsX8_walk wsX8_areMoves := goodIn_r _ [11, 6, 7, 4, 8] (by decide +kernel) (by decide +kernel)
set_option maxRecDepth 20000 in
theorem gX8_walk_X8_areMoves : GoodIn wsX8_walk (va_wsS RX8 114 yX8_areMoves wsX8_areMoves) := goodIn_app (goodIn_of _ (by decide +kernel)) ggX8_walk_X8_areMoves
set_option maxRecDepth 20000 in
theorem ggX8_walk_X8_isWithin : GoodIn wsX8_walk wsX8_isWithin := goodIn_r _ [8] (by decide +kernel) (by decide +kernel)
set_option maxRecDepth 20000 in
theorem gX8_walk_X8_isWithin : GoodIn wsX8_walk (va_wsS RX8 62 yX8_isWithin wsX8_isWithin) := goodIn_app (goodIn_of _ (by decide +kernel)) ggX8_walk_X8_isWithin
set_option maxRecDepth 20000 in
theorem ggX8_walk_X8_isLawfulSet : GoodIn wsX8_walk wsX8_isLawfulSet := goodIn_r _ [15, 16, 17, 18, 19, 20, 21, 22, 23, 24, 25, 26, 27, 28, 29, 30, 31, 32, 33, 34, 35, 36, 37, 38, 39, 158, 159, 160, 161, 162, 163, 164, 165, 166, 167] (by decide +kernel) (by decide +kernel)
set_option maxRecDepth 20000 in
theorem gX8_walk_X8_isLawfulSet : GoodIn wsX8_walk (wsV RX8 121 RX8 yX8_isLawfulSet wsX8_isLawfulSet) := goodIn_app (goodIn_of _ (by decide +kernel)) ggX8_walk_X8_isLawfulSet
set_option maxRecDepth 20000 in
theorem ggX8_walk_X8_begin : GoodIn wsX8_walk wsX8_begin := goodIn_r _ [43, 1, 44, 45, 46, 47, 48, 49, 50, 51, 52, 53, 54, 55, 56, 57, 58, 59, 23, 24, 20, 25, 26, 60, 61, 62, 63, 64, 65, 66, 7, 4, 8, 67, 28, 29, 30, 31, 32, 33, 34, 35, 22, 36, 37, 38, 39, 158, 159, 160, 161, 162, 163, 164, 165, 168, 169, 170, 171, 172, 173, 174, 175, 176, 177, 178, 179, 180, 181, 182, 183, 184, 185, 166, 167] (by decide +kernel) (by decide +kernel)
set_option maxRecDepth 20000 in
theorem gX8_walk_X8_begin : GoodIn wsX8_walk (wsV RX8 124 RX8 yX8_begin wsX8_begin) := goodIn_app (goodIn_of _ (by decide +kernel)) ggX8_walk_X8_begin
set_option maxRecDepth 20000 in
theorem ggX8_walk_X5_fewest : GoodIn wsX8_walk wsX5_fewest := goodIn_r _ [73, 74, 75, 76, 77, 78, 72, 79, 80, 81, 82, 83, 84, 85, 86, 87, 88, 89, 90, 91, 92, 93, 94, 95, 96, 97, 98, 99, 100, 49, 101, 102, 103, 52, 104, 51, 105, 106, 107, 108, 109, 59, 23, 24, 20, 25, 26, 110, 111, 112, 113, 114, 115, 116, 117, 118, 119, 120, 121, 122, 123, 124, 125, 126, 127, 128, 168, 169, 170, 171, 172, 173, 174, 175, 176, 177, 178, 179, 180, 181, 182, 183, 184, 185, 166, 167] (by decide +kernel) (by decide +kernel)
set_option maxRecDepth 20000 in
theorem gX8_walk_X5_fewest_u128X2 : GoodIn wsX8_walk (va_wsU RX8 128 RX2 "SlidTokens$Search" ⟨"SlidTokens$Marks", "fewest", "(II)I"⟩ yX5_fewest wsX5_fewest) := goodIn_app (goodIn_of _ (by decide +kernel)) ggX8_walk_X5_fewest
set_option maxRecDepth 20000 in
theorem ggX8_walk_X2_following : GoodIn wsX8_walk wsX2_following := goodIn_r _ [132, 102, 103, 57, 58, 133, 134, 135, 69, 70, 71, 72, 73, 74, 75, 76, 77, 78, 79, 80, 81, 82, 83, 84, 85, 86, 87, 88, 89, 90, 91, 92, 93, 94, 95, 96, 97, 98, 99, 100, 49, 101, 52, 104, 51, 105, 106, 107, 108, 109, 59, 23, 24, 20, 25, 26, 110, 111, 112, 113, 114, 115, 116, 117, 118, 119, 120, 121, 122, 123, 124, 125, 126, 127, 128, 136, 137, 168, 169, 170, 171, 172, 173, 174, 175, 176, 177, 178, 179, 180, 181, 182, 183, 184, 185, 166, 167] (by decide +kernel) (by decide +kernel)
set_option maxRecDepth 20000 in
theorem gX8_walk_X2_following : GoodIn wsX8_walk (wsV RX8 132 RX2 yX2_following wsX2_following) := goodIn_app (goodIn_of _ (by decide +kernel)) ggX8_walk_X2_following
set_option maxRecDepth 20000 in
theorem ggX8_walk_X2_lightest : GoodIn wsX8_walk wsX2_lightest := goodIn_r _ [141, 57, 58, 135, 69, 70, 71, 72, 73, 74, 75, 76, 77, 78, 79, 80, 81, 82, 83, 84, 85, 86, 87, 88, 89, 90, 91, 92, 93, 94, 95, 96, 97, 98, 99, 100, 49, 101, 102, 103, 52, 104, 51, 105, 106, 107, 108, 109, 59, 23, 24, 20, 25, 26, 110, 111, 112, 113, 114, 115, 116, 117, 118, 119, 120, 121, 122, 123, 124, 125, 126, 127, 128, 142, 143, 144, 145, 55, 56, 146, 147, 148, 149, 150, 151, 53, 54, 136, 137, 152, 153, 154, 155, 133, 134, 156, 157, 168, 169, 170, 171, 172, 173, 174, 175, 176, 177, 178, 179, 180, 181, 182, 183, 184, 185, 166, 167] (by decide +kernel) (by decide +kernel)
set_option maxRecDepth 20000 in
theorem gX8_walk_X2_lightest : GoodIn wsX8_walk (wsV RX8 135 RX2 yX2_lightest wsX2_lightest) := goodIn_app (goodIn_of _ (by decide +kernel)) ggX8_walk_X2_lightest
theorem dX8_walk_0 : decode cX8_walk 0 = .ok (.iload_n 1, 1) := by decide +kernel
theorem dX8_walk_1 : decode cX8_walk 1 = .ok (.invokestatic 96, 3) := by decide +kernel
theorem dX8_walk_4 : decode cX8_walk 4 = .ok (.ifCond .eq 20, 3) := by decide +kernel
theorem dX8_walk_7 : decode cX8_walk 7 = .ok (.iload_n 2, 1) := by decide +kernel
theorem dX8_walk_8 : decode cX8_walk 8 = .ok (.invokestatic 114, 3) := by decide +kernel
theorem dX8_walk_11 : decode cX8_walk 11 = .ok (.ifCond .eq 13, 3) := by decide +kernel
theorem dX8_walk_14 : decode cX8_walk 14 = .ok (.iload 5, 2) := by decide +kernel
theorem dX8_walk_16 : decode cX8_walk 16 = .ok (.iconst 0, 1) := by decide +kernel
theorem dX8_walk_17 : decode cX8_walk 17 = .ok (.iconst 2, 1) := by decide +kernel
theorem dX8_walk_18 : decode cX8_walk 18 = .ok (.invokestatic 62, 3) := by decide +kernel
theorem dX8_walk_21 : decode cX8_walk 21 = .ok (.ifCond .ne 5, 3) := by decide +kernel
theorem dX8_walk_24 : decode cX8_walk 24 = .ok (.iconst (-1), 1) := by decide +kernel
theorem dX8_walk_25 : decode cX8_walk 25 = .ok (.ireturn, 1) := by decide +kernel
theorem dX8_walk_26 : decode cX8_walk 26 = .ok (.aload_n 0, 1) := by decide +kernel
theorem dX8_walk_27 : decode cX8_walk 27 = .ok (.iload_n 1, 1) := by decide +kernel
theorem dX8_walk_28 : decode cX8_walk 28 = .ok (.iload_n 3, 1) := by decide +kernel
theorem dX8_walk_29 : decode cX8_walk 29 = .ok (.invokevirtual 121, 3) := by decide +kernel
theorem dX8_walk_32 : decode cX8_walk 32 = .ok (.ifCond .eq 13, 3) := by decide +kernel
theorem dX8_walk_35 : decode cX8_walk 35 = .ok (.aload_n 0, 1) := by decide +kernel
theorem dX8_walk_36 : decode cX8_walk 36 = .ok (.iload_n 1, 1) := by decide +kernel
theorem dX8_walk_37 : decode cX8_walk 37 = .ok (.iload 4, 2) := by decide +kernel
theorem dX8_walk_39 : decode cX8_walk 39 = .ok (.invokevirtual 121, 3) := by decide +kernel
theorem dX8_walk_42 : decode cX8_walk 42 = .ok (.ifCond .ne 5, 3) := by decide +kernel
theorem dX8_walk_45 : decode cX8_walk 45 = .ok (.iconst (-1), 1) := by decide +kernel
theorem dX8_walk_46 : decode cX8_walk 46 = .ok (.ireturn, 1) := by decide +kernel
theorem dX8_walk_47 : decode cX8_walk 47 = .ok (.aload_n 0, 1) := by decide +kernel
theorem dX8_walk_48 : decode cX8_walk 48 = .ok (.iload_n 1, 1) := by decide +kernel
theorem dX8_walk_49 : decode cX8_walk 49 = .ok (.iload_n 2, 1) := by decide +kernel
theorem dX8_walk_50 : decode cX8_walk 50 = .ok (.invokevirtual 124, 3) := by decide +kernel
theorem dX8_walk_53 : decode cX8_walk 53 = .ok (.iload 5, 2) := by decide +kernel
theorem dX8_walk_55 : decode cX8_walk 55 = .ok (.lookupswitch 47 #[(0, 25), (1, 36)], 25) := by decide +kernel
theorem dX8_walk_80 : decode cX8_walk 80 = .ok (.aload_n 0, 1) := by decide +kernel
theorem dX8_walk_81 : decode cX8_walk 81 = .ok (.getfield 21, 3) := by decide +kernel
theorem dX8_walk_84 : decode cX8_walk 84 = .ok (.iload_n 3, 1) := by decide +kernel
theorem dX8_walk_85 : decode cX8_walk 85 = .ok (.iload 4, 2) := by decide +kernel
theorem dX8_walk_87 : decode cX8_walk 87 = .ok (.invokevirtual 128, 3) := by decide +kernel
theorem dX8_walk_90 : decode cX8_walk 90 = .ok (.ireturn, 1) := by decide +kernel
theorem dX8_walk_91 : decode cX8_walk 91 = .ok (.aload_n 0, 1) := by decide +kernel
theorem dX8_walk_92 : decode cX8_walk 92 = .ok (.getfield 21, 3) := by decide +kernel
theorem dX8_walk_95 : decode cX8_walk 95 = .ok (.iload_n 3, 1) := by decide +kernel
theorem dX8_walk_96 : decode cX8_walk 96 = .ok (.iload 4, 2) := by decide +kernel
theorem dX8_walk_98 : decode cX8_walk 98 = .ok (.invokevirtual 132, 3) := by decide +kernel
theorem dX8_walk_101 : decode cX8_walk 101 = .ok (.ireturn, 1) := by decide +kernel
theorem dX8_walk_102 : decode cX8_walk 102 = .ok (.aload_n 0, 1) := by decide +kernel
theorem dX8_walk_103 : decode cX8_walk 103 = .ok (.getfield 21, 3) := by decide +kernel
theorem dX8_walk_106 : decode cX8_walk 106 = .ok (.iload_n 3, 1) := by decide +kernel
theorem dX8_walk_107 : decode cX8_walk 107 = .ok (.iload 4, 2) := by decide +kernel
theorem dX8_walk_109 : decode cX8_walk 109 = .ok (.invokevirtual 135, 3) := by decide +kernel
theorem dX8_walk_112 : decode cX8_walk 112 = .ok (.ireturn, 1) := by decide +kernel
set_option maxRecDepth 20000 in
theorem ggX8_reach_X8_isKind : GoodIn wsX8_reach wsX8_isKind := goodIn_r _ [7, 8, 9, 6, 10] (by decide +kernel) (by decide +kernel)
set_option maxRecDepth 20000 in
theorem gX8_reach_X8_isKind : GoodIn wsX8_reach (va_wsS RX8 96 yX8_isKind wsX8_isKind) := goodIn_app (goodIn_of _ (by decide +kernel)) ggX8_reach_X8_isKind
set_option maxRecDepth 20000 in
theorem ggX8_reach_X8_areMoves : GoodIn wsX8_reach wsX8_areMoves := goodIn_r _ [13, 8, 9, 6, 10] (by decide +kernel) (by decide +kernel)
set_option maxRecDepth 20000 in
theorem gX8_reach_X8_areMoves : GoodIn wsX8_reach (va_wsS RX8 114 yX8_areMoves wsX8_areMoves) := goodIn_app (goodIn_of _ (by decide +kernel)) ggX8_reach_X8_areMoves
set_option maxRecDepth 20000 in
theorem ggX8_reach_X8_isWithin : GoodIn wsX8_reach wsX8_isWithin := goodIn_r _ [10] (by decide +kernel) (by decide +kernel)
set_option maxRecDepth 20000 in
theorem gX8_reach_X8_isWithin : GoodIn wsX8_reach (va_wsS RX8 62 yX8_isWithin wsX8_isWithin) := goodIn_app (goodIn_of _ (by decide +kernel)) ggX8_reach_X8_isWithin
set_option maxRecDepth 20000 in
theorem ggX8_reach_X8_isLawfulSet : GoodIn wsX8_reach wsX8_isLawfulSet := goodIn_r _ [17, 18, 19, 20, 21, 22, 23, 24, 25, 26, 27, 28, 29, 30, 31, 32, 33, 34, 35, 36, 37, 38, 39, 40, 41, 134, 135, 136, 137, 138, 139, 140, 141, 160, 161] (by decide +kernel) (by decide +kernel)
set_option maxRecDepth 20000 in
theorem gX8_reach_X8_isLawfulSet : GoodIn wsX8_reach (wsV RX8 121 RX8 yX8_isLawfulSet wsX8_isLawfulSet) := goodIn_app (goodIn_of _ (by decide +kernel)) ggX8_reach_X8_isLawfulSet
set_option maxRecDepth 20000 in
theorem ggX8_reach_X8_begin : GoodIn wsX8_reach wsX8_begin := goodIn_r _ [45, 1, 46, 47, 48, 49, 50, 51, 52, 53, 54, 55, 56, 57, 3, 58, 59, 60, 25, 26, 22, 27, 28, 61, 62, 63, 64, 65, 66, 67, 9, 6, 10, 68, 30, 31, 32, 33, 34, 35, 36, 37, 24, 38, 39, 40, 41, 134, 135, 136, 137, 138, 139, 140, 141, 142, 143, 144, 145, 146, 147, 148, 149, 150, 151, 152, 153, 154, 155, 156, 157, 158, 159, 160, 161] (by decide +kernel) (by decide +kernel)
set_option maxRecDepth 20000 in
theorem gX8_reach_X8_begin : GoodIn wsX8_reach (wsV RX8 124 RX8 yX8_begin wsX8_begin) := goodIn_app (goodIn_of _ (by decide +kernel)) ggX8_reach_X8_begin
set_option maxRecDepth 20000 in
theorem ggX8_reach_X5_spread : GoodIn wsX8_reach wsX5_spread := goodIn_r _ [74, 75, 76, 77, 78, 79, 80, 81, 82, 83, 73, 84, 85, 86, 87, 88, 89, 90, 91, 92, 93, 94, 95, 96, 51, 97, 98, 99, 54, 100, 53, 101, 102, 103, 104, 105, 60, 25, 26, 22, 27, 28, 106, 107, 108, 109, 110, 111, 112, 113, 114, 115, 116, 117, 118, 119, 120, 121, 122, 123, 142, 143, 144, 145, 146, 147, 148, 149, 150, 151, 152, 153, 154, 155, 156, 157, 158, 159, 160, 161] (by decide +kernel) (by decide +kernel)
set_option maxRecDepth 20000 in
theorem gX8_reach_X5_spread_u138X2 : GoodIn wsX8_reach (va_wsU RX8 138 RX2 "SlidTokens$Search" ⟨"SlidTokens$Marks", "spread", "(II)V"⟩ yX5_spread wsX5_spread) := goodIn_app (goodIn_of _ (by decide +kernel)) ggX8_reach_X5_spread
set_option maxRecDepth 20000 in
theorem ggX8_reach_X2_frozen : GoodIn wsX8_reach wsX2_frozen := goodIn_r _ [127, 54, 57, 3, 128, 129, 60, 25, 26, 22, 27, 28, 142, 143, 144, 145, 146, 147, 148, 149, 150, 151, 152, 153, 154, 155, 156, 157, 158, 159, 160, 161] (by decide +kernel) (by decide +kernel)
set_option maxRecDepth 20000 in
theorem gX8_reach_X2_frozen : GoodIn wsX8_reach (wsV RX8 144 RX2 yX2_frozen wsX2_frozen) := goodIn_app (goodIn_of _ (by decide +kernel)) ggX8_reach_X2_frozen
set_option maxRecDepth 20000 in
theorem ggX8_reach_X2_farthest : GoodIn wsX8_reach wsX2_farthest := goodIn_r _ [133, 57, 3, 58, 59, 128, 129, 142, 143, 144, 145, 146, 147, 148, 149, 150, 151, 152, 153, 154, 155, 156, 157, 158, 159] (by decide +kernel) (by decide +kernel)
set_option maxRecDepth 20000 in
theorem gX8_reach_X2_farthest : GoodIn wsX8_reach (wsV RX8 147 RX2 yX2_farthest wsX2_farthest) := goodIn_app (goodIn_of _ (by decide +kernel)) ggX8_reach_X2_farthest
theorem dX8_reach_0 : decode cX8_reach 0 = .ok (.iload_n 1, 1) := by decide +kernel
theorem dX8_reach_1 : decode cX8_reach 1 = .ok (.invokestatic 96, 3) := by decide +kernel
theorem dX8_reach_4 : decode cX8_reach 4 = .ok (.ifCond .eq 29, 3) := by decide +kernel
theorem dX8_reach_7 : decode cX8_reach 7 = .ok (.iload_n 2, 1) := by decide +kernel
theorem dX8_reach_8 : decode cX8_reach 8 = .ok (.invokestatic 114, 3) := by decide +kernel
theorem dX8_reach_11 : decode cX8_reach 11 = .ok (.ifCond .eq 22, 3) := by decide +kernel
theorem dX8_reach_14 : decode cX8_reach 14 = .ok (.iload 4, 2) := by decide +kernel
theorem dX8_reach_16 : decode cX8_reach 16 = .ok (.iconst 0, 1) := by decide +kernel
theorem dX8_reach_17 : decode cX8_reach 17 = .ok (.iconst 2, 1) := by decide +kernel
theorem dX8_reach_18 : decode cX8_reach 18 = .ok (.invokestatic 62, 3) := by decide +kernel
theorem dX8_reach_21 : decode cX8_reach 21 = .ok (.ifCond .eq 12, 3) := by decide +kernel
theorem dX8_reach_24 : decode cX8_reach 24 = .ok (.aload_n 0, 1) := by decide +kernel
theorem dX8_reach_25 : decode cX8_reach 25 = .ok (.iload_n 1, 1) := by decide +kernel
theorem dX8_reach_26 : decode cX8_reach 26 = .ok (.iload_n 3, 1) := by decide +kernel
theorem dX8_reach_27 : decode cX8_reach 27 = .ok (.invokevirtual 121, 3) := by decide +kernel
theorem dX8_reach_30 : decode cX8_reach 30 = .ok (.ifCond .ne 5, 3) := by decide +kernel
theorem dX8_reach_33 : decode cX8_reach 33 = .ok (.iconst (-1), 1) := by decide +kernel
theorem dX8_reach_34 : decode cX8_reach 34 = .ok (.ireturn, 1) := by decide +kernel
theorem dX8_reach_35 : decode cX8_reach 35 = .ok (.aload_n 0, 1) := by decide +kernel
theorem dX8_reach_36 : decode cX8_reach 36 = .ok (.iload_n 1, 1) := by decide +kernel
theorem dX8_reach_37 : decode cX8_reach 37 = .ok (.iload_n 2, 1) := by decide +kernel
theorem dX8_reach_38 : decode cX8_reach 38 = .ok (.invokevirtual 124, 3) := by decide +kernel
theorem dX8_reach_41 : decode cX8_reach 41 = .ok (.aload_n 0, 1) := by decide +kernel
theorem dX8_reach_42 : decode cX8_reach 42 = .ok (.getfield 21, 3) := by decide +kernel
theorem dX8_reach_45 : decode cX8_reach 45 = .ok (.iload_n 3, 1) := by decide +kernel
theorem dX8_reach_46 : decode cX8_reach 46 = .ok (.iconst (-1), 1) := by decide +kernel
theorem dX8_reach_47 : decode cX8_reach 47 = .ok (.invokevirtual 138, 3) := by decide +kernel
theorem dX8_reach_50 : decode cX8_reach 50 = .ok (.iload 4, 2) := by decide +kernel
theorem dX8_reach_52 : decode cX8_reach 52 = .ok (.lookupswitch 44 #[(0, 28), (1, 36)], 28) := by decide +kernel
theorem dX8_reach_80 : decode cX8_reach 80 = .ok (.aload_n 0, 1) := by decide +kernel
theorem dX8_reach_81 : decode cX8_reach 81 = .ok (.getfield 21, 3) := by decide +kernel
theorem dX8_reach_84 : decode cX8_reach 84 = .ok (.getfield 141, 3) := by decide +kernel
theorem dX8_reach_87 : decode cX8_reach 87 = .ok (.ireturn, 1) := by decide +kernel
theorem dX8_reach_88 : decode cX8_reach 88 = .ok (.aload_n 0, 1) := by decide +kernel
theorem dX8_reach_89 : decode cX8_reach 89 = .ok (.getfield 21, 3) := by decide +kernel
theorem dX8_reach_92 : decode cX8_reach 92 = .ok (.invokevirtual 144, 3) := by decide +kernel
theorem dX8_reach_95 : decode cX8_reach 95 = .ok (.ireturn, 1) := by decide +kernel
theorem dX8_reach_96 : decode cX8_reach 96 = .ok (.aload_n 0, 1) := by decide +kernel
theorem dX8_reach_97 : decode cX8_reach 97 = .ok (.getfield 21, 3) := by decide +kernel
theorem dX8_reach_100 : decode cX8_reach 100 = .ok (.invokevirtual 147, 3) := by decide +kernel
theorem dX8_reach_103 : decode cX8_reach 103 = .ok (.ireturn, 1) := by decide +kernel
set_option maxRecDepth 20000 in
theorem ggX8_parts_X8_isKind : GoodIn wsX8_parts wsX8_isKind := goodIn_r _ [7, 8, 9, 6, 10] (by decide +kernel) (by decide +kernel)
set_option maxRecDepth 20000 in
theorem gX8_parts_X8_isKind : GoodIn wsX8_parts (va_wsS RX8 96 yX8_isKind wsX8_isKind) := goodIn_app (goodIn_of _ (by decide +kernel)) ggX8_parts_X8_isKind
set_option maxRecDepth 20000 in
theorem ggX8_parts_X8_areMoves : GoodIn wsX8_parts wsX8_areMoves := goodIn_r _ [13, 8, 9, 6, 10] (by decide +kernel) (by decide +kernel)
set_option maxRecDepth 20000 in
theorem gX8_parts_X8_areMoves : GoodIn wsX8_parts (va_wsS RX8 114 yX8_areMoves wsX8_areMoves) := goodIn_app (goodIn_of _ (by decide +kernel)) ggX8_parts_X8_areMoves
set_option maxRecDepth 20000 in
theorem ggX8_parts_X8_begin : GoodIn wsX8_parts wsX8_begin := goodIn_r _ [17, 1, 18, 19, 20, 21, 22, 23, 24, 25, 26, 27, 28, 29, 30, 31, 32, 33, 34, 35, 36, 37, 38, 39, 40, 41, 42, 43, 44, 45, 9, 6, 10, 46, 47, 48, 49, 50, 51, 52, 53, 54, 55, 56, 57, 58, 59, 121, 122, 123, 124, 125, 126, 127, 128, 131, 132, 133, 134, 135, 136, 137, 138, 139, 140, 141, 142, 143, 144, 145, 146, 147, 148, 129, 130] (by decide +kernel) (by decide +kernel)
set_option maxRecDepth 20000 in
theorem gX8_parts_X8_begin : GoodIn wsX8_parts (wsV RX8 124 RX8 yX8_begin wsX8_begin) := goodIn_app (goodIn_of _ (by decide +kernel)) ggX8_parts_X8_begin
set_option maxRecDepth 20000 in
theorem ggX8_parts_X5_components : GoodIn wsX8_parts wsX5_components := goodIn_r _ [65, 66, 67, 68, 69, 70, 71, 64, 72, 73, 74, 75, 76, 77, 78, 79, 80, 81, 82, 83, 84, 85, 86, 87, 88, 89, 90, 91, 92, 23, 93, 94, 95, 26, 96, 25, 97, 98, 99, 100, 101, 33, 34, 35, 36, 37, 38, 102, 103, 104, 105, 106, 107, 108, 109, 110, 111, 112, 113, 114, 115, 116, 117, 118, 119, 120, 131, 132, 133, 134, 135, 136, 137, 138, 139, 140, 141, 142, 143, 144, 145, 146, 147, 148, 129, 130] (by decide +kernel) (by decide +kernel)
set_option maxRecDepth 20000 in
theorem gX8_parts_X5_components_u150X2 : GoodIn wsX8_parts (va_wsU RX8 150 RX2 "SlidTokens$Search" ⟨"SlidTokens$Marks", "components", "()I"⟩ yX5_components wsX5_components) := goodIn_app (goodIn_of _ (by decide +kernel)) ggX8_parts_X5_components
set_option maxRecDepth 20000 in
theorem ggX8_parts_X8_isWithin : GoodIn wsX8_parts wsX8_isWithin := goodIn_r _ [10] (by decide +kernel) (by decide +kernel)
set_option maxRecDepth 20000 in
theorem gX8_parts_X8_isWithin : GoodIn wsX8_parts (va_wsS RX8 62 yX8_isWithin wsX8_isWithin) := goodIn_app (goodIn_of _ (by decide +kernel)) ggX8_parts_X8_isWithin
set_option maxRecDepth 20000 in
theorem ggX8_parts_X2_begin : GoodIn wsX8_parts wsX2_begin := goodIn_r _ [24, 25, 26, 27, 28, 29, 30, 31, 32, 33, 34, 35, 36, 37, 38, 39, 40, 41, 42, 43, 44, 45, 9, 6, 10, 46, 47, 48, 49, 50, 51, 52, 53, 54, 55, 56, 57, 58, 59, 131, 132, 133, 134, 135, 136, 137, 138, 139, 140, 141, 142, 143, 144, 145, 146, 147, 148, 129, 130] (by decide +kernel) (by decide +kernel)
set_option maxRecDepth 20000 in
theorem gX8_parts_X2_begin : GoodIn wsX8_parts (wsV RX8 153 RX2 yX2_begin wsX2_begin) := goodIn_app (goodIn_of _ (by decide +kernel)) ggX8_parts_X2_begin
theorem dX8_parts_0 : decode cX8_parts 0 = .ok (.iload_n 1, 1) := by decide +kernel
theorem dX8_parts_1 : decode cX8_parts 1 = .ok (.invokestatic 96, 3) := by decide +kernel
theorem dX8_parts_4 : decode cX8_parts 4 = .ok (.ifCond .eq 10, 3) := by decide +kernel
theorem dX8_parts_7 : decode cX8_parts 7 = .ok (.iload_n 2, 1) := by decide +kernel
theorem dX8_parts_8 : decode cX8_parts 8 = .ok (.invokestatic 114, 3) := by decide +kernel
theorem dX8_parts_11 : decode cX8_parts 11 = .ok (.ifCond .ne 5, 3) := by decide +kernel
theorem dX8_parts_14 : decode cX8_parts 14 = .ok (.iconst (-1), 1) := by decide +kernel
theorem dX8_parts_15 : decode cX8_parts 15 = .ok (.ireturn, 1) := by decide +kernel
theorem dX8_parts_16 : decode cX8_parts 16 = .ok (.iload_n 2, 1) := by decide +kernel
theorem dX8_parts_17 : decode cX8_parts 17 = .ok (.iconst 2, 1) := by decide +kernel
theorem dX8_parts_18 : decode cX8_parts 18 = .ok (.if_icmp .ne 17, 3) := by decide +kernel
theorem dX8_parts_21 : decode cX8_parts 21 = .ok (.aload_n 0, 1) := by decide +kernel
theorem dX8_parts_22 : decode cX8_parts 22 = .ok (.iload_n 1, 1) := by decide +kernel
theorem dX8_parts_23 : decode cX8_parts 23 = .ok (.iload_n 2, 1) := by decide +kernel
theorem dX8_parts_24 : decode cX8_parts 24 = .ok (.invokevirtual 124, 3) := by decide +kernel
theorem dX8_parts_27 : decode cX8_parts 27 = .ok (.aload_n 0, 1) := by decide +kernel
theorem dX8_parts_28 : decode cX8_parts 28 = .ok (.getfield 21, 3) := by decide +kernel
theorem dX8_parts_31 : decode cX8_parts 31 = .ok (.invokevirtual 150, 3) := by decide +kernel
theorem dX8_parts_34 : decode cX8_parts 34 = .ok (.ireturn, 1) := by decide +kernel
theorem dX8_parts_35 : decode cX8_parts 35 = .ok (.iload_n 3, 1) := by decide +kernel
theorem dX8_parts_36 : decode cX8_parts 36 = .ok (.iconst 0, 1) := by decide +kernel
theorem dX8_parts_37 : decode cX8_parts 37 = .ok (.aload_n 0, 1) := by decide +kernel
theorem dX8_parts_38 : decode cX8_parts 38 = .ok (.getfield 10, 3) := by decide +kernel
theorem dX8_parts_41 : decode cX8_parts 41 = .ok (.getfield 66, 3) := by decide +kernel
theorem dX8_parts_44 : decode cX8_parts 44 = .ok (.invokestatic 62, 3) := by decide +kernel
theorem dX8_parts_47 : decode cX8_parts 47 = .ok (.ifCond .ne 5, 3) := by decide +kernel
theorem dX8_parts_50 : decode cX8_parts 50 = .ok (.iconst (-1), 1) := by decide +kernel
theorem dX8_parts_51 : decode cX8_parts 51 = .ok (.ireturn, 1) := by decide +kernel
theorem dX8_parts_52 : decode cX8_parts 52 = .ok (.aload_n 0, 1) := by decide +kernel
theorem dX8_parts_53 : decode cX8_parts 53 = .ok (.getfield 21, 3) := by decide +kernel
theorem dX8_parts_56 : decode cX8_parts 56 = .ok (.iload_n 1, 1) := by decide +kernel
theorem dX8_parts_57 : decode cX8_parts 57 = .ok (.iload_n 2, 1) := by decide +kernel
theorem dX8_parts_58 : decode cX8_parts 58 = .ok (.iload_n 3, 1) := by decide +kernel
theorem dX8_parts_59 : decode cX8_parts 59 = .ok (.iload_n 3, 1) := by decide +kernel
theorem dX8_parts_60 : decode cX8_parts 60 = .ok (.invokevirtual 153, 3) := by decide +kernel
theorem dX8_parts_63 : decode cX8_parts 63 = .ok (.aload_n 0, 1) := by decide +kernel
theorem dX8_parts_64 : decode cX8_parts 64 = .ok (.getfield 21, 3) := by decide +kernel
theorem dX8_parts_67 : decode cX8_parts 67 = .ok (.invokevirtual 150, 3) := by decide +kernel
theorem dX8_parts_70 : decode cX8_parts 70 = .ok (.ireturn, 1) := by decide +kernel
set_option maxRecDepth 20000 in
theorem ggX8_proper_X4_isColouring : GoodIn wsX8_proper wsX4_isColouring := goodIn_r _ [9, 10, 11, 12, 13, 8, 14, 34, 35, 36, 37, 38, 39, 40, 41, 42, 32, 33] (by decide +kernel) (by decide +kernel)
set_option maxRecDepth 20000 in
theorem gX8_proper_X4_isColouring : GoodIn wsX8_proper (wsV RX8 156 RX4 yX4_isColouring wsX4_isColouring) := goodIn_app (goodIn_of _ (by decide +kernel)) ggX8_proper_X4_isColouring
set_option maxRecDepth 20000 in
theorem ggX8_proper_X4_differs : GoodIn wsX8_proper wsX4_differs := goodIn_r _ [18, 10, 11, 19, 12, 13, 8, 14, 34, 35, 36, 37, 38, 39, 40, 41, 42, 32, 33] (by decide +kernel) (by decide +kernel)
set_option maxRecDepth 20000 in
theorem gX8_proper_X4_differs : GoodIn wsX8_proper (wsV RX8 159 RX4 yX4_differs wsX4_differs) := goodIn_app (goodIn_of _ (by decide +kernel)) ggX8_proper_X4_differs
set_option maxRecDepth 20000 in
theorem ggX8_proper_X8_asNumber : GoodIn wsX8_proper wsX8_asNumber := goodIn_r _ [23] (by decide +kernel) (by decide +kernel)
set_option maxRecDepth 20000 in
theorem gX8_proper_X8_asNumber : GoodIn wsX8_proper (va_wsS RX8 81 yX8_asNumber wsX8_asNumber) := goodIn_app (goodIn_of _ (by decide +kernel)) ggX8_proper_X8_asNumber
theorem dX8_proper_0 : decode cX8_proper 0 = .ok (.aload_n 0, 1) := by decide +kernel
theorem dX8_proper_1 : decode cX8_proper 1 = .ok (.getfield 10, 3) := by decide +kernel
theorem dX8_proper_4 : decode cX8_proper 4 = .ok (.getfield 66, 3) := by decide +kernel
theorem dX8_proper_7 : decode cX8_proper 7 = .ok (.bipush 6, 2) := by decide +kernel
theorem dX8_proper_9 : decode cX8_proper 9 = .ok (.if_icmp .le 6, 3) := by decide +kernel
theorem dX8_proper_12 : decode cX8_proper 12 = .ok (.bipush (-2), 2) := by decide +kernel
theorem dX8_proper_14 : decode cX8_proper 14 = .ok (.ireturn, 1) := by decide +kernel
theorem dX8_proper_15 : decode cX8_proper 15 = .ok (.aload_n 0, 1) := by decide +kernel
theorem dX8_proper_16 : decode cX8_proper 16 = .ok (.getfield 28, 3) := by decide +kernel
theorem dX8_proper_19 : decode cX8_proper 19 = .ok (.iload_n 1, 1) := by decide +kernel
theorem dX8_proper_20 : decode cX8_proper 20 = .ok (.aload_n 0, 1) := by decide +kernel
theorem dX8_proper_21 : decode cX8_proper 21 = .ok (.getfield 59, 3) := by decide +kernel
theorem dX8_proper_24 : decode cX8_proper 24 = .ok (.invokevirtual 156, 3) := by decide +kernel
theorem dX8_proper_27 : decode cX8_proper 27 = .ok (.ifCond .ne 5, 3) := by decide +kernel
theorem dX8_proper_30 : decode cX8_proper 30 = .ok (.iconst (-1), 1) := by decide +kernel
theorem dX8_proper_31 : decode cX8_proper 31 = .ok (.ireturn, 1) := by decide +kernel
theorem dX8_proper_32 : decode cX8_proper 32 = .ok (.aload_n 0, 1) := by decide +kernel
theorem dX8_proper_33 : decode cX8_proper 33 = .ok (.getfield 28, 3) := by decide +kernel
theorem dX8_proper_36 : decode cX8_proper 36 = .ok (.iload_n 1, 1) := by decide +kernel
theorem dX8_proper_37 : decode cX8_proper 37 = .ok (.invokevirtual 159, 3) := by decide +kernel
theorem dX8_proper_40 : decode cX8_proper 40 = .ok (.invokestatic 81, 3) := by decide +kernel
theorem dX8_proper_43 : decode cX8_proper 43 = .ok (.ireturn, 1) := by decide +kernel
set_option maxRecDepth 20000 in
theorem ggX8_shades_X4_isLawful : GoodIn wsX8_shades wsX4_isLawful := goodIn_r _ [9, 10, 11, 12, 8, 13, 14, 15, 16, 17, 18, 19, 20, 21, 22, 23, 116, 117, 118, 119, 120, 121, 122, 123, 124, 114, 115] (by decide +kernel) (by decide +kernel)
set_option maxRecDepth 20000 in
theorem gX8_shades_X4_isLawful : GoodIn wsX8_shades (wsV RX8 162 RX4 yX4_isLawful wsX4_isLawful) := goodIn_app (goodIn_of _ (by decide +kernel)) ggX8_shades_X4_isLawful
set_option maxRecDepth 20000 in
theorem ggX8_shades_X4_begin : GoodIn wsX8_shades wsX4_begin := goodIn_r _ [27, 28, 14, 15, 29, 30, 31, 32, 33, 34, 35, 36, 37, 38, 39, 6, 7, 8, 9, 10, 11, 12, 13, 16, 17, 18, 19, 20, 21, 22, 23, 116, 117, 118, 119, 120, 121, 122, 123, 124, 114, 115, 125, 126, 127, 128, 129, 130, 131, 132, 133] (by decide +kernel) (by decide +kernel)
set_option maxRecDepth 20000 in
theorem gX8_shades_X4_begin : GoodIn wsX8_shades (wsV RX8 163 RX4 yX4_begin wsX4_begin) := goodIn_app (goodIn_of _ (by decide +kernel)) ggX8_shades_X4_begin
set_option maxRecDepth 20000 in
theorem ggX8_shades_X5_fewest : GoodIn wsX8_shades wsX5_fewest := goodIn_r _ [45, 46, 47, 48, 49, 50, 44, 51, 52, 53, 54, 55, 56, 57, 58, 59, 60, 61, 62, 63, 64, 65, 66, 67, 68, 69, 70, 71, 72, 73, 74, 75, 76, 77, 78, 79, 80, 81, 82, 83, 84, 85, 86, 87, 88, 89, 90, 91, 92, 93, 94, 95, 96, 97, 98, 8, 99, 100, 101, 14, 15, 28, 102, 103, 104, 105, 125, 126, 127, 128, 129, 130, 131, 132, 133, 116, 117, 118, 119, 120, 121, 122, 123, 124, 114, 115] (by decide +kernel) (by decide +kernel)
set_option maxRecDepth 20000 in
theorem gX8_shades_X5_fewest_u165X4 : GoodIn wsX8_shades (va_wsU RX8 165 RX4 "SlidTokens$Search" ⟨"SlidTokens$Paints", "fewest", "(II)I"⟩ yX5_fewest wsX5_fewest) := goodIn_app (goodIn_of _ (by decide +kernel)) ggX8_shades_X5_fewest
theorem dX8_shades_0 : decode cX8_shades 0 = .ok (.aload_n 0, 1) := by decide +kernel
theorem dX8_shades_1 : decode cX8_shades 1 = .ok (.getfield 10, 3) := by decide +kernel
theorem dX8_shades_4 : decode cX8_shades 4 = .ok (.getfield 66, 3) := by decide +kernel
theorem dX8_shades_7 : decode cX8_shades 7 = .ok (.bipush 6, 2) := by decide +kernel
theorem dX8_shades_9 : decode cX8_shades 9 = .ok (.if_icmp .le 6, 3) := by decide +kernel
theorem dX8_shades_12 : decode cX8_shades 12 = .ok (.bipush (-2), 2) := by decide +kernel
theorem dX8_shades_14 : decode cX8_shades 14 = .ok (.ireturn, 1) := by decide +kernel
theorem dX8_shades_15 : decode cX8_shades 15 = .ok (.aload_n 0, 1) := by decide +kernel
theorem dX8_shades_16 : decode cX8_shades 16 = .ok (.getfield 28, 3) := by decide +kernel
theorem dX8_shades_19 : decode cX8_shades 19 = .ok (.iload_n 1, 1) := by decide +kernel
theorem dX8_shades_20 : decode cX8_shades 20 = .ok (.aload_n 0, 1) := by decide +kernel
theorem dX8_shades_21 : decode cX8_shades 21 = .ok (.getfield 59, 3) := by decide +kernel
theorem dX8_shades_24 : decode cX8_shades 24 = .ok (.invokevirtual 162, 3) := by decide +kernel
theorem dX8_shades_27 : decode cX8_shades 27 = .ok (.ifCond .eq 18, 3) := by decide +kernel
theorem dX8_shades_30 : decode cX8_shades 30 = .ok (.aload_n 0, 1) := by decide +kernel
theorem dX8_shades_31 : decode cX8_shades 31 = .ok (.getfield 28, 3) := by decide +kernel
theorem dX8_shades_34 : decode cX8_shades 34 = .ok (.iload_n 2, 1) := by decide +kernel
theorem dX8_shades_35 : decode cX8_shades 35 = .ok (.aload_n 0, 1) := by decide +kernel
theorem dX8_shades_36 : decode cX8_shades 36 = .ok (.getfield 59, 3) := by decide +kernel
theorem dX8_shades_39 : decode cX8_shades 39 = .ok (.invokevirtual 162, 3) := by decide +kernel
theorem dX8_shades_42 : decode cX8_shades 42 = .ok (.ifCond .ne 5, 3) := by decide +kernel
theorem dX8_shades_45 : decode cX8_shades 45 = .ok (.iconst (-1), 1) := by decide +kernel
theorem dX8_shades_46 : decode cX8_shades 46 = .ok (.ireturn, 1) := by decide +kernel
theorem dX8_shades_47 : decode cX8_shades 47 = .ok (.aload_n 0, 1) := by decide +kernel
theorem dX8_shades_48 : decode cX8_shades 48 = .ok (.getfield 28, 3) := by decide +kernel
theorem dX8_shades_51 : decode cX8_shades 51 = .ok (.aload_n 0, 1) := by decide +kernel
theorem dX8_shades_52 : decode cX8_shades 52 = .ok (.getfield 59, 3) := by decide +kernel
theorem dX8_shades_55 : decode cX8_shades 55 = .ok (.invokevirtual 163, 3) := by decide +kernel
theorem dX8_shades_58 : decode cX8_shades 58 = .ok (.aload_n 0, 1) := by decide +kernel
theorem dX8_shades_59 : decode cX8_shades 59 = .ok (.getfield 28, 3) := by decide +kernel
theorem dX8_shades_62 : decode cX8_shades 62 = .ok (.iload_n 1, 1) := by decide +kernel
theorem dX8_shades_63 : decode cX8_shades 63 = .ok (.iload_n 2, 1) := by decide +kernel
theorem dX8_shades_64 : decode cX8_shades 64 = .ok (.invokevirtual 165, 3) := by decide +kernel
theorem dX8_shades_67 : decode cX8_shades 67 = .ok (.ireturn, 1) := by decide +kernel
set_option maxRecDepth 20000 in
theorem ggX8_heaps_X8_isWithin : GoodIn wsX8_heaps wsX8_isWithin := goodIn_r _ [8] (by decide +kernel) (by decide +kernel)
set_option maxRecDepth 20000 in
theorem gX8_heaps_X8_isWithin : GoodIn wsX8_heaps (va_wsS RX8 62 yX8_isWithin wsX8_isWithin) := goodIn_app (goodIn_of _ (by decide +kernel)) ggX8_heaps_X8_isWithin
set_option maxRecDepth 20000 in
theorem ggX8_heaps_X4_begin : GoodIn wsX8_heaps wsX4_begin := goodIn_r _ [13, 14, 15, 16, 17, 18, 19, 20, 21, 22, 23, 24, 25, 26, 27, 28, 29, 12, 30, 31, 32, 33, 34, 35, 36, 37, 38, 39, 40, 41, 42, 129, 130, 131, 132, 133, 134, 135, 136, 137, 127, 128, 138, 139, 140, 141, 142, 143, 144, 145, 146] (by decide +kernel) (by decide +kernel)
set_option maxRecDepth 20000 in
theorem gX8_heaps_X4_begin : GoodIn wsX8_heaps (wsV RX8 163 RX4 yX4_begin wsX4_begin) := goodIn_app (goodIn_of _ (by decide +kernel)) ggX8_heaps_X4_begin
set_option maxRecDepth 20000 in
theorem ggX8_heaps_X4_many : GoodIn wsX8_heaps wsX4_many := goodIn_r _ [46, 23, 24, 17, 18, 138, 139, 140, 141, 142, 143, 144, 145, 146, 129, 130, 131, 132, 133, 134, 135, 136, 137] (by decide +kernel) (by decide +kernel)
set_option maxRecDepth 20000 in
theorem gX8_heaps_X4_many : GoodIn wsX8_heaps (wsV RX8 166 RX4 yX4_many wsX4_many) := goodIn_app (goodIn_of _ (by decide +kernel)) ggX8_heaps_X4_many
set_option maxRecDepth 20000 in
theorem ggX8_heaps_X4_stuck : GoodIn wsX8_heaps wsX4_stuck := goodIn_r _ [50, 23, 24, 17, 18, 51, 52, 53, 54, 55, 12, 56, 15, 16, 14, 57, 58, 59, 60, 61, 62, 63, 64, 65, 66, 67, 68, 69, 70, 71, 72, 73, 138, 139, 140, 141, 142, 143, 144, 145, 146, 129, 130, 131, 132, 133, 134, 135, 136, 137, 127, 128] (by decide +kernel) (by decide +kernel)
set_option maxRecDepth 20000 in
theorem gX8_heaps_X4_stuck : GoodIn wsX8_heaps (wsV RX8 169 RX4 yX4_stuck wsX4_stuck) := goodIn_app (goodIn_of _ (by decide +kernel)) ggX8_heaps_X4_stuck
set_option maxRecDepth 20000 in
theorem ggX8_heaps_X5_components : GoodIn wsX8_heaps wsX5_components := goodIn_r _ [78, 72, 63, 79, 80, 81, 82, 61, 83, 84, 85, 64, 65, 67, 68, 69, 70, 71, 73, 86, 87, 88, 89, 90, 91, 92, 93, 94, 95, 96, 97, 98, 99, 100, 101, 102, 103, 104, 105, 106, 107, 108, 109, 110, 111, 112, 113, 114, 115, 116, 60, 62, 66, 117, 54, 12, 56, 51, 52, 15, 16, 14, 57, 58, 59, 118, 138, 139, 140, 141, 142, 143, 144, 145, 146, 129, 130, 131, 132, 133, 134, 135, 136, 137, 127, 128] (by decide +kernel) (by decide +kernel)
set_option maxRecDepth 20000 in
theorem gX8_heaps_X5_components_u172X4 : GoodIn wsX8_heaps (va_wsU RX8 172 RX4 "SlidTokens$Search" ⟨"SlidTokens$Paints", "components", "()I"⟩ yX5_components wsX5_components) := goodIn_app (goodIn_of _ (by decide +kernel)) ggX8_heaps_X5_components
theorem dX8_heaps_0 : decode cX8_heaps 0 = .ok (.iload_n 1, 1) := by decide +kernel
theorem dX8_heaps_1 : decode cX8_heaps 1 = .ok (.iconst 0, 1) := by decide +kernel
theorem dX8_heaps_2 : decode cX8_heaps 2 = .ok (.iconst 2, 1) := by decide +kernel
theorem dX8_heaps_3 : decode cX8_heaps 3 = .ok (.invokestatic 62, 3) := by decide +kernel
theorem dX8_heaps_6 : decode cX8_heaps 6 = .ok (.ifCond .ne 5, 3) := by decide +kernel
theorem dX8_heaps_9 : decode cX8_heaps 9 = .ok (.iconst (-1), 1) := by decide +kernel
theorem dX8_heaps_10 : decode cX8_heaps 10 = .ok (.ireturn, 1) := by decide +kernel
theorem dX8_heaps_11 : decode cX8_heaps 11 = .ok (.aload_n 0, 1) := by decide +kernel
theorem dX8_heaps_12 : decode cX8_heaps 12 = .ok (.getfield 10, 3) := by decide +kernel
theorem dX8_heaps_15 : decode cX8_heaps 15 = .ok (.getfield 66, 3) := by decide +kernel
theorem dX8_heaps_18 : decode cX8_heaps 18 = .ok (.bipush 6, 2) := by decide +kernel
theorem dX8_heaps_20 : decode cX8_heaps 20 = .ok (.if_icmp .le 6, 3) := by decide +kernel
theorem dX8_heaps_23 : decode cX8_heaps 23 = .ok (.bipush (-2), 2) := by decide +kernel
theorem dX8_heaps_25 : decode cX8_heaps 25 = .ok (.ireturn, 1) := by decide +kernel
theorem dX8_heaps_26 : decode cX8_heaps 26 = .ok (.aload_n 0, 1) := by decide +kernel
theorem dX8_heaps_27 : decode cX8_heaps 27 = .ok (.getfield 28, 3) := by decide +kernel
theorem dX8_heaps_30 : decode cX8_heaps 30 = .ok (.aload_n 0, 1) := by decide +kernel
theorem dX8_heaps_31 : decode cX8_heaps 31 = .ok (.getfield 59, 3) := by decide +kernel
theorem dX8_heaps_34 : decode cX8_heaps 34 = .ok (.invokevirtual 163, 3) := by decide +kernel
theorem dX8_heaps_37 : decode cX8_heaps 37 = .ok (.iload_n 1, 1) := by decide +kernel
theorem dX8_heaps_38 : decode cX8_heaps 38 = .ok (.lookupswitch 42 #[(0, 26), (1, 34)], 26) := by decide +kernel
theorem dX8_heaps_64 : decode cX8_heaps 64 = .ok (.aload_n 0, 1) := by decide +kernel
theorem dX8_heaps_65 : decode cX8_heaps 65 = .ok (.getfield 28, 3) := by decide +kernel
theorem dX8_heaps_68 : decode cX8_heaps 68 = .ok (.invokevirtual 166, 3) := by decide +kernel
theorem dX8_heaps_71 : decode cX8_heaps 71 = .ok (.ireturn, 1) := by decide +kernel
theorem dX8_heaps_72 : decode cX8_heaps 72 = .ok (.aload_n 0, 1) := by decide +kernel
theorem dX8_heaps_73 : decode cX8_heaps 73 = .ok (.getfield 28, 3) := by decide +kernel
theorem dX8_heaps_76 : decode cX8_heaps 76 = .ok (.invokevirtual 169, 3) := by decide +kernel
theorem dX8_heaps_79 : decode cX8_heaps 79 = .ok (.ireturn, 1) := by decide +kernel
theorem dX8_heaps_80 : decode cX8_heaps 80 = .ok (.aload_n 0, 1) := by decide +kernel
theorem dX8_heaps_81 : decode cX8_heaps 81 = .ok (.getfield 28, 3) := by decide +kernel
theorem dX8_heaps_84 : decode cX8_heaps 84 = .ok (.invokevirtual 172, 3) := by decide +kernel
theorem dX8_heaps_87 : decode cX8_heaps 87 = .ok (.ireturn, 1) := by decide +kernel
set_option maxRecDepth 20000 in
theorem ggX8_told_X3_pairs : GoodIn wsX8_told wsX3_pairs := goodIn_r _ [10, 11, 12, 13, 14, 15, 16, 17, 18, 19, 28, 29] (by decide +kernel) (by decide +kernel)
set_option maxRecDepth 20000 in
theorem gX8_told_X3_pairs : GoodIn wsX8_told (wsV RX8 92 RX3 yX3_pairs wsX3_pairs) := goodIn_app (goodIn_of _ (by decide +kernel)) ggX8_told_X3_pairs
theorem dX8_told_0 : decode cX8_told 0 = .ok (.iload_n 1, 1) := by decide +kernel
theorem dX8_told_1 : decode cX8_told 1 = .ok (.tableswitch 66 0 4 #[35, 43, 51, 56, 61], 35) := by decide +kernel
theorem dX8_told_36 : decode cX8_told 36 = .ok (.aload_n 0, 1) := by decide +kernel
theorem dX8_told_37 : decode cX8_told 37 = .ok (.getfield 10, 3) := by decide +kernel
theorem dX8_told_40 : decode cX8_told 40 = .ok (.getfield 66, 3) := by decide +kernel
theorem dX8_told_43 : decode cX8_told 43 = .ok (.ireturn, 1) := by decide +kernel
theorem dX8_told_44 : decode cX8_told 44 = .ok (.aload_n 0, 1) := by decide +kernel
theorem dX8_told_45 : decode cX8_told 45 = .ok (.getfield 10, 3) := by decide +kernel
theorem dX8_told_48 : decode cX8_told 48 = .ok (.invokevirtual 92, 3) := by decide +kernel
theorem dX8_told_51 : decode cX8_told 51 = .ok (.ireturn, 1) := by decide +kernel
theorem dX8_told_52 : decode cX8_told 52 = .ok (.aload_n 0, 1) := by decide +kernel
theorem dX8_told_53 : decode cX8_told 53 = .ok (.getfield 52, 3) := by decide +kernel
theorem dX8_told_56 : decode cX8_told 56 = .ok (.ireturn, 1) := by decide +kernel
theorem dX8_told_57 : decode cX8_told 57 = .ok (.aload_n 0, 1) := by decide +kernel
theorem dX8_told_58 : decode cX8_told 58 = .ok (.getfield 56, 3) := by decide +kernel
theorem dX8_told_61 : decode cX8_told 61 = .ok (.ireturn, 1) := by decide +kernel
theorem dX8_told_62 : decode cX8_told 62 = .ok (.aload_n 0, 1) := by decide +kernel
theorem dX8_told_63 : decode cX8_told 63 = .ok (.getfield 59, 3) := by decide +kernel
theorem dX8_told_66 : decode cX8_told 66 = .ok (.ireturn, 1) := by decide +kernel
theorem dX8_told_67 : decode cX8_told 67 = .ok (.iconst (-1), 1) := by decide +kernel
theorem dX8_told_68 : decode cX8_told 68 = .ok (.ireturn, 1) := by decide +kernel
theorem dX8_trace_0 : decode cX8_trace 0 = .ok (.aload_n 0, 1) := by decide +kernel
theorem dX8_trace_1 : decode cX8_trace 1 = .ok (.getfield 48, 3) := by decide +kernel
theorem dX8_trace_4 : decode cX8_trace 4 = .ok (.getfield 173, 3) := by decide +kernel
theorem dX8_trace_7 : decode cX8_trace 7 = .ok (.lreturn, 1) := by decide +kernel
set_option maxRecDepth 20000 in
theorem ggX8_begin_X2_begin : GoodIn wsX8_begin wsX2_begin := goodIn_r _ [8, 9, 10, 11, 12, 13, 14, 15, 16, 17, 18, 19, 20, 21, 22, 23, 24, 25, 26, 27, 28, 29, 30, 31, 32, 33, 34, 35, 36, 37, 38, 39, 40, 41, 42, 43, 44, 45, 46, 55, 56, 57, 58, 59, 60, 61, 62, 63, 64, 65, 66, 67, 68, 69, 70, 71, 72, 73, 74] (by decide +kernel) (by decide +kernel)
set_option maxRecDepth 20000 in
theorem gX8_begin_X2_begin : GoodIn wsX8_begin (wsV RX8 153 RX2 yX2_begin wsX2_begin) := goodIn_app (goodIn_of _ (by decide +kernel)) ggX8_begin_X2_begin
theorem dX8_begin_0 : decode cX8_begin 0 = .ok (.iload_n 2, 1) := by decide +kernel
theorem dX8_begin_1 : decode cX8_begin 1 = .ok (.iconst 2, 1) := by decide +kernel
theorem dX8_begin_2 : decode cX8_begin 2 = .ok (.if_icmp .ne 23, 3) := by decide +kernel
theorem dX8_begin_5 : decode cX8_begin 5 = .ok (.aload_n 0, 1) := by decide +kernel
theorem dX8_begin_6 : decode cX8_begin 6 = .ok (.getfield 21, 3) := by decide +kernel
theorem dX8_begin_9 : decode cX8_begin 9 = .ok (.iload_n 1, 1) := by decide +kernel
theorem dX8_begin_10 : decode cX8_begin 10 = .ok (.iload_n 2, 1) := by decide +kernel
theorem dX8_begin_11 : decode cX8_begin 11 = .ok (.aload_n 0, 1) := by decide +kernel
theorem dX8_begin_12 : decode cX8_begin 12 = .ok (.getfield 52, 3) := by decide +kernel
theorem dX8_begin_15 : decode cX8_begin 15 = .ok (.aload_n 0, 1) := by decide +kernel
theorem dX8_begin_16 : decode cX8_begin 16 = .ok (.getfield 56, 3) := by decide +kernel
theorem dX8_begin_19 : decode cX8_begin 19 = .ok (.invokevirtual 153, 3) := by decide +kernel
theorem dX8_begin_22 : decode cX8_begin 22 = .ok (.goto 15, 3) := by decide +kernel
theorem dX8_begin_25 : decode cX8_begin 25 = .ok (.aload_n 0, 1) := by decide +kernel
theorem dX8_begin_26 : decode cX8_begin 26 = .ok (.getfield 21, 3) := by decide +kernel
theorem dX8_begin_29 : decode cX8_begin 29 = .ok (.iload_n 1, 1) := by decide +kernel
theorem dX8_begin_30 : decode cX8_begin 30 = .ok (.iload_n 2, 1) := by decide +kernel
theorem dX8_begin_31 : decode cX8_begin 31 = .ok (.iconst 0, 1) := by decide +kernel
theorem dX8_begin_32 : decode cX8_begin 32 = .ok (.bipush 9, 2) := by decide +kernel
theorem dX8_begin_34 : decode cX8_begin 34 = .ok (.invokevirtual 153, 3) := by decide +kernel
theorem dX8_begin_37 : decode cX8_begin 37 = .ok (.return_, 1) := by decide +kernel
set_option maxRecDepth 20000 in
theorem ggX8_isLawfulSet_X3_hasSet : GoodIn wsX8_isLawfulSet wsX3_hasSet := goodIn_r _ [6, 7, 8, 9, 5, 10, 11, 33, 34] (by decide +kernel) (by decide +kernel)
set_option maxRecDepth 20000 in
theorem gX8_isLawfulSet_X3_hasSet : GoodIn wsX8_isLawfulSet (wsV RX8 99 RX3 yX3_hasSet wsX3_hasSet) := goodIn_app (goodIn_of _ (by decide +kernel)) ggX8_isLawfulSet_X3_hasSet
set_option maxRecDepth 20000 in
theorem ggX8_isLawfulSet_X3_isLawful : GoodIn wsX8_isLawfulSet wsX3_isLawful := goodIn_r _ [15, 16, 17, 18, 5, 19, 11, 20, 7, 8, 9, 10, 21, 22, 23, 24, 33, 34] (by decide +kernel) (by decide +kernel)
set_option maxRecDepth 20000 in
theorem gX8_isLawfulSet_X3_isLawful : GoodIn wsX8_isLawfulSet (wsV RX8 102 RX3 yX3_isLawful wsX3_isLawful) := goodIn_app (goodIn_of _ (by decide +kernel)) ggX8_isLawfulSet_X3_isLawful
theorem dX8_isLawfulSet_0 : decode cX8_isLawfulSet 0 = .ok (.aload_n 0, 1) := by decide +kernel
theorem dX8_isLawfulSet_1 : decode cX8_isLawfulSet 1 = .ok (.getfield 10, 3) := by decide +kernel
theorem dX8_isLawfulSet_4 : decode cX8_isLawfulSet 4 = .ok (.iload_n 2, 1) := by decide +kernel
theorem dX8_isLawfulSet_5 : decode cX8_isLawfulSet 5 = .ok (.invokevirtual 99, 3) := by decide +kernel
theorem dX8_isLawfulSet_8 : decode cX8_isLawfulSet 8 = .ok (.ifCond .eq 19, 3) := by decide +kernel
theorem dX8_isLawfulSet_11 : decode cX8_isLawfulSet 11 = .ok (.aload_n 0, 1) := by decide +kernel
theorem dX8_isLawfulSet_12 : decode cX8_isLawfulSet 12 = .ok (.getfield 10, 3) := by decide +kernel
theorem dX8_isLawfulSet_15 : decode cX8_isLawfulSet 15 = .ok (.iload_n 1, 1) := by decide +kernel
theorem dX8_isLawfulSet_16 : decode cX8_isLawfulSet 16 = .ok (.iload_n 2, 1) := by decide +kernel
theorem dX8_isLawfulSet_17 : decode cX8_isLawfulSet 17 = .ok (.invokevirtual 102, 3) := by decide +kernel
theorem dX8_isLawfulSet_20 : decode cX8_isLawfulSet 20 = .ok (.ifCond .eq 7, 3) := by decide +kernel
theorem dX8_isLawfulSet_23 : decode cX8_isLawfulSet 23 = .ok (.iconst 1, 1) := by decide +kernel
theorem dX8_isLawfulSet_24 : decode cX8_isLawfulSet 24 = .ok (.goto 4, 3) := by decide +kernel
theorem dX8_isLawfulSet_27 : decode cX8_isLawfulSet 27 = .ok (.iconst 0, 1) := by decide +kernel
theorem dX8_isLawfulSet_28 : decode cX8_isLawfulSet 28 = .ok (.ireturn, 1) := by decide +kernel
set_option maxRecDepth 20000 in
theorem ggX8_isKind_X8_isWithin : GoodIn wsX8_isKind wsX8_isWithin := goodIn_r _ [4] (by decide +kernel) (by decide +kernel)
set_option maxRecDepth 20000 in
theorem gX8_isKind_X8_isWithin : GoodIn wsX8_isKind (va_wsS RX8 62 yX8_isWithin wsX8_isWithin) := goodIn_app (goodIn_of _ (by decide +kernel)) ggX8_isKind_X8_isWithin
theorem dX8_isKind_0 : decode cX8_isKind 0 = .ok (.iload_n 0, 1) := by decide +kernel
theorem dX8_isKind_1 : decode cX8_isKind 1 = .ok (.iconst 0, 1) := by decide +kernel
theorem dX8_isKind_2 : decode cX8_isKind 2 = .ok (.iconst 2, 1) := by decide +kernel
theorem dX8_isKind_3 : decode cX8_isKind 3 = .ok (.invokestatic 62, 3) := by decide +kernel
theorem dX8_isKind_6 : decode cX8_isKind 6 = .ok (.ireturn, 1) := by decide +kernel
set_option maxRecDepth 20000 in
theorem ggX8_areMoves_X8_isWithin : GoodIn wsX8_areMoves wsX8_isWithin := goodIn_r _ [4] (by decide +kernel) (by decide +kernel)
set_option maxRecDepth 20000 in
theorem gX8_areMoves_X8_isWithin : GoodIn wsX8_areMoves (va_wsS RX8 62 yX8_isWithin wsX8_isWithin) := goodIn_app (goodIn_of _ (by decide +kernel)) ggX8_areMoves_X8_isWithin
theorem dX8_areMoves_0 : decode cX8_areMoves 0 = .ok (.iload_n 0, 1) := by decide +kernel
theorem dX8_areMoves_1 : decode cX8_areMoves 1 = .ok (.iconst 0, 1) := by decide +kernel
theorem dX8_areMoves_2 : decode cX8_areMoves 2 = .ok (.iconst 2, 1) := by decide +kernel
theorem dX8_areMoves_3 : decode cX8_areMoves 3 = .ok (.invokestatic 62, 3) := by decide +kernel
theorem dX8_areMoves_6 : decode cX8_areMoves 6 = .ok (.ireturn, 1) := by decide +kernel
theorem dX8_isWithin_0 : decode cX8_isWithin 0 = .ok (.iload_n 0, 1) := by decide +kernel
theorem dX8_isWithin_1 : decode cX8_isWithin 1 = .ok (.iload_n 1, 1) := by decide +kernel
theorem dX8_isWithin_2 : decode cX8_isWithin 2 = .ok (.if_icmp .lt 12, 3) := by decide +kernel
theorem dX8_isWithin_5 : decode cX8_isWithin 5 = .ok (.iload_n 0, 1) := by decide +kernel
theorem dX8_isWithin_6 : decode cX8_isWithin 6 = .ok (.iload_n 2, 1) := by decide +kernel
theorem dX8_isWithin_7 : decode cX8_isWithin 7 = .ok (.if_icmp .gt 7, 3) := by decide +kernel
theorem dX8_isWithin_10 : decode cX8_isWithin 10 = .ok (.iconst 1, 1) := by decide +kernel
theorem dX8_isWithin_11 : decode cX8_isWithin 11 = .ok (.goto 4, 3) := by decide +kernel
theorem dX8_isWithin_14 : decode cX8_isWithin 14 = .ok (.iconst 0, 1) := by decide +kernel
theorem dX8_isWithin_15 : decode cX8_isWithin 15 = .ok (.ireturn, 1) := by decide +kernel
theorem dX8_asNumber_0 : decode cX8_asNumber 0 = .ok (.iload_n 0, 1) := by decide +kernel
theorem dX8_asNumber_1 : decode cX8_asNumber 1 = .ok (.ifCond .eq 7, 3) := by decide +kernel
theorem dX8_asNumber_4 : decode cX8_asNumber 4 = .ok (.iconst 1, 1) := by decide +kernel
theorem dX8_asNumber_5 : decode cX8_asNumber 5 = .ok (.goto 4, 3) := by decide +kernel
theorem dX8_asNumber_8 : decode cX8_asNumber 8 = .ok (.iconst 0, 1) := by decide +kernel
theorem dX8_asNumber_9 : decode cX8_asNumber 9 = .ok (.ireturn, 1) := by decide +kernel
theorem dX9_init_0 : decode cX9_init 0 = .ok (.aload_n 0, 1) := by decide +kernel
theorem dX9_init_1 : decode cX9_init 1 = .ok (.invokespecial 1, 3) := by decide +kernel
theorem dX9_init_4 : decode cX9_init 4 = .ok (.aload_n 0, 1) := by decide +kernel
theorem dX9_init_5 : decode cX9_init 5 = .ok (.iconst 5, 1) := by decide +kernel
theorem dX9_init_6 : decode cX9_init 6 = .ok (.putfield 7, 3) := by decide +kernel
theorem dX9_init_9 : decode cX9_init 9 = .ok (.aload_n 0, 1) := by decide +kernel
theorem dX9_init_10 : decode cX9_init 10 = .ok (.bipush 9, 2) := by decide +kernel
theorem dX9_init_12 : decode cX9_init 12 = .ok (.newarray .int, 2) := by decide +kernel
theorem dX9_init_14 : decode cX9_init 14 = .ok (.putfield 13, 3) := by decide +kernel
theorem dX9_init_17 : decode cX9_init 17 = .ok (.aload_n 0, 1) := by decide +kernel
theorem dX9_init_18 : decode cX9_init 18 = .ok (.bipush 9, 2) := by decide +kernel
theorem dX9_init_20 : decode cX9_init 20 = .ok (.putfield 17, 3) := by decide +kernel
theorem dX9_init_23 : decode cX9_init 23 = .ok (.aload_n 0, 1) := by decide +kernel
theorem dX9_init_24 : decode cX9_init 24 = .ok (.iconst 3, 1) := by decide +kernel
theorem dX9_init_25 : decode cX9_init 25 = .ok (.putfield 20, 3) := by decide +kernel
theorem dX9_init_28 : decode cX9_init 28 = .ok (.aload_n 0, 1) := by decide +kernel
theorem dX9_init_29 : decode cX9_init 29 = .ok (.sipush 512, 3) := by decide +kernel
theorem dX9_init_32 : decode cX9_init 32 = .ok (.newarray .int, 2) := by decide +kernel
theorem dX9_init_34 : decode cX9_init 34 = .ok (.putfield 23, 3) := by decide +kernel
theorem dX9_init_37 : decode cX9_init 37 = .ok (.aload_n 0, 1) := by decide +kernel
theorem dX9_init_38 : decode cX9_init 38 = .ok (.sipush 512, 3) := by decide +kernel
theorem dX9_init_41 : decode cX9_init 41 = .ok (.newarray .boolean, 2) := by decide +kernel
theorem dX9_init_43 : decode cX9_init 43 = .ok (.putfield 26, 3) := by decide +kernel
theorem dX9_init_46 : decode cX9_init 46 = .ok (.aload_n 0, 1) := by decide +kernel
theorem dX9_init_47 : decode cX9_init 47 = .ok (.sipush 4096, 3) := by decide +kernel
theorem dX9_init_50 : decode cX9_init 50 = .ok (.newarray .int, 2) := by decide +kernel
theorem dX9_init_52 : decode cX9_init 52 = .ok (.putfield 30, 3) := by decide +kernel
theorem dX9_init_55 : decode cX9_init 55 = .ok (.aload_n 0, 1) := by decide +kernel
theorem dX9_init_56 : decode cX9_init 56 = .ok (.sipush 4096, 3) := by decide +kernel
theorem dX9_init_59 : decode cX9_init 59 = .ok (.newarray .int, 2) := by decide +kernel
theorem dX9_init_61 : decode cX9_init 61 = .ok (.putfield 33, 3) := by decide +kernel
theorem dX9_init_64 : decode cX9_init 64 = .ok (.aload_n 0, 1) := by decide +kernel
theorem dX9_init_65 : decode cX9_init 65 = .ok (.iconst 0, 1) := by decide +kernel
theorem dX9_init_66 : decode cX9_init 66 = .ok (.putfield 36, 3) := by decide +kernel
theorem dX9_init_69 : decode cX9_init 69 = .ok (.return_, 1) := by decide +kernel
theorem dX9_in_0 : decode cX9_in 0 = .ok (.iload_n 0, 1) := by decide +kernel
theorem dX9_in_1 : decode cX9_in 1 = .ok (.iload_n 1, 1) := by decide +kernel
theorem dX9_in_2 : decode cX9_in 2 = .ok (.if_icmp .lt 12, 3) := by decide +kernel
theorem dX9_in_5 : decode cX9_in 5 = .ok (.iload_n 0, 1) := by decide +kernel
theorem dX9_in_6 : decode cX9_in 6 = .ok (.iload_n 2, 1) := by decide +kernel
theorem dX9_in_7 : decode cX9_in 7 = .ok (.if_icmp .gt 7, 3) := by decide +kernel
theorem dX9_in_10 : decode cX9_in 10 = .ok (.iconst 1, 1) := by decide +kernel
theorem dX9_in_11 : decode cX9_in 11 = .ok (.goto 4, 3) := by decide +kernel
theorem dX9_in_14 : decode cX9_in 14 = .ok (.iconst 0, 1) := by decide +kernel
theorem dX9_in_15 : decode cX9_in 15 = .ok (.ireturn, 1) := by decide +kernel
set_option maxRecDepth 20000 in
theorem ggX9_isSet_X9_in : GoodIn wsX9_isSet wsX9_in := goodIn_r _ [5] (by decide +kernel) (by decide +kernel)
set_option maxRecDepth 20000 in
theorem gX9_isSet_X9_in : GoodIn wsX9_isSet (va_wsS RX9 39 yX9_in wsX9_in) := goodIn_app (goodIn_of _ (by decide +kernel)) ggX9_isSet_X9_in
theorem dX9_isSet_0 : decode cX9_isSet 0 = .ok (.iload_n 1, 1) := by decide +kernel
theorem dX9_isSet_1 : decode cX9_isSet 1 = .ok (.iconst 0, 1) := by decide +kernel
theorem dX9_isSet_2 : decode cX9_isSet 2 = .ok (.iconst 1, 1) := by decide +kernel
theorem dX9_isSet_3 : decode cX9_isSet 3 = .ok (.aload_n 0, 1) := by decide +kernel
theorem dX9_isSet_4 : decode cX9_isSet 4 = .ok (.getfield 7, 3) := by decide +kernel
theorem dX9_isSet_7 : decode cX9_isSet 7 = .ok (.ishl, 1) := by decide +kernel
theorem dX9_isSet_8 : decode cX9_isSet 8 = .ok (.iconst 1, 1) := by decide +kernel
theorem dX9_isSet_9 : decode cX9_isSet 9 = .ok (.isub, 1) := by decide +kernel
theorem dX9_isSet_10 : decode cX9_isSet 10 = .ok (.invokestatic 39, 3) := by decide +kernel
theorem dX9_isSet_13 : decode cX9_isSet 13 = .ok (.ireturn, 1) := by decide +kernel
set_option maxRecDepth 20000 in
theorem ggX9_isKind_X9_in : GoodIn wsX9_isKind wsX9_in := goodIn_r _ [4] (by decide +kernel) (by decide +kernel)
set_option maxRecDepth 20000 in
theorem gX9_isKind_X9_in : GoodIn wsX9_isKind (va_wsS RX9 39 yX9_in wsX9_in) := goodIn_app (goodIn_of _ (by decide +kernel)) ggX9_isKind_X9_in
theorem dX9_isKind_0 : decode cX9_isKind 0 = .ok (.iload_n 0, 1) := by decide +kernel
theorem dX9_isKind_1 : decode cX9_isKind 1 = .ok (.iconst 0, 1) := by decide +kernel
theorem dX9_isKind_2 : decode cX9_isKind 2 = .ok (.iconst 2, 1) := by decide +kernel
theorem dX9_isKind_3 : decode cX9_isKind 3 = .ok (.invokestatic 39, 3) := by decide +kernel
theorem dX9_isKind_6 : decode cX9_isKind 6 = .ok (.ireturn, 1) := by decide +kernel
theorem dX9_size_0 : decode cX9_size 0 = .ok (.iconst 0, 1) := by decide +kernel
theorem dX9_size_1 : decode cX9_size 1 = .ok (.istore_n 1, 1) := by decide +kernel
theorem dX9_size_2 : decode cX9_size 2 = .ok (.iconst 0, 1) := by decide +kernel
theorem dX9_size_3 : decode cX9_size 3 = .ok (.istore_n 2, 1) := by decide +kernel
theorem dX9_size_4 : decode cX9_size 4 = .ok (.iload_n 2, 1) := by decide +kernel
theorem dX9_size_5 : decode cX9_size 5 = .ok (.bipush 9, 2) := by decide +kernel
theorem dX9_size_7 : decode cX9_size 7 = .ok (.if_icmp .ge 17, 3) := by decide +kernel
theorem dX9_size_10 : decode cX9_size 10 = .ok (.iload_n 1, 1) := by decide +kernel
theorem dX9_size_11 : decode cX9_size 11 = .ok (.iload_n 0, 1) := by decide +kernel
theorem dX9_size_12 : decode cX9_size 12 = .ok (.iload_n 2, 1) := by decide +kernel
theorem dX9_size_13 : decode cX9_size 13 = .ok (.ishr, 1) := by decide +kernel
theorem dX9_size_14 : decode cX9_size 14 = .ok (.iconst 1, 1) := by decide +kernel
theorem dX9_size_15 : decode cX9_size 15 = .ok (.iand, 1) := by decide +kernel
theorem dX9_size_16 : decode cX9_size 16 = .ok (.iadd, 1) := by decide +kernel
theorem dX9_size_17 : decode cX9_size 17 = .ok (.istore_n 1, 1) := by decide +kernel
theorem dX9_size_18 : decode cX9_size 18 = .ok (.iinc 2 1, 3) := by decide +kernel
theorem dX9_size_21 : decode cX9_size 21 = .ok (.goto (-17), 3) := by decide +kernel
theorem dX9_size_24 : decode cX9_size 24 = .ok (.iload_n 1, 1) := by decide +kernel
theorem dX9_size_25 : decode cX9_size 25 = .ok (.ireturn, 1) := by decide +kernel
set_option maxRecDepth 20000 in
theorem ggX9_net_X9_in : GoodIn wsX9_net wsX9_in := goodIn_r _ [5] (by decide +kernel) (by decide +kernel)
set_option maxRecDepth 20000 in
theorem gX9_net_X9_in : GoodIn wsX9_net (va_wsS RX9 39 yX9_in wsX9_in) := goodIn_app (goodIn_of _ (by decide +kernel)) ggX9_net_X9_in
set_option maxRecDepth 20000 in
theorem ggX9_net_X9_part : GoodIn wsX9_net wsX9_part := goodIn_r _ [9, 10, 11, 12, 13, 14, 15, 16, 17, 18, 19, 20] (by decide +kernel) (by decide +kernel)
set_option maxRecDepth 20000 in
theorem gX9_net_X9_part : GoodIn wsX9_net (wsV RX9 43 RX9 yX9_part wsX9_part) := goodIn_app (goodIn_of _ (by decide +kernel)) ggX9_net_X9_part
theorem dX9_net_0 : decode cX9_net 0 = .ok (.iload_n 1, 1) := by decide +kernel
theorem dX9_net_1 : decode cX9_net 1 = .ok (.iconst 1, 1) := by decide +kernel
theorem dX9_net_2 : decode cX9_net 2 = .ok (.bipush 9, 2) := by decide +kernel
theorem dX9_net_4 : decode cX9_net 4 = .ok (.invokestatic 39, 3) := by decide +kernel
theorem dX9_net_7 : decode cX9_net 7 = .ok (.ifCond .ne 5, 3) := by decide +kernel
theorem dX9_net_10 : decode cX9_net 10 = .ok (.iconst (-1), 1) := by decide +kernel
theorem dX9_net_11 : decode cX9_net 11 = .ok (.ireturn, 1) := by decide +kernel
theorem dX9_net_12 : decode cX9_net 12 = .ok (.aload_n 0, 1) := by decide +kernel
theorem dX9_net_13 : decode cX9_net 13 = .ok (.getfield 7, 3) := by decide +kernel
theorem dX9_net_16 : decode cX9_net 16 = .ok (.istore_n 2, 1) := by decide +kernel
theorem dX9_net_17 : decode cX9_net 17 = .ok (.aload_n 0, 1) := by decide +kernel
theorem dX9_net_18 : decode cX9_net 18 = .ok (.iload_n 1, 1) := by decide +kernel
theorem dX9_net_19 : decode cX9_net 19 = .ok (.putfield 7, 3) := by decide +kernel
theorem dX9_net_22 : decode cX9_net 22 = .ok (.aload_n 0, 1) := by decide +kernel
theorem dX9_net_23 : decode cX9_net 23 = .ok (.invokevirtual 43, 3) := by decide +kernel
theorem dX9_net_26 : decode cX9_net 26 = .ok (.iload_n 2, 1) := by decide +kernel
theorem dX9_net_27 : decode cX9_net 27 = .ok (.ireturn, 1) := by decide +kernel
theorem dX9_part_0 : decode cX9_part 0 = .ok (.iconst 0, 1) := by decide +kernel
theorem dX9_part_1 : decode cX9_part 1 = .ok (.istore_n 1, 1) := by decide +kernel
theorem dX9_part_2 : decode cX9_part 2 = .ok (.iload_n 1, 1) := by decide +kernel
theorem dX9_part_3 : decode cX9_part 3 = .ok (.bipush 9, 2) := by decide +kernel
theorem dX9_part_5 : decode cX9_part 5 = .ok (.if_icmp .ge 16, 3) := by decide +kernel
theorem dX9_part_8 : decode cX9_part 8 = .ok (.aload_n 0, 1) := by decide +kernel
theorem dX9_part_9 : decode cX9_part 9 = .ok (.getfield 13, 3) := by decide +kernel
theorem dX9_part_12 : decode cX9_part 12 = .ok (.iload_n 1, 1) := by decide +kernel
theorem dX9_part_13 : decode cX9_part 13 = .ok (.iconst 0, 1) := by decide +kernel
theorem dX9_part_14 : decode cX9_part 14 = .ok (.iastore, 1) := by decide +kernel
theorem dX9_part_15 : decode cX9_part 15 = .ok (.iinc 1 1, 3) := by decide +kernel
theorem dX9_part_18 : decode cX9_part 18 = .ok (.goto (-16), 3) := by decide +kernel
theorem dX9_part_21 : decode cX9_part 21 = .ok (.return_, 1) := by decide +kernel
set_option maxRecDepth 20000 in
theorem ggX9_isNode_X9_in : GoodIn wsX9_isNode wsX9_in := goodIn_r _ [5] (by decide +kernel) (by decide +kernel)
set_option maxRecDepth 20000 in
theorem gX9_isNode_X9_in : GoodIn wsX9_isNode (va_wsS RX9 39 yX9_in wsX9_in) := goodIn_app (goodIn_of _ (by decide +kernel)) ggX9_isNode_X9_in
theorem dX9_isNode_0 : decode cX9_isNode 0 = .ok (.iload_n 1, 1) := by decide +kernel
theorem dX9_isNode_1 : decode cX9_isNode 1 = .ok (.iconst 0, 1) := by decide +kernel
theorem dX9_isNode_2 : decode cX9_isNode 2 = .ok (.aload_n 0, 1) := by decide +kernel
theorem dX9_isNode_3 : decode cX9_isNode 3 = .ok (.getfield 7, 3) := by decide +kernel
theorem dX9_isNode_6 : decode cX9_isNode 6 = .ok (.iconst 1, 1) := by decide +kernel
theorem dX9_isNode_7 : decode cX9_isNode 7 = .ok (.isub, 1) := by decide +kernel
theorem dX9_isNode_8 : decode cX9_isNode 8 = .ok (.invokestatic 39, 3) := by decide +kernel
theorem dX9_isNode_11 : decode cX9_isNode 11 = .ok (.ireturn, 1) := by decide +kernel
theorem dX9_put_0 : decode cX9_put 0 = .ok (.aload_n 0, 1) := by decide +kernel
theorem dX9_put_1 : decode cX9_put 1 = .ok (.getfield 13, 3) := by decide +kernel
theorem dX9_put_4 : decode cX9_put 4 = .ok (.iload_n 1, 1) := by decide +kernel
theorem dX9_put_5 : decode cX9_put 5 = .ok (.iload_n 3, 1) := by decide +kernel
theorem dX9_put_6 : decode cX9_put 6 = .ok (.iconst 1, 1) := by decide +kernel
theorem dX9_put_7 : decode cX9_put 7 = .ok (.if_icmp .ne 16, 3) := by decide +kernel
theorem dX9_put_10 : decode cX9_put 10 = .ok (.aload_n 0, 1) := by decide +kernel
theorem dX9_put_11 : decode cX9_put 11 = .ok (.getfield 13, 3) := by decide +kernel
theorem dX9_put_14 : decode cX9_put 14 = .ok (.iload_n 1, 1) := by decide +kernel
theorem dX9_put_15 : decode cX9_put 15 = .ok (.iaload, 1) := by decide +kernel
theorem dX9_put_16 : decode cX9_put 16 = .ok (.iconst 1, 1) := by decide +kernel
theorem dX9_put_17 : decode cX9_put 17 = .ok (.iload_n 2, 1) := by decide +kernel
theorem dX9_put_18 : decode cX9_put 18 = .ok (.ishl, 1) := by decide +kernel
theorem dX9_put_19 : decode cX9_put 19 = .ok (.ior, 1) := by decide +kernel
theorem dX9_put_20 : decode cX9_put 20 = .ok (.goto 15, 3) := by decide +kernel
theorem dX9_put_23 : decode cX9_put 23 = .ok (.aload_n 0, 1) := by decide +kernel
theorem dX9_put_24 : decode cX9_put 24 = .ok (.getfield 13, 3) := by decide +kernel
theorem dX9_put_27 : decode cX9_put 27 = .ok (.iload_n 1, 1) := by decide +kernel
theorem dX9_put_28 : decode cX9_put 28 = .ok (.iaload, 1) := by decide +kernel
theorem dX9_put_29 : decode cX9_put 29 = .ok (.iconst 1, 1) := by decide +kernel
theorem dX9_put_30 : decode cX9_put 30 = .ok (.iload_n 2, 1) := by decide +kernel
theorem dX9_put_31 : decode cX9_put 31 = .ok (.ishl, 1) := by decide +kernel
theorem dX9_put_32 : decode cX9_put 32 = .ok (.iconst (-1), 1) := by decide +kernel
theorem dX9_put_33 : decode cX9_put 33 = .ok (.ixor, 1) := by decide +kernel
theorem dX9_put_34 : decode cX9_put 34 = .ok (.iand, 1) := by decide +kernel
theorem dX9_put_35 : decode cX9_put 35 = .ok (.iastore, 1) := by decide +kernel
theorem dX9_put_36 : decode cX9_put 36 = .ok (.aload_n 0, 1) := by decide +kernel
theorem dX9_put_37 : decode cX9_put 37 = .ok (.getfield 13, 3) := by decide +kernel
theorem dX9_put_40 : decode cX9_put 40 = .ok (.iload_n 2, 1) := by decide +kernel
theorem dX9_put_41 : decode cX9_put 41 = .ok (.iload_n 3, 1) := by decide +kernel
theorem dX9_put_42 : decode cX9_put 42 = .ok (.iconst 1, 1) := by decide +kernel
theorem dX9_put_43 : decode cX9_put 43 = .ok (.if_icmp .ne 16, 3) := by decide +kernel
theorem dX9_put_46 : decode cX9_put 46 = .ok (.aload_n 0, 1) := by decide +kernel
theorem dX9_put_47 : decode cX9_put 47 = .ok (.getfield 13, 3) := by decide +kernel
theorem dX9_put_50 : decode cX9_put 50 = .ok (.iload_n 2, 1) := by decide +kernel
theorem dX9_put_51 : decode cX9_put 51 = .ok (.iaload, 1) := by decide +kernel
theorem dX9_put_52 : decode cX9_put 52 = .ok (.iconst 1, 1) := by decide +kernel
theorem dX9_put_53 : decode cX9_put 53 = .ok (.iload_n 1, 1) := by decide +kernel
theorem dX9_put_54 : decode cX9_put 54 = .ok (.ishl, 1) := by decide +kernel
theorem dX9_put_55 : decode cX9_put 55 = .ok (.ior, 1) := by decide +kernel
theorem dX9_put_56 : decode cX9_put 56 = .ok (.goto 15, 3) := by decide +kernel
theorem dX9_put_59 : decode cX9_put 59 = .ok (.aload_n 0, 1) := by decide +kernel
theorem dX9_put_60 : decode cX9_put 60 = .ok (.getfield 13, 3) := by decide +kernel
theorem dX9_put_63 : decode cX9_put 63 = .ok (.iload_n 2, 1) := by decide +kernel
theorem dX9_put_64 : decode cX9_put 64 = .ok (.iaload, 1) := by decide +kernel
theorem dX9_put_65 : decode cX9_put 65 = .ok (.iconst 1, 1) := by decide +kernel
theorem dX9_put_66 : decode cX9_put 66 = .ok (.iload_n 1, 1) := by decide +kernel
theorem dX9_put_67 : decode cX9_put 67 = .ok (.ishl, 1) := by decide +kernel
theorem dX9_put_68 : decode cX9_put 68 = .ok (.iconst (-1), 1) := by decide +kernel
theorem dX9_put_69 : decode cX9_put 69 = .ok (.ixor, 1) := by decide +kernel
theorem dX9_put_70 : decode cX9_put 70 = .ok (.iand, 1) := by decide +kernel
theorem dX9_put_71 : decode cX9_put 71 = .ok (.iastore, 1) := by decide +kernel
theorem dX9_put_72 : decode cX9_put 72 = .ok (.return_, 1) := by decide +kernel
set_option maxRecDepth 20000 in
theorem ggX9_join_X9_isNode : GoodIn wsX9_join wsX9_isNode := goodIn_r _ [6, 7, 8, 9, 5, 10, 15, 16, 17, 18, 19, 20, 21, 22, 23, 24] (by decide +kernel) (by decide +kernel)
set_option maxRecDepth 20000 in
theorem gX9_join_X9_isNode : GoodIn wsX9_join (wsV RX9 46 RX9 yX9_isNode wsX9_isNode) := goodIn_app (goodIn_of _ (by decide +kernel)) ggX9_join_X9_isNode
set_option maxRecDepth 20000 in
theorem ggX9_join_X9_in : GoodIn wsX9_join wsX9_in := goodIn_r _ [10] (by decide +kernel) (by decide +kernel)
set_option maxRecDepth 20000 in
theorem gX9_join_X9_in : GoodIn wsX9_join (va_wsS RX9 39 yX9_in wsX9_in) := goodIn_app (goodIn_of _ (by decide +kernel)) ggX9_join_X9_in
set_option maxRecDepth 20000 in
theorem ggX9_join_X9_put : GoodIn wsX9_join wsX9_put := goodIn_r _ [14, 1, 15, 16, 17, 18, 19, 20, 21, 22, 23, 24] (by decide +kernel) (by decide +kernel)
set_option maxRecDepth 20000 in
theorem gX9_join_X9_put : GoodIn wsX9_join (wsV RX9 50 RX9 yX9_put wsX9_put) := goodIn_app (goodIn_of _ (by decide +kernel)) ggX9_join_X9_put
theorem dX9_join_0 : decode cX9_join 0 = .ok (.aload_n 0, 1) := by decide +kernel
theorem dX9_join_1 : decode cX9_join 1 = .ok (.iload_n 1, 1) := by decide +kernel
theorem dX9_join_2 : decode cX9_join 2 = .ok (.invokevirtual 46, 3) := by decide +kernel
theorem dX9_join_5 : decode cX9_join 5 = .ok (.ifCond .eq 25, 3) := by decide +kernel
theorem dX9_join_8 : decode cX9_join 8 = .ok (.aload_n 0, 1) := by decide +kernel
theorem dX9_join_9 : decode cX9_join 9 = .ok (.iload_n 2, 1) := by decide +kernel
theorem dX9_join_10 : decode cX9_join 10 = .ok (.invokevirtual 46, 3) := by decide +kernel
theorem dX9_join_13 : decode cX9_join 13 = .ok (.ifCond .eq 17, 3) := by decide +kernel
theorem dX9_join_16 : decode cX9_join 16 = .ok (.iload_n 1, 1) := by decide +kernel
theorem dX9_join_17 : decode cX9_join 17 = .ok (.iload_n 2, 1) := by decide +kernel
theorem dX9_join_18 : decode cX9_join 18 = .ok (.if_icmp .eq 12, 3) := by decide +kernel
theorem dX9_join_21 : decode cX9_join 21 = .ok (.iload_n 3, 1) := by decide +kernel
theorem dX9_join_22 : decode cX9_join 22 = .ok (.iconst 0, 1) := by decide +kernel
theorem dX9_join_23 : decode cX9_join 23 = .ok (.iconst 1, 1) := by decide +kernel
theorem dX9_join_24 : decode cX9_join 24 = .ok (.invokestatic 39, 3) := by decide +kernel
theorem dX9_join_27 : decode cX9_join 27 = .ok (.ifCond .ne 5, 3) := by decide +kernel
theorem dX9_join_30 : decode cX9_join 30 = .ok (.iconst (-1), 1) := by decide +kernel
theorem dX9_join_31 : decode cX9_join 31 = .ok (.ireturn, 1) := by decide +kernel
theorem dX9_join_32 : decode cX9_join 32 = .ok (.aload_n 0, 1) := by decide +kernel
theorem dX9_join_33 : decode cX9_join 33 = .ok (.getfield 13, 3) := by decide +kernel
theorem dX9_join_36 : decode cX9_join 36 = .ok (.iload_n 1, 1) := by decide +kernel
theorem dX9_join_37 : decode cX9_join 37 = .ok (.iaload, 1) := by decide +kernel
theorem dX9_join_38 : decode cX9_join 38 = .ok (.iload_n 2, 1) := by decide +kernel
theorem dX9_join_39 : decode cX9_join 39 = .ok (.ishr, 1) := by decide +kernel
theorem dX9_join_40 : decode cX9_join 40 = .ok (.iconst 1, 1) := by decide +kernel
theorem dX9_join_41 : decode cX9_join 41 = .ok (.iand, 1) := by decide +kernel
theorem dX9_join_42 : decode cX9_join 42 = .ok (.istore 4, 2) := by decide +kernel
theorem dX9_join_44 : decode cX9_join 44 = .ok (.aload_n 0, 1) := by decide +kernel
theorem dX9_join_45 : decode cX9_join 45 = .ok (.iload_n 1, 1) := by decide +kernel
theorem dX9_join_46 : decode cX9_join 46 = .ok (.iload_n 2, 1) := by decide +kernel
theorem dX9_join_47 : decode cX9_join 47 = .ok (.iload_n 3, 1) := by decide +kernel
theorem dX9_join_48 : decode cX9_join 48 = .ok (.invokevirtual 50, 3) := by decide +kernel
theorem dX9_join_51 : decode cX9_join 51 = .ok (.iload 4, 2) := by decide +kernel
theorem dX9_join_53 : decode cX9_join 53 = .ok (.ireturn, 1) := by decide +kernel
set_option maxRecDepth 20000 in
theorem ggX9_pairs_X9_size : GoodIn wsX9_pairs wsX9_size := goodIn_r _ [6] (by decide +kernel) (by decide +kernel)
set_option maxRecDepth 20000 in
theorem gX9_pairs_X9_size : GoodIn wsX9_pairs (va_wsS RX9 54 yX9_size wsX9_size) := goodIn_app (goodIn_of _ (by decide +kernel)) ggX9_pairs_X9_size
theorem dX9_pairs_0 : decode cX9_pairs 0 = .ok (.iconst 0, 1) := by decide +kernel
theorem dX9_pairs_1 : decode cX9_pairs 1 = .ok (.istore_n 1, 1) := by decide +kernel
theorem dX9_pairs_2 : decode cX9_pairs 2 = .ok (.iconst 0, 1) := by decide +kernel
theorem dX9_pairs_3 : decode cX9_pairs 3 = .ok (.istore_n 2, 1) := by decide +kernel
theorem dX9_pairs_4 : decode cX9_pairs 4 = .ok (.iload_n 2, 1) := by decide +kernel
theorem dX9_pairs_5 : decode cX9_pairs 5 = .ok (.aload_n 0, 1) := by decide +kernel
theorem dX9_pairs_6 : decode cX9_pairs 6 = .ok (.getfield 7, 3) := by decide +kernel
theorem dX9_pairs_9 : decode cX9_pairs 9 = .ok (.if_icmp .ge 21, 3) := by decide +kernel
theorem dX9_pairs_12 : decode cX9_pairs 12 = .ok (.iload_n 1, 1) := by decide +kernel
theorem dX9_pairs_13 : decode cX9_pairs 13 = .ok (.aload_n 0, 1) := by decide +kernel
theorem dX9_pairs_14 : decode cX9_pairs 14 = .ok (.getfield 13, 3) := by decide +kernel
theorem dX9_pairs_17 : decode cX9_pairs 17 = .ok (.iload_n 2, 1) := by decide +kernel
theorem dX9_pairs_18 : decode cX9_pairs 18 = .ok (.iaload, 1) := by decide +kernel
theorem dX9_pairs_19 : decode cX9_pairs 19 = .ok (.invokestatic 54, 3) := by decide +kernel
theorem dX9_pairs_22 : decode cX9_pairs 22 = .ok (.iadd, 1) := by decide +kernel
theorem dX9_pairs_23 : decode cX9_pairs 23 = .ok (.istore_n 1, 1) := by decide +kernel
theorem dX9_pairs_24 : decode cX9_pairs 24 = .ok (.iinc 2 1, 3) := by decide +kernel
theorem dX9_pairs_27 : decode cX9_pairs 27 = .ok (.goto (-23), 3) := by decide +kernel
theorem dX9_pairs_30 : decode cX9_pairs 30 = .ok (.iload_n 1, 1) := by decide +kernel
theorem dX9_pairs_31 : decode cX9_pairs 31 = .ok (.iconst 2, 1) := by decide +kernel
theorem dX9_pairs_32 : decode cX9_pairs 32 = .ok (.idiv, 1) := by decide +kernel
theorem dX9_pairs_33 : decode cX9_pairs 33 = .ok (.ireturn, 1) := by decide +kernel
set_option maxRecDepth 20000 in
theorem ggX9_shape_X9_in : GoodIn wsX9_shape wsX9_in := goodIn_r _ [5] (by decide +kernel) (by decide +kernel)
set_option maxRecDepth 20000 in
theorem gX9_shape_X9_in : GoodIn wsX9_shape (va_wsS RX9 39 yX9_in wsX9_in) := goodIn_app (goodIn_of _ (by decide +kernel)) ggX9_shape_X9_in
set_option maxRecDepth 20000 in
theorem ggX9_shape_X9_part : GoodIn wsX9_shape wsX9_part := goodIn_r _ [9, 10, 22, 23, 24, 25, 26, 27, 28, 29, 30, 31] (by decide +kernel) (by decide +kernel)
set_option maxRecDepth 20000 in
theorem gX9_shape_X9_part : GoodIn wsX9_shape (wsV RX9 43 RX9 yX9_part wsX9_part) := goodIn_app (goodIn_of _ (by decide +kernel)) ggX9_shape_X9_part
set_option maxRecDepth 20000 in
theorem ggX9_shape_X9_put : GoodIn wsX9_shape wsX9_put := goodIn_r _ [14, 10, 22, 23, 24, 25, 26, 27, 28, 29, 30, 31] (by decide +kernel) (by decide +kernel)
set_option maxRecDepth 20000 in
theorem gX9_shape_X9_put : GoodIn wsX9_shape (wsV RX9 50 RX9 yX9_put wsX9_put) := goodIn_app (goodIn_of _ (by decide +kernel)) ggX9_shape_X9_put
set_option maxRecDepth 20000 in
theorem ggX9_shape_X9_pairs : GoodIn wsX9_shape wsX9_pairs := goodIn_r _ [18, 1, 10, 19, 20, 4, 21, 22, 23, 24, 25, 26, 27, 28, 29, 30, 31] (by decide +kernel) (by decide +kernel)
set_option maxRecDepth 20000 in
theorem gX9_shape_X9_pairs : GoodIn wsX9_shape (wsV RX9 58 RX9 yX9_pairs wsX9_pairs) := goodIn_app (goodIn_of _ (by decide +kernel)) ggX9_shape_X9_pairs
theorem dX9_shape_0 : decode cX9_shape 0 = .ok (.iload_n 1, 1) := by decide +kernel
theorem dX9_shape_1 : decode cX9_shape 1 = .ok (.iconst 0, 1) := by decide +kernel
theorem dX9_shape_2 : decode cX9_shape 2 = .ok (.iconst 3, 1) := by decide +kernel
theorem dX9_shape_3 : decode cX9_shape 3 = .ok (.invokestatic 39, 3) := by decide +kernel
theorem dX9_shape_6 : decode cX9_shape 6 = .ok (.ifCond .ne 5, 3) := by decide +kernel
theorem dX9_shape_9 : decode cX9_shape 9 = .ok (.iconst (-1), 1) := by decide +kernel
theorem dX9_shape_10 : decode cX9_shape 10 = .ok (.ireturn, 1) := by decide +kernel
theorem dX9_shape_11 : decode cX9_shape 11 = .ok (.aload_n 0, 1) := by decide +kernel
theorem dX9_shape_12 : decode cX9_shape 12 = .ok (.invokevirtual 43, 3) := by decide +kernel
theorem dX9_shape_15 : decode cX9_shape 15 = .ok (.iconst 0, 1) := by decide +kernel
theorem dX9_shape_16 : decode cX9_shape 16 = .ok (.istore_n 2, 1) := by decide +kernel
theorem dX9_shape_17 : decode cX9_shape 17 = .ok (.iload_n 2, 1) := by decide +kernel
theorem dX9_shape_18 : decode cX9_shape 18 = .ok (.aload_n 0, 1) := by decide +kernel
theorem dX9_shape_19 : decode cX9_shape 19 = .ok (.getfield 7, 3) := by decide +kernel
theorem dX9_shape_22 : decode cX9_shape 22 = .ok (.if_icmp .ge 92, 3) := by decide +kernel
theorem dX9_shape_25 : decode cX9_shape 25 = .ok (.iconst 0, 1) := by decide +kernel
theorem dX9_shape_26 : decode cX9_shape 26 = .ok (.istore_n 3, 1) := by decide +kernel
theorem dX9_shape_27 : decode cX9_shape 27 = .ok (.iload_n 3, 1) := by decide +kernel
theorem dX9_shape_28 : decode cX9_shape 28 = .ok (.iload_n 2, 1) := by decide +kernel
theorem dX9_shape_29 : decode cX9_shape 29 = .ok (.if_icmp .ge 79, 3) := by decide +kernel
theorem dX9_shape_32 : decode cX9_shape 32 = .ok (.iload_n 3, 1) := by decide +kernel
theorem dX9_shape_33 : decode cX9_shape 33 = .ok (.iload_n 2, 1) := by decide +kernel
theorem dX9_shape_34 : decode cX9_shape 34 = .ok (.iconst 1, 1) := by decide +kernel
theorem dX9_shape_35 : decode cX9_shape 35 = .ok (.isub, 1) := by decide +kernel
theorem dX9_shape_36 : decode cX9_shape 36 = .ok (.if_icmp .eq 30, 3) := by decide +kernel
theorem dX9_shape_39 : decode cX9_shape 39 = .ok (.iload_n 1, 1) := by decide +kernel
theorem dX9_shape_40 : decode cX9_shape 40 = .ok (.iconst 1, 1) := by decide +kernel
theorem dX9_shape_41 : decode cX9_shape 41 = .ok (.if_icmp .ne 29, 3) := by decide +kernel
theorem dX9_shape_44 : decode cX9_shape 44 = .ok (.aload_n 0, 1) := by decide +kernel
theorem dX9_shape_45 : decode cX9_shape 45 = .ok (.getfield 7, 3) := by decide +kernel
theorem dX9_shape_48 : decode cX9_shape 48 = .ok (.iconst 2, 1) := by decide +kernel
theorem dX9_shape_49 : decode cX9_shape 49 = .ok (.if_icmp .le 21, 3) := by decide +kernel
theorem dX9_shape_52 : decode cX9_shape 52 = .ok (.iload_n 2, 1) := by decide +kernel
theorem dX9_shape_53 : decode cX9_shape 53 = .ok (.aload_n 0, 1) := by decide +kernel
theorem dX9_shape_54 : decode cX9_shape 54 = .ok (.getfield 7, 3) := by decide +kernel
theorem dX9_shape_57 : decode cX9_shape 57 = .ok (.iconst 1, 1) := by decide +kernel
theorem dX9_shape_58 : decode cX9_shape 58 = .ok (.isub, 1) := by decide +kernel
theorem dX9_shape_59 : decode cX9_shape 59 = .ok (.if_icmp .ne 11, 3) := by decide +kernel
theorem dX9_shape_62 : decode cX9_shape 62 = .ok (.iload_n 3, 1) := by decide +kernel
theorem dX9_shape_63 : decode cX9_shape 63 = .ok (.ifCond .ne 7, 3) := by decide +kernel
theorem dX9_shape_66 : decode cX9_shape 66 = .ok (.iconst 1, 1) := by decide +kernel
theorem dX9_shape_67 : decode cX9_shape 67 = .ok (.goto 4, 3) := by decide +kernel
theorem dX9_shape_70 : decode cX9_shape 70 = .ok (.iconst 0, 1) := by decide +kernel
theorem dX9_shape_71 : decode cX9_shape 71 = .ok (.istore 4, 2) := by decide +kernel
theorem dX9_shape_73 : decode cX9_shape 73 = .ok (.iload_n 1, 1) := by decide +kernel
theorem dX9_shape_74 : decode cX9_shape 74 = .ok (.iconst 2, 1) := by decide +kernel
theorem dX9_shape_75 : decode cX9_shape 75 = .ok (.if_icmp .ge 11, 3) := by decide +kernel
theorem dX9_shape_78 : decode cX9_shape 78 = .ok (.iload 4, 2) := by decide +kernel
theorem dX9_shape_80 : decode cX9_shape 80 = .ok (.ifCond .eq 22, 3) := by decide +kernel
theorem dX9_shape_83 : decode cX9_shape 83 = .ok (.goto 12, 3) := by decide +kernel
theorem dX9_shape_86 : decode cX9_shape 86 = .ok (.iload_n 1, 1) := by decide +kernel
theorem dX9_shape_87 : decode cX9_shape 87 = .ok (.iconst 2, 1) := by decide +kernel
theorem dX9_shape_88 : decode cX9_shape 88 = .ok (.if_icmp .eq 7, 3) := by decide +kernel
theorem dX9_shape_91 : decode cX9_shape 91 = .ok (.iload_n 3, 1) := by decide +kernel
theorem dX9_shape_92 : decode cX9_shape 92 = .ok (.ifCond .ne 10, 3) := by decide +kernel
theorem dX9_shape_95 : decode cX9_shape 95 = .ok (.aload_n 0, 1) := by decide +kernel
theorem dX9_shape_96 : decode cX9_shape 96 = .ok (.iload_n 2, 1) := by decide +kernel
theorem dX9_shape_97 : decode cX9_shape 97 = .ok (.iload_n 3, 1) := by decide +kernel
theorem dX9_shape_98 : decode cX9_shape 98 = .ok (.iconst 1, 1) := by decide +kernel
theorem dX9_shape_99 : decode cX9_shape 99 = .ok (.invokevirtual 50, 3) := by decide +kernel
theorem dX9_shape_102 : decode cX9_shape 102 = .ok (.iinc 3 1, 3) := by decide +kernel
theorem dX9_shape_105 : decode cX9_shape 105 = .ok (.goto (-78), 3) := by decide +kernel
theorem dX9_shape_108 : decode cX9_shape 108 = .ok (.iinc 2 1, 3) := by decide +kernel
theorem dX9_shape_111 : decode cX9_shape 111 = .ok (.goto (-94), 3) := by decide +kernel
theorem dX9_shape_114 : decode cX9_shape 114 = .ok (.aload_n 0, 1) := by decide +kernel
theorem dX9_shape_115 : decode cX9_shape 115 = .ok (.invokevirtual 58, 3) := by decide +kernel
theorem dX9_shape_118 : decode cX9_shape 118 = .ok (.ireturn, 1) := by decide +kernel
set_option maxRecDepth 20000 in
theorem ggX9_set_X9_in : GoodIn wsX9_set wsX9_in := goodIn_r _ [7] (by decide +kernel) (by decide +kernel)
set_option maxRecDepth 20000 in
theorem gX9_set_X9_in : GoodIn wsX9_set (va_wsS RX9 39 yX9_in wsX9_in) := goodIn_app (goodIn_of _ (by decide +kernel)) ggX9_set_X9_in
theorem dX9_set_0 : decode cX9_set 0 = .ok (.iconst (-1), 1) := by decide +kernel
theorem dX9_set_1 : decode cX9_set 1 = .ok (.istore_n 3, 1) := by decide +kernel
theorem dX9_set_2 : decode cX9_set 2 = .ok (.iload_n 1, 1) := by decide +kernel
theorem dX9_set_3 : decode cX9_set 3 = .ok (.ifCond .ne 26, 3) := by decide +kernel
theorem dX9_set_6 : decode cX9_set 6 = .ok (.iload_n 2, 1) := by decide +kernel
theorem dX9_set_7 : decode cX9_set 7 = .ok (.iconst 0, 1) := by decide +kernel
theorem dX9_set_8 : decode cX9_set 8 = .ok (.bipush 9, 2) := by decide +kernel
theorem dX9_set_10 : decode cX9_set 10 = .ok (.invokestatic 39, 3) := by decide +kernel
theorem dX9_set_13 : decode cX9_set 13 = .ok (.ifCond .eq 16, 3) := by decide +kernel
theorem dX9_set_16 : decode cX9_set 16 = .ok (.aload_n 0, 1) := by decide +kernel
theorem dX9_set_17 : decode cX9_set 17 = .ok (.getfield 36, 3) := by decide +kernel
theorem dX9_set_20 : decode cX9_set 20 = .ok (.istore_n 3, 1) := by decide +kernel
