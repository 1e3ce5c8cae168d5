theorem dX9_set_21 : decode cX9_set 21 = .ok (.aload_n 0, 1) := by decide +kernel
theorem dX9_set_22 : decode cX9_set 22 = .ok (.iload_n 2, 1) := by decide +kernel
theorem dX9_set_23 : decode cX9_set 23 = .ok (.putfield 36, 3) := by decide +kernel
theorem dX9_set_26 : decode cX9_set 26 = .ok (.goto 55, 3) := by decide +kernel
theorem dX9_set_29 : decode cX9_set 29 = .ok (.iload_n 1, 1) := by decide +kernel
theorem dX9_set_30 : decode cX9_set 30 = .ok (.iconst 1, 1) := by decide +kernel
theorem dX9_set_31 : decode cX9_set 31 = .ok (.if_icmp .ne 26, 3) := by decide +kernel
theorem dX9_set_34 : decode cX9_set 34 = .ok (.iload_n 2, 1) := by decide +kernel
theorem dX9_set_35 : decode cX9_set 35 = .ok (.iconst 0, 1) := by decide +kernel
theorem dX9_set_36 : decode cX9_set 36 = .ok (.bipush 9, 2) := by decide +kernel
theorem dX9_set_38 : decode cX9_set 38 = .ok (.invokestatic 39, 3) := by decide +kernel
theorem dX9_set_41 : decode cX9_set 41 = .ok (.ifCond .eq 16, 3) := by decide +kernel
theorem dX9_set_44 : decode cX9_set 44 = .ok (.aload_n 0, 1) := by decide +kernel
theorem dX9_set_45 : decode cX9_set 45 = .ok (.getfield 17, 3) := by decide +kernel
theorem dX9_set_48 : decode cX9_set 48 = .ok (.istore_n 3, 1) := by decide +kernel
theorem dX9_set_49 : decode cX9_set 49 = .ok (.aload_n 0, 1) := by decide +kernel
theorem dX9_set_50 : decode cX9_set 50 = .ok (.iload_n 2, 1) := by decide +kernel
theorem dX9_set_51 : decode cX9_set 51 = .ok (.putfield 17, 3) := by decide +kernel
theorem dX9_set_54 : decode cX9_set 54 = .ok (.goto 27, 3) := by decide +kernel
theorem dX9_set_57 : decode cX9_set 57 = .ok (.iload_n 1, 1) := by decide +kernel
theorem dX9_set_58 : decode cX9_set 58 = .ok (.iconst 2, 1) := by decide +kernel
theorem dX9_set_59 : decode cX9_set 59 = .ok (.if_icmp .ne 22, 3) := by decide +kernel
theorem dX9_set_62 : decode cX9_set 62 = .ok (.iload_n 2, 1) := by decide +kernel
theorem dX9_set_63 : decode cX9_set 63 = .ok (.iconst 1, 1) := by decide +kernel
theorem dX9_set_64 : decode cX9_set 64 = .ok (.iconst 4, 1) := by decide +kernel
theorem dX9_set_65 : decode cX9_set 65 = .ok (.invokestatic 39, 3) := by decide +kernel
theorem dX9_set_68 : decode cX9_set 68 = .ok (.ifCond .eq 13, 3) := by decide +kernel
theorem dX9_set_71 : decode cX9_set 71 = .ok (.aload_n 0, 1) := by decide +kernel
theorem dX9_set_72 : decode cX9_set 72 = .ok (.getfield 20, 3) := by decide +kernel
theorem dX9_set_75 : decode cX9_set 75 = .ok (.istore_n 3, 1) := by decide +kernel
theorem dX9_set_76 : decode cX9_set 76 = .ok (.aload_n 0, 1) := by decide +kernel
theorem dX9_set_77 : decode cX9_set 77 = .ok (.iload_n 2, 1) := by decide +kernel
theorem dX9_set_78 : decode cX9_set 78 = .ok (.putfield 20, 3) := by decide +kernel
theorem dX9_set_81 : decode cX9_set 81 = .ok (.iload_n 3, 1) := by decide +kernel
theorem dX9_set_82 : decode cX9_set 82 = .ok (.ireturn, 1) := by decide +kernel
theorem dX9_isLawful_0 : decode cX9_isLawful 0 = .ok (.iconst 1, 1) := by decide +kernel
theorem dX9_isLawful_1 : decode cX9_isLawful 1 = .ok (.istore_n 3, 1) := by decide +kernel
theorem dX9_isLawful_2 : decode cX9_isLawful 2 = .ok (.iconst 0, 1) := by decide +kernel
theorem dX9_isLawful_3 : decode cX9_isLawful 3 = .ok (.istore 4, 2) := by decide +kernel
theorem dX9_isLawful_5 : decode cX9_isLawful 5 = .ok (.iload 4, 2) := by decide +kernel
theorem dX9_isLawful_7 : decode cX9_isLawful 7 = .ok (.aload_n 0, 1) := by decide +kernel
theorem dX9_isLawful_8 : decode cX9_isLawful 8 = .ok (.getfield 7, 3) := by decide +kernel
theorem dX9_isLawful_11 : decode cX9_isLawful 11 = .ok (.if_icmp .ge 98, 3) := by decide +kernel
theorem dX9_isLawful_14 : decode cX9_isLawful 14 = .ok (.iload_n 2, 1) := by decide +kernel
theorem dX9_isLawful_15 : decode cX9_isLawful 15 = .ok (.iload 4, 2) := by decide +kernel
theorem dX9_isLawful_17 : decode cX9_isLawful 17 = .ok (.ishr, 1) := by decide +kernel
theorem dX9_isLawful_18 : decode cX9_isLawful 18 = .ok (.iconst 1, 1) := by decide +kernel
theorem dX9_isLawful_19 : decode cX9_isLawful 19 = .ok (.iand, 1) := by decide +kernel
theorem dX9_isLawful_20 : decode cX9_isLawful 20 = .ok (.iconst 1, 1) := by decide +kernel
theorem dX9_isLawful_21 : decode cX9_isLawful 21 = .ok (.if_icmp .ne 7, 3) := by decide +kernel
theorem dX9_isLawful_24 : decode cX9_isLawful 24 = .ok (.iconst 1, 1) := by decide +kernel
theorem dX9_isLawful_25 : decode cX9_isLawful 25 = .ok (.goto 4, 3) := by decide +kernel
theorem dX9_isLawful_28 : decode cX9_isLawful 28 = .ok (.iconst 0, 1) := by decide +kernel
theorem dX9_isLawful_29 : decode cX9_isLawful 29 = .ok (.istore 5, 2) := by decide +kernel
theorem dX9_isLawful_31 : decode cX9_isLawful 31 = .ok (.aload_n 0, 1) := by decide +kernel
theorem dX9_isLawful_32 : decode cX9_isLawful 32 = .ok (.getfield 13, 3) := by decide +kernel
theorem dX9_isLawful_35 : decode cX9_isLawful 35 = .ok (.iload 4, 2) := by decide +kernel
theorem dX9_isLawful_37 : decode cX9_isLawful 37 = .ok (.iaload, 1) := by decide +kernel
theorem dX9_isLawful_38 : decode cX9_isLawful 38 = .ok (.istore 6, 2) := by decide +kernel
theorem dX9_isLawful_40 : decode cX9_isLawful 40 = .ok (.iload_n 3, 1) := by decide +kernel
theorem dX9_isLawful_41 : decode cX9_isLawful 41 = .ok (.ifCond .eq 60, 3) := by decide +kernel
theorem dX9_isLawful_44 : decode cX9_isLawful 44 = .ok (.iload_n 1, 1) := by decide +kernel
theorem dX9_isLawful_45 : decode cX9_isLawful 45 = .ok (.ifCond .ne 18, 3) := by decide +kernel
theorem dX9_isLawful_48 : decode cX9_isLawful 48 = .ok (.iload 5, 2) := by decide +kernel
theorem dX9_isLawful_50 : decode cX9_isLawful 50 = .ok (.ifCond .eq 47, 3) := by decide +kernel
theorem dX9_isLawful_53 : decode cX9_isLawful 53 = .ok (.iload 6, 2) := by decide +kernel
theorem dX9_isLawful_55 : decode cX9_isLawful 55 = .ok (.iload_n 2, 1) := by decide +kernel
theorem dX9_isLawful_56 : decode cX9_isLawful 56 = .ok (.iand, 1) := by decide +kernel
theorem dX9_isLawful_57 : decode cX9_isLawful 57 = .ok (.ifCond .ne 44, 3) := by decide +kernel
theorem dX9_isLawful_60 : decode cX9_isLawful 60 = .ok (.goto 37, 3) := by decide +kernel
theorem dX9_isLawful_63 : decode cX9_isLawful 63 = .ok (.iload_n 1, 1) := by decide +kernel
theorem dX9_isLawful_64 : decode cX9_isLawful 64 = .ok (.iconst 1, 1) := by decide +kernel
theorem dX9_isLawful_65 : decode cX9_isLawful 65 = .ok (.if_icmp .ne 20, 3) := by decide +kernel
theorem dX9_isLawful_68 : decode cX9_isLawful 68 = .ok (.iload 5, 2) := by decide +kernel
theorem dX9_isLawful_70 : decode cX9_isLawful 70 = .ok (.ifCond .ne 27, 3) := by decide +kernel
theorem dX9_isLawful_73 : decode cX9_isLawful 73 = .ok (.iload 6, 2) := by decide +kernel
theorem dX9_isLawful_75 : decode cX9_isLawful 75 = .ok (.iload_n 2, 1) := by decide +kernel
theorem dX9_isLawful_76 : decode cX9_isLawful 76 = .ok (.iconst (-1), 1) := by decide +kernel
theorem dX9_isLawful_77 : decode cX9_isLawful 77 = .ok (.ixor, 1) := by decide +kernel
theorem dX9_isLawful_78 : decode cX9_isLawful 78 = .ok (.iand, 1) := by decide +kernel
theorem dX9_isLawful_79 : decode cX9_isLawful 79 = .ok (.ifCond .ne 22, 3) := by decide +kernel
theorem dX9_isLawful_82 : decode cX9_isLawful 82 = .ok (.goto 15, 3) := by decide +kernel
theorem dX9_isLawful_85 : decode cX9_isLawful 85 = .ok (.iload 5, 2) := by decide +kernel
theorem dX9_isLawful_87 : decode cX9_isLawful 87 = .ok (.ifCond .ne 10, 3) := by decide +kernel
theorem dX9_isLawful_90 : decode cX9_isLawful 90 = .ok (.iload 6, 2) := by decide +kernel
theorem dX9_isLawful_92 : decode cX9_isLawful 92 = .ok (.iload_n 2, 1) := by decide +kernel
theorem dX9_isLawful_93 : decode cX9_isLawful 93 = .ok (.iand, 1) := by decide +kernel
theorem dX9_isLawful_94 : decode cX9_isLawful 94 = .ok (.ifCond .eq 7, 3) := by decide +kernel
theorem dX9_isLawful_97 : decode cX9_isLawful 97 = .ok (.iconst 1, 1) := by decide +kernel
theorem dX9_isLawful_98 : decode cX9_isLawful 98 = .ok (.goto 4, 3) := by decide +kernel
theorem dX9_isLawful_101 : decode cX9_isLawful 101 = .ok (.iconst 0, 1) := by decide +kernel
theorem dX9_isLawful_102 : decode cX9_isLawful 102 = .ok (.istore_n 3, 1) := by decide +kernel
theorem dX9_isLawful_103 : decode cX9_isLawful 103 = .ok (.iinc 4 1, 3) := by decide +kernel
theorem dX9_isLawful_106 : decode cX9_isLawful 106 = .ok (.goto (-101), 3) := by decide +kernel
theorem dX9_isLawful_109 : decode cX9_isLawful 109 = .ok (.iload_n 3, 1) := by decide +kernel
theorem dX9_isLawful_110 : decode cX9_isLawful 110 = .ok (.ireturn, 1) := by decide +kernel
set_option maxRecDepth 20000 in
theorem ggX9_lawful_X9_isKind : GoodIn wsX9_lawful wsX9_isKind := goodIn_r _ [4, 5, 6, 3, 7] (by decide +kernel) (by decide +kernel)
set_option maxRecDepth 20000 in
theorem gX9_lawful_X9_isKind : GoodIn wsX9_lawful (va_wsS RX9 62 yX9_isKind wsX9_isKind) := goodIn_app (goodIn_of _ (by decide +kernel)) ggX9_lawful_X9_isKind
set_option maxRecDepth 20000 in
theorem ggX9_lawful_X9_isSet : GoodIn wsX9_lawful wsX9_isSet := goodIn_r _ [11, 12, 5, 6, 3, 7, 18, 19, 20, 21, 22, 23, 24, 25, 26, 27] (by decide +kernel) (by decide +kernel)
set_option maxRecDepth 20000 in
theorem gX9_lawful_X9_isSet : GoodIn wsX9_lawful (wsV RX9 65 RX9 yX9_isSet wsX9_isSet) := goodIn_app (goodIn_of _ (by decide +kernel)) ggX9_lawful_X9_isSet
set_option maxRecDepth 20000 in
theorem ggX9_lawful_X9_isLawful : GoodIn wsX9_lawful wsX9_isLawful := goodIn_r _ [16, 12, 17, 18, 19, 20, 21, 22, 23, 24, 25, 26, 27] (by decide +kernel) (by decide +kernel)
set_option maxRecDepth 20000 in
theorem gX9_lawful_X9_isLawful : GoodIn wsX9_lawful (wsV RX9 68 RX9 yX9_isLawful wsX9_isLawful) := goodIn_app (goodIn_of _ (by decide +kernel)) ggX9_lawful_X9_isLawful
theorem dX9_lawful_0 : decode cX9_lawful 0 = .ok (.iload_n 1, 1) := by decide +kernel
theorem dX9_lawful_1 : decode cX9_lawful 1 = .ok (.invokestatic 62, 3) := by decide +kernel
theorem dX9_lawful_4 : decode cX9_lawful 4 = .ok (.ifCond .eq 11, 3) := by decide +kernel
theorem dX9_lawful_7 : decode cX9_lawful 7 = .ok (.aload_n 0, 1) := by decide +kernel
theorem dX9_lawful_8 : decode cX9_lawful 8 = .ok (.iload_n 2, 1) := by decide +kernel
theorem dX9_lawful_9 : decode cX9_lawful 9 = .ok (.invokevirtual 65, 3) := by decide +kernel
theorem dX9_lawful_12 : decode cX9_lawful 12 = .ok (.ifCond .ne 7, 3) := by decide +kernel
theorem dX9_lawful_15 : decode cX9_lawful 15 = .ok (.iconst (-1), 1) := by decide +kernel
theorem dX9_lawful_16 : decode cX9_lawful 16 = .ok (.goto 17, 3) := by decide +kernel
theorem dX9_lawful_19 : decode cX9_lawful 19 = .ok (.aload_n 0, 1) := by decide +kernel
theorem dX9_lawful_20 : decode cX9_lawful 20 = .ok (.iload_n 1, 1) := by decide +kernel
theorem dX9_lawful_21 : decode cX9_lawful 21 = .ok (.iload_n 2, 1) := by decide +kernel
theorem dX9_lawful_22 : decode cX9_lawful 22 = .ok (.invokevirtual 68, 3) := by decide +kernel
theorem dX9_lawful_25 : decode cX9_lawful 25 = .ok (.ifCond .eq 7, 3) := by decide +kernel
theorem dX9_lawful_28 : decode cX9_lawful 28 = .ok (.iconst 1, 1) := by decide +kernel
theorem dX9_lawful_29 : decode cX9_lawful 29 = .ok (.goto 4, 3) := by decide +kernel
theorem dX9_lawful_32 : decode cX9_lawful 32 = .ok (.iconst 0, 1) := by decide +kernel
theorem dX9_lawful_33 : decode cX9_lawful 33 = .ok (.ireturn, 1) := by decide +kernel
set_option maxRecDepth 20000 in
theorem ggX9_count_X9_isKind : GoodIn wsX9_count wsX9_isKind := goodIn_r _ [5, 6, 7, 4, 8] (by decide +kernel) (by decide +kernel)
set_option maxRecDepth 20000 in
theorem gX9_count_X9_isKind : GoodIn wsX9_count (va_wsS RX9 62 yX9_isKind wsX9_isKind) := goodIn_app (goodIn_of _ (by decide +kernel)) ggX9_count_X9_isKind
set_option maxRecDepth 20000 in
theorem ggX9_count_X9_in : GoodIn wsX9_count wsX9_in := goodIn_r _ [8] (by decide +kernel) (by decide +kernel)
set_option maxRecDepth 20000 in
theorem gX9_count_X9_in : GoodIn wsX9_count (va_wsS RX9 39 yX9_in wsX9_in) := goodIn_app (goodIn_of _ (by decide +kernel)) ggX9_count_X9_in
set_option maxRecDepth 20000 in
theorem ggX9_count_X9_size : GoodIn wsX9_count wsX9_size := goodIn_r _ [11] (by decide +kernel) (by decide +kernel)
set_option maxRecDepth 20000 in
theorem gX9_count_X9_size : GoodIn wsX9_count (va_wsS RX9 54 yX9_size wsX9_size) := goodIn_app (goodIn_of _ (by decide +kernel)) ggX9_count_X9_size
set_option maxRecDepth 20000 in
theorem ggX9_count_X9_isLawful : GoodIn wsX9_count wsX9_isLawful := goodIn_r _ [15, 1, 16, 17, 18, 19, 20, 21, 22, 23, 24, 25, 26] (by decide +kernel) (by decide +kernel)
set_option maxRecDepth 20000 in
theorem gX9_count_X9_isLawful : GoodIn wsX9_count (wsV RX9 68 RX9 yX9_isLawful wsX9_isLawful) := goodIn_app (goodIn_of _ (by decide +kernel)) ggX9_count_X9_isLawful
theorem dX9_count_0 : decode cX9_count 0 = .ok (.iload_n 1, 1) := by decide +kernel
theorem dX9_count_1 : decode cX9_count 1 = .ok (.invokestatic 62, 3) := by decide +kernel
theorem dX9_count_4 : decode cX9_count 4 = .ok (.ifCond .eq 15, 3) := by decide +kernel
theorem dX9_count_7 : decode cX9_count 7 = .ok (.iload_n 2, 1) := by decide +kernel
theorem dX9_count_8 : decode cX9_count 8 = .ok (.iconst (-1), 1) := by decide +kernel
theorem dX9_count_9 : decode cX9_count 9 = .ok (.aload_n 0, 1) := by decide +kernel
theorem dX9_count_10 : decode cX9_count 10 = .ok (.getfield 7, 3) := by decide +kernel
theorem dX9_count_13 : decode cX9_count 13 = .ok (.invokestatic 39, 3) := by decide +kernel
theorem dX9_count_16 : decode cX9_count 16 = .ok (.ifCond .ne 5, 3) := by decide +kernel
theorem dX9_count_19 : decode cX9_count 19 = .ok (.iconst (-1), 1) := by decide +kernel
theorem dX9_count_20 : decode cX9_count 20 = .ok (.ireturn, 1) := by decide +kernel
theorem dX9_count_21 : decode cX9_count 21 = .ok (.iconst 0, 1) := by decide +kernel
theorem dX9_count_22 : decode cX9_count 22 = .ok (.istore_n 3, 1) := by decide +kernel
theorem dX9_count_23 : decode cX9_count 23 = .ok (.iconst 0, 1) := by decide +kernel
theorem dX9_count_24 : decode cX9_count 24 = .ok (.istore 4, 2) := by decide +kernel
theorem dX9_count_26 : decode cX9_count 26 = .ok (.iload 4, 2) := by decide +kernel
theorem dX9_count_28 : decode cX9_count 28 = .ok (.iconst 1, 1) := by decide +kernel
theorem dX9_count_29 : decode cX9_count 29 = .ok (.aload_n 0, 1) := by decide +kernel
theorem dX9_count_30 : decode cX9_count 30 = .ok (.getfield 7, 3) := by decide +kernel
theorem dX9_count_33 : decode cX9_count 33 = .ok (.ishl, 1) := by decide +kernel
theorem dX9_count_34 : decode cX9_count 34 = .ok (.if_icmp .ge 40, 3) := by decide +kernel
theorem dX9_count_37 : decode cX9_count 37 = .ok (.iload_n 3, 1) := by decide +kernel
theorem dX9_count_38 : decode cX9_count 38 = .ok (.iload_n 2, 1) := by decide +kernel
theorem dX9_count_39 : decode cX9_count 39 = .ok (.ifCond .lt 12, 3) := by decide +kernel
theorem dX9_count_42 : decode cX9_count 42 = .ok (.iload 4, 2) := by decide +kernel
theorem dX9_count_44 : decode cX9_count 44 = .ok (.invokestatic 54, 3) := by decide +kernel
theorem dX9_count_47 : decode cX9_count 47 = .ok (.iload_n 2, 1) := by decide +kernel
theorem dX9_count_48 : decode cX9_count 48 = .ok (.if_icmp .ne 17, 3) := by decide +kernel
theorem dX9_count_51 : decode cX9_count 51 = .ok (.aload_n 0, 1) := by decide +kernel
theorem dX9_count_52 : decode cX9_count 52 = .ok (.iload_n 1, 1) := by decide +kernel
theorem dX9_count_53 : decode cX9_count 53 = .ok (.iload 4, 2) := by decide +kernel
theorem dX9_count_55 : decode cX9_count 55 = .ok (.invokevirtual 68, 3) := by decide +kernel
theorem dX9_count_58 : decode cX9_count 58 = .ok (.ifCond .eq 7, 3) := by decide +kernel
theorem dX9_count_61 : decode cX9_count 61 = .ok (.iconst 1, 1) := by decide +kernel
theorem dX9_count_62 : decode cX9_count 62 = .ok (.goto 4, 3) := by decide +kernel
theorem dX9_count_65 : decode cX9_count 65 = .ok (.iconst 0, 1) := by decide +kernel
theorem dX9_count_66 : decode cX9_count 66 = .ok (.iadd, 1) := by decide +kernel
theorem dX9_count_67 : decode cX9_count 67 = .ok (.istore_n 3, 1) := by decide +kernel
theorem dX9_count_68 : decode cX9_count 68 = .ok (.iinc 4 1, 3) := by decide +kernel
theorem dX9_count_71 : decode cX9_count 71 = .ok (.goto (-45), 3) := by decide +kernel
theorem dX9_count_74 : decode cX9_count 74 = .ok (.iload_n 3, 1) := by decide +kernel
theorem dX9_count_75 : decode cX9_count 75 = .ok (.ireturn, 1) := by decide +kernel
set_option maxRecDepth 20000 in
theorem ggX9_weightOf_X9_size : GoodIn wsX9_weightOf wsX9_size := goodIn_r _ [5] (by decide +kernel) (by decide +kernel)
set_option maxRecDepth 20000 in
theorem gX9_weightOf_X9_size : GoodIn wsX9_weightOf (va_wsS RX9 54 yX9_size wsX9_size) := goodIn_app (goodIn_of _ (by decide +kernel)) ggX9_weightOf_X9_size
theorem dX9_weightOf_0 : decode cX9_weightOf 0 = .ok (.iload_n 2, 1) := by decide +kernel
theorem dX9_weightOf_1 : decode cX9_weightOf 1 = .ok (.iload_n 3, 1) := by decide +kernel
theorem dX9_weightOf_2 : decode cX9_weightOf 2 = .ok (.iconst (-1), 1) := by decide +kernel
theorem dX9_weightOf_3 : decode cX9_weightOf 3 = .ok (.ixor, 1) := by decide +kernel
theorem dX9_weightOf_4 : decode cX9_weightOf 4 = .ok (.iand, 1) := by decide +kernel
theorem dX9_weightOf_5 : decode cX9_weightOf 5 = .ok (.istore 4, 2) := by decide +kernel
theorem dX9_weightOf_7 : decode cX9_weightOf 7 = .ok (.iload_n 3, 1) := by decide +kernel
theorem dX9_weightOf_8 : decode cX9_weightOf 8 = .ok (.iload_n 2, 1) := by decide +kernel
theorem dX9_weightOf_9 : decode cX9_weightOf 9 = .ok (.iconst (-1), 1) := by decide +kernel
theorem dX9_weightOf_10 : decode cX9_weightOf 10 = .ok (.ixor, 1) := by decide +kernel
theorem dX9_weightOf_11 : decode cX9_weightOf 11 = .ok (.iand, 1) := by decide +kernel
theorem dX9_weightOf_12 : decode cX9_weightOf 12 = .ok (.istore 5, 2) := by decide +kernel
theorem dX9_weightOf_14 : decode cX9_weightOf 14 = .ok (.iload 4, 2) := by decide +kernel
theorem dX9_weightOf_16 : decode cX9_weightOf 16 = .ok (.invokestatic 54, 3) := by decide +kernel
theorem dX9_weightOf_19 : decode cX9_weightOf 19 = .ok (.iconst 1, 1) := by decide +kernel
theorem dX9_weightOf_20 : decode cX9_weightOf 20 = .ok (.if_icmp .ne 58, 3) := by decide +kernel
theorem dX9_weightOf_23 : decode cX9_weightOf 23 = .ok (.iload 5, 2) := by decide +kernel
theorem dX9_weightOf_25 : decode cX9_weightOf 25 = .ok (.invokestatic 54, 3) := by decide +kernel
theorem dX9_weightOf_28 : decode cX9_weightOf 28 = .ok (.iconst 1, 1) := by decide +kernel
theorem dX9_weightOf_29 : decode cX9_weightOf 29 = .ok (.if_icmp .ne 49, 3) := by decide +kernel
theorem dX9_weightOf_32 : decode cX9_weightOf 32 = .ok (.iconst 0, 1) := by decide +kernel
theorem dX9_weightOf_33 : decode cX9_weightOf 33 = .ok (.istore 6, 2) := by decide +kernel
theorem dX9_weightOf_35 : decode cX9_weightOf 35 = .ok (.iload 4, 2) := by decide +kernel
theorem dX9_weightOf_37 : decode cX9_weightOf 37 = .ok (.iload 6, 2) := by decide +kernel
theorem dX9_weightOf_39 : decode cX9_weightOf 39 = .ok (.ishr, 1) := by decide +kernel
theorem dX9_weightOf_40 : decode cX9_weightOf 40 = .ok (.iconst 1, 1) := by decide +kernel
theorem dX9_weightOf_41 : decode cX9_weightOf 41 = .ok (.iand, 1) := by decide +kernel
theorem dX9_weightOf_42 : decode cX9_weightOf 42 = .ok (.ifCond .ne 9, 3) := by decide +kernel
theorem dX9_weightOf_45 : decode cX9_weightOf 45 = .ok (.iinc 6 1, 3) := by decide +kernel
theorem dX9_weightOf_48 : decode cX9_weightOf 48 = .ok (.goto (-13), 3) := by decide +kernel
theorem dX9_weightOf_51 : decode cX9_weightOf 51 = .ok (.aload_n 0, 1) := by decide +kernel
theorem dX9_weightOf_52 : decode cX9_weightOf 52 = .ok (.getfield 13, 3) := by decide +kernel
theorem dX9_weightOf_55 : decode cX9_weightOf 55 = .ok (.iload 6, 2) := by decide +kernel
theorem dX9_weightOf_57 : decode cX9_weightOf 57 = .ok (.iaload, 1) := by decide +kernel
theorem dX9_weightOf_58 : decode cX9_weightOf 58 = .ok (.iload 5, 2) := by decide +kernel
theorem dX9_weightOf_60 : decode cX9_weightOf 60 = .ok (.iand, 1) := by decide +kernel
theorem dX9_weightOf_61 : decode cX9_weightOf 61 = .ok (.ifCond .eq 7, 3) := by decide +kernel
theorem dX9_weightOf_64 : decode cX9_weightOf 64 = .ok (.iconst 1, 1) := by decide +kernel
theorem dX9_weightOf_65 : decode cX9_weightOf 65 = .ok (.goto 12, 3) := by decide +kernel
theorem dX9_weightOf_68 : decode cX9_weightOf 68 = .ok (.iload_n 1, 1) := by decide +kernel
theorem dX9_weightOf_69 : decode cX9_weightOf 69 = .ok (.ifCond .le 7, 3) := by decide +kernel
theorem dX9_weightOf_72 : decode cX9_weightOf 72 = .ok (.iconst 2, 1) := by decide +kernel
theorem dX9_weightOf_73 : decode cX9_weightOf 73 = .ok (.goto 4, 3) := by decide +kernel
theorem dX9_weightOf_76 : decode cX9_weightOf 76 = .ok (.iconst 0, 1) := by decide +kernel
theorem dX9_weightOf_77 : decode cX9_weightOf 77 = .ok (.ireturn, 1) := by decide +kernel
theorem dX9_weightOf_78 : decode cX9_weightOf 78 = .ok (.iload_n 1, 1) := by decide +kernel
theorem dX9_weightOf_79 : decode cX9_weightOf 79 = .ok (.iconst 2, 1) := by decide +kernel
theorem dX9_weightOf_80 : decode cX9_weightOf 80 = .ok (.if_icmp .ne 22, 3) := by decide +kernel
theorem dX9_weightOf_83 : decode cX9_weightOf 83 = .ok (.iload 4, 2) := by decide +kernel
theorem dX9_weightOf_85 : decode cX9_weightOf 85 = .ok (.invokestatic 54, 3) := by decide +kernel
theorem dX9_weightOf_88 : decode cX9_weightOf 88 = .ok (.iload 5, 2) := by decide +kernel
theorem dX9_weightOf_90 : decode cX9_weightOf 90 = .ok (.invokestatic 54, 3) := by decide +kernel
theorem dX9_weightOf_93 : decode cX9_weightOf 93 = .ok (.iadd, 1) := by decide +kernel
theorem dX9_weightOf_94 : decode cX9_weightOf 94 = .ok (.iconst 1, 1) := by decide +kernel
theorem dX9_weightOf_95 : decode cX9_weightOf 95 = .ok (.if_icmp .ne 7, 3) := by decide +kernel
theorem dX9_weightOf_98 : decode cX9_weightOf 98 = .ok (.iconst 3, 1) := by decide +kernel
theorem dX9_weightOf_99 : decode cX9_weightOf 99 = .ok (.goto 4, 3) := by decide +kernel
theorem dX9_weightOf_102 : decode cX9_weightOf 102 = .ok (.iconst 0, 1) := by decide +kernel
theorem dX9_weightOf_103 : decode cX9_weightOf 103 = .ok (.ireturn, 1) := by decide +kernel
set_option maxRecDepth 20000 in
theorem ggX9_weight_X9_isKind : GoodIn wsX9_weight wsX9_isKind := goodIn_r _ [7, 8, 9, 6, 10] (by decide +kernel) (by decide +kernel)
set_option maxRecDepth 20000 in
theorem gX9_weight_X9_isKind : GoodIn wsX9_weight (va_wsS RX9 62 yX9_isKind wsX9_isKind) := goodIn_app (goodIn_of _ (by decide +kernel)) ggX9_weight_X9_isKind
set_option maxRecDepth 20000 in
theorem ggX9_weight_X9_isSet : GoodIn wsX9_weight wsX9_isSet := goodIn_r _ [14, 15, 8, 9, 6, 10, 24, 25, 26, 27, 28, 29, 30, 31, 32, 33] (by decide +kernel) (by decide +kernel)
set_option maxRecDepth 20000 in
theorem gX9_weight_X9_isSet : GoodIn wsX9_weight (wsV RX9 65 RX9 yX9_isSet wsX9_isSet) := goodIn_app (goodIn_of _ (by decide +kernel)) ggX9_weight_X9_isSet
set_option maxRecDepth 20000 in
theorem ggX9_weight_X9_weightOf : GoodIn wsX9_weight wsX9_weightOf := goodIn_r _ [19, 20, 21, 22, 6, 23, 24, 25, 26, 27, 28, 29, 30, 31, 32, 33] (by decide +kernel) (by decide +kernel)
set_option maxRecDepth 20000 in
theorem gX9_weight_X9_weightOf : GoodIn wsX9_weight (wsV RX9 80 RX9 yX9_weightOf wsX9_weightOf) := goodIn_app (goodIn_of _ (by decide +kernel)) ggX9_weight_X9_weightOf
theorem dX9_weight_0 : decode cX9_weight 0 = .ok (.iload_n 1, 1) := by decide +kernel
theorem dX9_weight_1 : decode cX9_weight 1 = .ok (.invokestatic 62, 3) := by decide +kernel
theorem dX9_weight_4 : decode cX9_weight 4 = .ok (.ifCond .eq 19, 3) := by decide +kernel
theorem dX9_weight_7 : decode cX9_weight 7 = .ok (.aload_n 0, 1) := by decide +kernel
theorem dX9_weight_8 : decode cX9_weight 8 = .ok (.iload_n 2, 1) := by decide +kernel
theorem dX9_weight_9 : decode cX9_weight 9 = .ok (.invokevirtual 65, 3) := by decide +kernel
theorem dX9_weight_12 : decode cX9_weight 12 = .ok (.ifCond .eq 11, 3) := by decide +kernel
theorem dX9_weight_15 : decode cX9_weight 15 = .ok (.aload_n 0, 1) := by decide +kernel
theorem dX9_weight_16 : decode cX9_weight 16 = .ok (.iload_n 3, 1) := by decide +kernel
theorem dX9_weight_17 : decode cX9_weight 17 = .ok (.invokevirtual 65, 3) := by decide +kernel
theorem dX9_weight_20 : decode cX9_weight 20 = .ok (.ifCond .ne 5, 3) := by decide +kernel
theorem dX9_weight_23 : decode cX9_weight 23 = .ok (.iconst (-1), 1) := by decide +kernel
theorem dX9_weight_24 : decode cX9_weight 24 = .ok (.ireturn, 1) := by decide +kernel
theorem dX9_weight_25 : decode cX9_weight 25 = .ok (.aload_n 0, 1) := by decide +kernel
theorem dX9_weight_26 : decode cX9_weight 26 = .ok (.dup, 1) := by decide +kernel
theorem dX9_weight_27 : decode cX9_weight 27 = .ok (.getfield 72, 3) := by decide +kernel
theorem dX9_weight_30 : decode cX9_weight 30 = .ok (.iload_n 1, 1) := by decide +kernel
theorem dX9_weight_31 : decode cX9_weight 31 = .ok (.ifCond .ne 7, 3) := by decide +kernel
theorem dX9_weight_34 : decode cX9_weight 34 = .ok (.lconst 1, 1) := by decide +kernel
theorem dX9_weight_35 : decode cX9_weight 35 = .ok (.goto 17, 3) := by decide +kernel
theorem dX9_weight_38 : decode cX9_weight 38 = .ok (.iload_n 1, 1) := by decide +kernel
theorem dX9_weight_39 : decode cX9_weight 39 = .ok (.iconst 1, 1) := by decide +kernel
theorem dX9_weight_40 : decode cX9_weight 40 = .ok (.if_icmp .ne 9, 3) := by decide +kernel
theorem dX9_weight_43 : decode cX9_weight 43 = .ok (.ldc2_w 76, 3) := by decide +kernel
theorem dX9_weight_46 : decode cX9_weight 46 = .ok (.goto 6, 3) := by decide +kernel
theorem dX9_weight_49 : decode cX9_weight 49 = .ok (.ldc2_w 78, 3) := by decide +kernel
theorem dX9_weight_52 : decode cX9_weight 52 = .ok (.ladd, 1) := by decide +kernel
theorem dX9_weight_53 : decode cX9_weight 53 = .ok (.putfield 72, 3) := by decide +kernel
theorem dX9_weight_56 : decode cX9_weight 56 = .ok (.aload_n 0, 1) := by decide +kernel
theorem dX9_weight_57 : decode cX9_weight 57 = .ok (.iload_n 1, 1) := by decide +kernel
theorem dX9_weight_58 : decode cX9_weight 58 = .ok (.iload_n 2, 1) := by decide +kernel
theorem dX9_weight_59 : decode cX9_weight 59 = .ok (.iload_n 3, 1) := by decide +kernel
theorem dX9_weight_60 : decode cX9_weight 60 = .ok (.invokevirtual 80, 3) := by decide +kernel
theorem dX9_weight_63 : decode cX9_weight 63 = .ok (.ireturn, 1) := by decide +kernel
set_option maxRecDepth 20000 in
theorem ggX9_canBe_X9_isLawful : GoodIn wsX9_canBe wsX9_isLawful := goodIn_r _ [7, 8, 9, 16, 17, 18, 19, 20, 21, 22, 23, 24, 25] (by decide +kernel) (by decide +kernel)
set_option maxRecDepth 20000 in
theorem gX9_canBe_X9_isLawful : GoodIn wsX9_canBe (wsV RX9 68 RX9 yX9_isLawful wsX9_isLawful) := goodIn_app (goodIn_of _ (by decide +kernel)) ggX9_canBe_X9_isLawful
set_option maxRecDepth 20000 in
theorem ggX9_canBe_X9_size : GoodIn wsX9_canBe wsX9_size := goodIn_r _ [12] (by decide +kernel) (by decide +kernel)
set_option maxRecDepth 20000 in
theorem gX9_canBe_X9_size : GoodIn wsX9_canBe (va_wsS RX9 54 yX9_size wsX9_size) := goodIn_app (goodIn_of _ (by decide +kernel)) ggX9_canBe_X9_size
set_option maxRecDepth 20000 in
theorem ggX9_canBe_X9_in : GoodIn wsX9_canBe wsX9_in := goodIn_r _ [15] (by decide +kernel) (by decide +kernel)
set_option maxRecDepth 20000 in
theorem gX9_canBe_X9_in : GoodIn wsX9_canBe (va_wsS RX9 39 yX9_in wsX9_in) := goodIn_app (goodIn_of _ (by decide +kernel)) ggX9_canBe_X9_in
theorem dX9_canBe_0 : decode cX9_canBe 0 = .ok (.aload_n 0, 1) := by decide +kernel
theorem dX9_canBe_1 : decode cX9_canBe 1 = .ok (.iload_n 1, 1) := by decide +kernel
theorem dX9_canBe_2 : decode cX9_canBe 2 = .ok (.iload_n 3, 1) := by decide +kernel
theorem dX9_canBe_3 : decode cX9_canBe 3 = .ok (.invokevirtual 68, 3) := by decide +kernel
theorem dX9_canBe_6 : decode cX9_canBe 6 = .ok (.ifCond .eq 30, 3) := by decide +kernel
theorem dX9_canBe_9 : decode cX9_canBe 9 = .ok (.iload_n 2, 1) := by decide +kernel
theorem dX9_canBe_10 : decode cX9_canBe 10 = .ok (.iconst 2, 1) := by decide +kernel
theorem dX9_canBe_11 : decode cX9_canBe 11 = .ok (.if_icmp .lt 21, 3) := by decide +kernel
theorem dX9_canBe_14 : decode cX9_canBe 14 = .ok (.iload_n 3, 1) := by decide +kernel
theorem dX9_canBe_15 : decode cX9_canBe 15 = .ok (.invokestatic 54, 3) := by decide +kernel
theorem dX9_canBe_18 : decode cX9_canBe 18 = .ok (.aload_n 0, 1) := by decide +kernel
theorem dX9_canBe_19 : decode cX9_canBe 19 = .ok (.getfield 36, 3) := by decide +kernel
theorem dX9_canBe_22 : decode cX9_canBe 22 = .ok (.aload_n 0, 1) := by decide +kernel
theorem dX9_canBe_23 : decode cX9_canBe 23 = .ok (.getfield 17, 3) := by decide +kernel
theorem dX9_canBe_26 : decode cX9_canBe 26 = .ok (.invokestatic 39, 3) := by decide +kernel
theorem dX9_canBe_29 : decode cX9_canBe 29 = .ok (.ifCond .eq 7, 3) := by decide +kernel
theorem dX9_canBe_32 : decode cX9_canBe 32 = .ok (.iconst 1, 1) := by decide +kernel
theorem dX9_canBe_33 : decode cX9_canBe 33 = .ok (.goto 4, 3) := by decide +kernel
theorem dX9_canBe_36 : decode cX9_canBe 36 = .ok (.iconst 0, 1) := by decide +kernel
theorem dX9_canBe_37 : decode cX9_canBe 37 = .ok (.ireturn, 1) := by decide +kernel
set_option maxRecDepth 20000 in
theorem ggX9_goFrom_X9_canBe : GoodIn wsX9_goFrom wsX9_canBe := goodIn_r _ [9, 10, 11, 12, 13, 14, 8, 15, 3, 16, 17, 18, 19, 20, 21, 22, 27, 28, 29, 30, 31, 32, 33, 34, 35, 36] (by decide +kernel) (by decide +kernel)
set_option maxRecDepth 20000 in
theorem gX9_goFrom_X9_canBe : GoodIn wsX9_goFrom (wsV RX9 84 RX9 yX9_canBe wsX9_canBe) := goodIn_app (goodIn_of _ (by decide +kernel)) ggX9_goFrom_X9_canBe
set_option maxRecDepth 20000 in
theorem ggX9_goFrom_X9_weightOf : GoodIn wsX9_goFrom wsX9_weightOf := goodIn_r _ [26, 16, 17, 18, 8, 19, 27, 28, 29, 30, 31, 32, 33, 34, 35, 36] (by decide +kernel) (by decide +kernel)
set_option maxRecDepth 20000 in
theorem gX9_goFrom_X9_weightOf : GoodIn wsX9_goFrom (wsV RX9 80 RX9 yX9_weightOf wsX9_weightOf) := goodIn_app (goodIn_of _ (by decide +kernel)) ggX9_goFrom_X9_weightOf
theorem dX9_goFrom_0 : decode cX9_goFrom 0 = .ok (.aload_n 0, 1) := by decide +kernel
theorem dX9_goFrom_1 : decode cX9_goFrom 1 = .ok (.getfield 23, 3) := by decide +kernel
theorem dX9_goFrom_4 : decode cX9_goFrom 4 = .ok (.iload_n 3, 1) := by decide +kernel
theorem dX9_goFrom_5 : decode cX9_goFrom 5 = .ok (.iconst 0, 1) := by decide +kernel
theorem dX9_goFrom_6 : decode cX9_goFrom 6 = .ok (.iastore, 1) := by decide +kernel
theorem dX9_goFrom_7 : decode cX9_goFrom 7 = .ok (.aload_n 0, 1) := by decide +kernel
theorem dX9_goFrom_8 : decode cX9_goFrom 8 = .ok (.iload_n 1, 1) := by decide +kernel
theorem dX9_goFrom_9 : decode cX9_goFrom 9 = .ok (.iload_n 2, 1) := by decide +kernel
theorem dX9_goFrom_10 : decode cX9_goFrom 10 = .ok (.iload_n 3, 1) := by decide +kernel
theorem dX9_goFrom_11 : decode cX9_goFrom 11 = .ok (.invokevirtual 84, 3) := by decide +kernel
theorem dX9_goFrom_14 : decode cX9_goFrom 14 = .ok (.ifCond .eq 7, 3) := by decide +kernel
theorem dX9_goFrom_17 : decode cX9_goFrom 17 = .ok (.iload_n 3, 1) := by decide +kernel
theorem dX9_goFrom_18 : decode cX9_goFrom 18 = .ok (.goto 4, 3) := by decide +kernel
theorem dX9_goFrom_21 : decode cX9_goFrom 21 = .ok (.iconst (-1), 1) := by decide +kernel
theorem dX9_goFrom_22 : decode cX9_goFrom 22 = .ok (.istore 5, 2) := by decide +kernel
theorem dX9_goFrom_24 : decode cX9_goFrom 24 = .ok (.aload_n 0, 1) := by decide +kernel
theorem dX9_goFrom_25 : decode cX9_goFrom 25 = .ok (.getfield 26, 3) := by decide +kernel
theorem dX9_goFrom_28 : decode cX9_goFrom 28 = .ok (.iload_n 3, 1) := by decide +kernel
theorem dX9_goFrom_29 : decode cX9_goFrom 29 = .ok (.iconst 1, 1) := by decide +kernel
theorem dX9_goFrom_30 : decode cX9_goFrom 30 = .ok (.bastore, 1) := by decide +kernel
theorem dX9_goFrom_31 : decode cX9_goFrom 31 = .ok (.iload 5, 2) := by decide +kernel
theorem dX9_goFrom_33 : decode cX9_goFrom 33 = .ok (.ifCond .lt 208, 3) := by decide +kernel
theorem dX9_goFrom_36 : decode cX9_goFrom 36 = .ok (.iconst 0, 1) := by decide +kernel
theorem dX9_goFrom_37 : decode cX9_goFrom 37 = .ok (.istore 6, 2) := by decide +kernel
theorem dX9_goFrom_39 : decode cX9_goFrom 39 = .ok (.iload 6, 2) := by decide +kernel
theorem dX9_goFrom_41 : decode cX9_goFrom 41 = .ok (.iconst 1, 1) := by decide +kernel
theorem dX9_goFrom_42 : decode cX9_goFrom 42 = .ok (.aload_n 0, 1) := by decide +kernel
theorem dX9_goFrom_43 : decode cX9_goFrom 43 = .ok (.getfield 7, 3) := by decide +kernel
theorem dX9_goFrom_46 : decode cX9_goFrom 46 = .ok (.ishl, 1) := by decide +kernel
theorem dX9_goFrom_47 : decode cX9_goFrom 47 = .ok (.if_icmp .ge 102, 3) := by decide +kernel
theorem dX9_goFrom_50 : decode cX9_goFrom 50 = .ok (.aload_n 0, 1) := by decide +kernel
theorem dX9_goFrom_51 : decode cX9_goFrom 51 = .ok (.getfield 26, 3) := by decide +kernel
theorem dX9_goFrom_54 : decode cX9_goFrom 54 = .ok (.iload 6, 2) := by decide +kernel
theorem dX9_goFrom_56 : decode cX9_goFrom 56 = .ok (.baload, 1) := by decide +kernel
theorem dX9_goFrom_57 : decode cX9_goFrom 57 = .ok (.ifCond .eq 7, 3) := by decide +kernel
theorem dX9_goFrom_60 : decode cX9_goFrom 60 = .ok (.iconst 0, 1) := by decide +kernel
theorem dX9_goFrom_61 : decode cX9_goFrom 61 = .ok (.goto 12, 3) := by decide +kernel
theorem dX9_goFrom_64 : decode cX9_goFrom 64 = .ok (.aload_n 0, 1) := by decide +kernel
theorem dX9_goFrom_65 : decode cX9_goFrom 65 = .ok (.iload_n 2, 1) := by decide +kernel
theorem dX9_goFrom_66 : decode cX9_goFrom 66 = .ok (.iload 5, 2) := by decide +kernel
theorem dX9_goFrom_68 : decode cX9_goFrom 68 = .ok (.iload 6, 2) := by decide +kernel
theorem dX9_goFrom_70 : decode cX9_goFrom 70 = .ok (.invokevirtual 80, 3) := by decide +kernel
theorem dX9_goFrom_73 : decode cX9_goFrom 73 = .ok (.istore 7, 2) := by decide +kernel
theorem dX9_goFrom_75 : decode cX9_goFrom 75 = .ok (.aload_n 0, 1) := by decide +kernel
theorem dX9_goFrom_76 : decode cX9_goFrom 76 = .ok (.getfield 23, 3) := by decide +kernel
theorem dX9_goFrom_79 : decode cX9_goFrom 79 = .ok (.iload 5, 2) := by decide +kernel
theorem dX9_goFrom_81 : decode cX9_goFrom 81 = .ok (.iaload, 1) := by decide +kernel
theorem dX9_goFrom_82 : decode cX9_goFrom 82 = .ok (.iload 4, 2) := by decide +kernel
theorem dX9_goFrom_84 : decode cX9_goFrom 84 = .ok (.ifCond .eq 8, 3) := by decide +kernel
theorem dX9_goFrom_87 : decode cX9_goFrom 87 = .ok (.iload 7, 2) := by decide +kernel
theorem dX9_goFrom_89 : decode cX9_goFrom 89 = .ok (.goto 4, 3) := by decide +kernel
theorem dX9_goFrom_92 : decode cX9_goFrom 92 = .ok (.iconst 1, 1) := by decide +kernel
theorem dX9_goFrom_93 : decode cX9_goFrom 93 = .ok (.iadd, 1) := by decide +kernel
theorem dX9_goFrom_94 : decode cX9_goFrom 94 = .ok (.istore 8, 2) := by decide +kernel
theorem dX9_goFrom_96 : decode cX9_goFrom 96 = .ok (.aload_n 0, 1) := by decide +kernel
theorem dX9_goFrom_97 : decode cX9_goFrom 97 = .ok (.getfield 23, 3) := by decide +kernel
theorem dX9_goFrom_100 : decode cX9_goFrom 100 = .ok (.iload 6, 2) := by decide +kernel
theorem dX9_goFrom_102 : decode cX9_goFrom 102 = .ok (.iload 7, 2) := by decide +kernel
theorem dX9_goFrom_104 : decode cX9_goFrom 104 = .ok (.ifCond .le 31, 3) := by decide +kernel
theorem dX9_goFrom_107 : decode cX9_goFrom 107 = .ok (.iload 8, 2) := by decide +kernel
theorem dX9_goFrom_109 : decode cX9_goFrom 109 = .ok (.aload_n 0, 1) := by decide +kernel
theorem dX9_goFrom_110 : decode cX9_goFrom 110 = .ok (.getfield 23, 3) := by decide +kernel
theorem dX9_goFrom_113 : decode cX9_goFrom 113 = .ok (.iload 6, 2) := by decide +kernel
theorem dX9_goFrom_115 : decode cX9_goFrom 115 = .ok (.iaload, 1) := by decide +kernel
theorem dX9_goFrom_116 : decode cX9_goFrom 116 = .ok (.if_icmp .ge 19, 3) := by decide +kernel
theorem dX9_goFrom_119 : decode cX9_goFrom 119 = .ok (.aload_n 0, 1) := by decide +kernel
theorem dX9_goFrom_120 : decode cX9_goFrom 120 = .ok (.iload_n 1, 1) := by decide +kernel
theorem dX9_goFrom_121 : decode cX9_goFrom 121 = .ok (.iload_n 2, 1) := by decide +kernel
theorem dX9_goFrom_122 : decode cX9_goFrom 122 = .ok (.iload 6, 2) := by decide +kernel
theorem dX9_goFrom_124 : decode cX9_goFrom 124 = .ok (.invokevirtual 84, 3) := by decide +kernel
theorem dX9_goFrom_127 : decode cX9_goFrom 127 = .ok (.ifCond .eq 8, 3) := by decide +kernel
theorem dX9_goFrom_130 : decode cX9_goFrom 130 = .ok (.iload 8, 2) := by decide +kernel
theorem dX9_goFrom_132 : decode cX9_goFrom 132 = .ok (.goto 10, 3) := by decide +kernel
theorem dX9_goFrom_135 : decode cX9_goFrom 135 = .ok (.aload_n 0, 1) := by decide +kernel
theorem dX9_goFrom_136 : decode cX9_goFrom 136 = .ok (.getfield 23, 3) := by decide +kernel
theorem dX9_goFrom_139 : decode cX9_goFrom 139 = .ok (.iload 6, 2) := by decide +kernel
theorem dX9_goFrom_141 : decode cX9_goFrom 141 = .ok (.iaload, 1) := by decide +kernel
theorem dX9_goFrom_142 : decode cX9_goFrom 142 = .ok (.iastore, 1) := by decide +kernel
theorem dX9_goFrom_143 : decode cX9_goFrom 143 = .ok (.iinc 6 1, 3) := by decide +kernel
theorem dX9_goFrom_146 : decode cX9_goFrom 146 = .ok (.goto (-107), 3) := by decide +kernel
theorem dX9_goFrom_149 : decode cX9_goFrom 149 = .ok (.iconst (-1), 1) := by decide +kernel
theorem dX9_goFrom_150 : decode cX9_goFrom 150 = .ok (.istore 5, 2) := by decide +kernel
theorem dX9_goFrom_152 : decode cX9_goFrom 152 = .ok (.iconst 0, 1) := by decide +kernel
theorem dX9_goFrom_153 : decode cX9_goFrom 153 = .ok (.istore 6, 2) := by decide +kernel
theorem dX9_goFrom_155 : decode cX9_goFrom 155 = .ok (.iload 6, 2) := by decide +kernel
theorem dX9_goFrom_157 : decode cX9_goFrom 157 = .ok (.iconst 1, 1) := by decide +kernel
theorem dX9_goFrom_158 : decode cX9_goFrom 158 = .ok (.aload_n 0, 1) := by decide +kernel
theorem dX9_goFrom_159 : decode cX9_goFrom 159 = .ok (.getfield 7, 3) := by decide +kernel
theorem dX9_goFrom_162 : decode cX9_goFrom 162 = .ok (.ishl, 1) := by decide +kernel
theorem dX9_goFrom_163 : decode cX9_goFrom 163 = .ok (.if_icmp .ge 62, 3) := by decide +kernel
theorem dX9_goFrom_166 : decode cX9_goFrom 166 = .ok (.aload_n 0, 1) := by decide +kernel
theorem dX9_goFrom_167 : decode cX9_goFrom 167 = .ok (.getfield 26, 3) := by decide +kernel
theorem dX9_goFrom_170 : decode cX9_goFrom 170 = .ok (.iload 6, 2) := by decide +kernel
theorem dX9_goFrom_172 : decode cX9_goFrom 172 = .ok (.baload, 1) := by decide +kernel
theorem dX9_goFrom_173 : decode cX9_goFrom 173 = .ok (.ifCond .ne 42, 3) := by decide +kernel
theorem dX9_goFrom_176 : decode cX9_goFrom 176 = .ok (.aload_n 0, 1) := by decide +kernel
theorem dX9_goFrom_177 : decode cX9_goFrom 177 = .ok (.getfield 23, 3) := by decide +kernel
theorem dX9_goFrom_180 : decode cX9_goFrom 180 = .ok (.iload 6, 2) := by decide +kernel
theorem dX9_goFrom_182 : decode cX9_goFrom 182 = .ok (.iaload, 1) := by decide +kernel
theorem dX9_goFrom_183 : decode cX9_goFrom 183 = .ok (.ldc 87, 2) := by decide +kernel
theorem dX9_goFrom_185 : decode cX9_goFrom 185 = .ok (.if_icmp .ge 30, 3) := by decide +kernel
theorem dX9_goFrom_188 : decode cX9_goFrom 188 = .ok (.iload 5, 2) := by decide +kernel
theorem dX9_goFrom_190 : decode cX9_goFrom 190 = .ok (.ifCond .lt 20, 3) := by decide +kernel
theorem dX9_goFrom_193 : decode cX9_goFrom 193 = .ok (.aload_n 0, 1) := by decide +kernel
theorem dX9_goFrom_194 : decode cX9_goFrom 194 = .ok (.getfield 23, 3) := by decide +kernel
theorem dX9_goFrom_197 : decode cX9_goFrom 197 = .ok (.iload 6, 2) := by decide +kernel
theorem dX9_goFrom_199 : decode cX9_goFrom 199 = .ok (.iaload, 1) := by decide +kernel
theorem dX9_goFrom_200 : decode cX9_goFrom 200 = .ok (.aload_n 0, 1) := by decide +kernel
theorem dX9_goFrom_201 : decode cX9_goFrom 201 = .ok (.getfield 23, 3) := by decide +kernel
theorem dX9_goFrom_204 : decode cX9_goFrom 204 = .ok (.iload 5, 2) := by decide +kernel
theorem dX9_goFrom_206 : decode cX9_goFrom 206 = .ok (.iaload, 1) := by decide +kernel
theorem dX9_goFrom_207 : decode cX9_goFrom 207 = .ok (.if_icmp .ge 8, 3) := by decide +kernel
theorem dX9_goFrom_210 : decode cX9_goFrom 210 = .ok (.iload 6, 2) := by decide +kernel
theorem dX9_goFrom_212 : decode cX9_goFrom 212 = .ok (.goto 5, 3) := by decide +kernel
theorem dX9_goFrom_215 : decode cX9_goFrom 215 = .ok (.iload 5, 2) := by decide +kernel
theorem dX9_goFrom_217 : decode cX9_goFrom 217 = .ok (.istore 5, 2) := by decide +kernel
theorem dX9_goFrom_219 : decode cX9_goFrom 219 = .ok (.iinc 6 1, 3) := by decide +kernel
theorem dX9_goFrom_222 : decode cX9_goFrom 222 = .ok (.goto (-67), 3) := by decide +kernel
theorem dX9_goFrom_225 : decode cX9_goFrom 225 = .ok (.iload 5, 2) := by decide +kernel
theorem dX9_goFrom_227 : decode cX9_goFrom 227 = .ok (.ifCond .lt (-196), 3) := by decide +kernel
theorem dX9_goFrom_230 : decode cX9_goFrom 230 = .ok (.aload_n 0, 1) := by decide +kernel
theorem dX9_goFrom_231 : decode cX9_goFrom 231 = .ok (.getfield 26, 3) := by decide +kernel
theorem dX9_goFrom_234 : decode cX9_goFrom 234 = .ok (.iload 5, 2) := by decide +kernel
theorem dX9_goFrom_236 : decode cX9_goFrom 236 = .ok (.iconst 1, 1) := by decide +kernel
theorem dX9_goFrom_237 : decode cX9_goFrom 237 = .ok (.bastore, 1) := by decide +kernel
theorem dX9_goFrom_238 : decode cX9_goFrom 238 = .ok (.goto (-207), 3) := by decide +kernel
theorem dX9_goFrom_241 : decode cX9_goFrom 241 = .ok (.return_, 1) := by decide +kernel
theorem dX9_forget_0 : decode cX9_forget 0 = .ok (.iconst 0, 1) := by decide +kernel
theorem dX9_forget_1 : decode cX9_forget 1 = .ok (.istore_n 1, 1) := by decide +kernel
theorem dX9_forget_2 : decode cX9_forget 2 = .ok (.iload_n 1, 1) := by decide +kernel
theorem dX9_forget_3 : decode cX9_forget 3 = .ok (.sipush 512, 3) := by decide +kernel
theorem dX9_forget_6 : decode cX9_forget 6 = .ok (.if_icmp .ge 24, 3) := by decide +kernel
theorem dX9_forget_9 : decode cX9_forget 9 = .ok (.aload_n 0, 1) := by decide +kernel
theorem dX9_forget_10 : decode cX9_forget 10 = .ok (.getfield 23, 3) := by decide +kernel
theorem dX9_forget_13 : decode cX9_forget 13 = .ok (.iload_n 1, 1) := by decide +kernel
theorem dX9_forget_14 : decode cX9_forget 14 = .ok (.ldc 87, 2) := by decide +kernel
theorem dX9_forget_16 : decode cX9_forget 16 = .ok (.iastore, 1) := by decide +kernel
theorem dX9_forget_17 : decode cX9_forget 17 = .ok (.aload_n 0, 1) := by decide +kernel
theorem dX9_forget_18 : decode cX9_forget 18 = .ok (.getfield 26, 3) := by decide +kernel
theorem dX9_forget_21 : decode cX9_forget 21 = .ok (.iload_n 1, 1) := by decide +kernel
theorem dX9_forget_22 : decode cX9_forget 22 = .ok (.iconst 0, 1) := by decide +kernel
theorem dX9_forget_23 : decode cX9_forget 23 = .ok (.bastore, 1) := by decide +kernel
theorem dX9_forget_24 : decode cX9_forget 24 = .ok (.iinc 1 1, 3) := by decide +kernel
theorem dX9_forget_27 : decode cX9_forget 27 = .ok (.goto (-25), 3) := by decide +kernel
theorem dX9_forget_30 : decode cX9_forget 30 = .ok (.return_, 1) := by decide +kernel
set_option maxRecDepth 20000 in
theorem ggX9_isGood_X9_isKind : GoodIn wsX9_isGood wsX9_isKind := goodIn_r _ [4, 5, 6, 3, 7] (by decide +kernel) (by decide +kernel)
set_option maxRecDepth 20000 in
theorem gX9_isGood_X9_isKind : GoodIn wsX9_isGood (va_wsS RX9 62 yX9_isKind wsX9_isKind) := goodIn_app (goodIn_of _ (by decide +kernel)) ggX9_isGood_X9_isKind
set_option maxRecDepth 20000 in
theorem ggX9_isGood_X9_isSet : GoodIn wsX9_isGood wsX9_isSet := goodIn_r _ [11, 12, 5, 6, 3, 7, 18, 19, 20, 21, 22, 23, 24, 25, 26, 27] (by decide +kernel) (by decide +kernel)
set_option maxRecDepth 20000 in
theorem gX9_isGood_X9_isSet : GoodIn wsX9_isGood (wsV RX9 65 RX9 yX9_isSet wsX9_isSet) := goodIn_app (goodIn_of _ (by decide +kernel)) ggX9_isGood_X9_isSet
set_option maxRecDepth 20000 in
theorem ggX9_isGood_X9_isLawful : GoodIn wsX9_isGood wsX9_isLawful := goodIn_r _ [16, 12, 17, 18, 19, 20, 21, 22, 23, 24, 25, 26, 27] (by decide +kernel) (by decide +kernel)
set_option maxRecDepth 20000 in
theorem gX9_isGood_X9_isLawful : GoodIn wsX9_isGood (wsV RX9 68 RX9 yX9_isLawful wsX9_isLawful) := goodIn_app (goodIn_of _ (by decide +kernel)) ggX9_isGood_X9_isLawful
theorem dX9_isGood_0 : decode cX9_isGood 0 = .ok (.iload_n 1, 1) := by decide +kernel
theorem dX9_isGood_1 : decode cX9_isGood 1 = .ok (.invokestatic 62, 3) := by decide +kernel
theorem dX9_isGood_4 : decode cX9_isGood 4 = .ok (.ifCond .eq 31, 3) := by decide +kernel
theorem dX9_isGood_7 : decode cX9_isGood 7 = .ok (.iload_n 2, 1) := by decide +kernel
theorem dX9_isGood_8 : decode cX9_isGood 8 = .ok (.invokestatic 62, 3) := by decide +kernel
theorem dX9_isGood_11 : decode cX9_isGood 11 = .ok (.ifCond .eq 24, 3) := by decide +kernel
theorem dX9_isGood_14 : decode cX9_isGood 14 = .ok (.aload_n 0, 1) := by decide +kernel
theorem dX9_isGood_15 : decode cX9_isGood 15 = .ok (.iload_n 3, 1) := by decide +kernel
theorem dX9_isGood_16 : decode cX9_isGood 16 = .ok (.invokevirtual 65, 3) := by decide +kernel
theorem dX9_isGood_19 : decode cX9_isGood 19 = .ok (.ifCond .eq 16, 3) := by decide +kernel
theorem dX9_isGood_22 : decode cX9_isGood 22 = .ok (.aload_n 0, 1) := by decide +kernel
theorem dX9_isGood_23 : decode cX9_isGood 23 = .ok (.iload_n 1, 1) := by decide +kernel
theorem dX9_isGood_24 : decode cX9_isGood 24 = .ok (.iload_n 3, 1) := by decide +kernel
theorem dX9_isGood_25 : decode cX9_isGood 25 = .ok (.invokevirtual 68, 3) := by decide +kernel
theorem dX9_isGood_28 : decode cX9_isGood 28 = .ok (.ifCond .eq 7, 3) := by decide +kernel
theorem dX9_isGood_31 : decode cX9_isGood 31 = .ok (.iconst 1, 1) := by decide +kernel
theorem dX9_isGood_32 : decode cX9_isGood 32 = .ok (.goto 4, 3) := by decide +kernel
theorem dX9_isGood_35 : decode cX9_isGood 35 = .ok (.iconst 0, 1) := by decide +kernel
theorem dX9_isGood_36 : decode cX9_isGood 36 = .ok (.ireturn, 1) := by decide +kernel
set_option maxRecDepth 20000 in
theorem ggX9_walk_X9_isGood : GoodIn wsX9_walk wsX9_isGood := goodIn_r _ [8, 9, 10, 7, 11, 12, 13, 14, 15, 16, 17, 18, 3, 19, 20, 21, 22, 23, 46, 47, 48, 49, 50, 51, 52, 53, 54, 55] (by decide +kernel) (by decide +kernel)
set_option maxRecDepth 20000 in
theorem gX9_walk_X9_isGood : GoodIn wsX9_walk (wsV RX9 88 RX9 yX9_isGood wsX9_isGood) := goodIn_app (goodIn_of _ (by decide +kernel)) ggX9_walk_X9_isGood
set_option maxRecDepth 20000 in
theorem ggX9_walk_X9_in : GoodIn wsX9_walk wsX9_in := goodIn_r _ [14] (by decide +kernel) (by decide +kernel)
set_option maxRecDepth 20000 in
theorem gX9_walk_X9_in : GoodIn wsX9_walk (va_wsS RX9 39 yX9_in wsX9_in) := goodIn_app (goodIn_of _ (by decide +kernel)) ggX9_walk_X9_in
set_option maxRecDepth 20000 in
theorem ggX9_walk_X9_forget : GoodIn wsX9_walk wsX9_forget := goodIn_r _ [27, 1, 2, 28, 46, 47, 48, 49, 50, 51, 52, 53, 54, 55] (by decide +kernel) (by decide +kernel)
set_option maxRecDepth 20000 in
theorem gX9_walk_X9_forget : GoodIn wsX9_walk (wsV RX9 91 RX9 yX9_forget wsX9_forget) := goodIn_app (goodIn_of _ (by decide +kernel)) ggX9_walk_X9_forget
set_option maxRecDepth 20000 in
theorem ggX9_walk_X9_goFrom : GoodIn wsX9_walk wsX9_goFrom := goodIn_r _ [32, 1, 28, 3, 2, 33, 34, 35, 7, 36, 37, 38, 19, 20, 21, 22, 23, 39, 40, 41, 12, 13, 14, 42, 43, 44, 45, 46, 47, 48, 49, 50, 51, 52, 53, 54, 55] (by decide +kernel) (by decide +kernel)
set_option maxRecDepth 20000 in
theorem gX9_walk_X9_goFrom : GoodIn wsX9_walk (wsV RX9 94 RX9 yX9_goFrom wsX9_goFrom) := goodIn_app (goodIn_of _ (by decide +kernel)) ggX9_walk_X9_goFrom
set_option maxRecDepth 20000 in
theorem ggX9_walk_X9_weightOf : GoodIn wsX9_walk wsX9_weightOf := goodIn_r _ [45, 23, 39, 40, 7, 41, 46, 47, 48, 49, 50, 51, 52, 53, 54, 55] (by decide +kernel) (by decide +kernel)
set_option maxRecDepth 20000 in
theorem gX9_walk_X9_weightOf : GoodIn wsX9_walk (wsV RX9 80 RX9 yX9_weightOf wsX9_weightOf) := goodIn_app (goodIn_of _ (by decide +kernel)) ggX9_walk_X9_weightOf
theorem dX9_walk_0 : decode cX9_walk 0 = .ok (.aload_n 0, 1) := by decide +kernel
theorem dX9_walk_1 : decode cX9_walk 1 = .ok (.iload_n 1, 1) := by decide +kernel
theorem dX9_walk_2 : decode cX9_walk 2 = .ok (.iload_n 2, 1) := by decide +kernel
theorem dX9_walk_3 : decode cX9_walk 3 = .ok (.iload_n 3, 1) := by decide +kernel
theorem dX9_walk_4 : decode cX9_walk 4 = .ok (.invokevirtual 88, 3) := by decide +kernel
theorem dX9_walk_7 : decode cX9_walk 7 = .ok (.ifCond .eq 24, 3) := by decide +kernel
theorem dX9_walk_10 : decode cX9_walk 10 = .ok (.aload_n 0, 1) := by decide +kernel
theorem dX9_walk_11 : decode cX9_walk 11 = .ok (.iload_n 1, 1) := by decide +kernel
theorem dX9_walk_12 : decode cX9_walk 12 = .ok (.iload_n 2, 1) := by decide +kernel
theorem dX9_walk_13 : decode cX9_walk 13 = .ok (.iload 4, 2) := by decide +kernel
theorem dX9_walk_15 : decode cX9_walk 15 = .ok (.invokevirtual 88, 3) := by decide +kernel
theorem dX9_walk_18 : decode cX9_walk 18 = .ok (.ifCond .eq 13, 3) := by decide +kernel
theorem dX9_walk_21 : decode cX9_walk 21 = .ok (.iload 5, 2) := by decide +kernel
theorem dX9_walk_23 : decode cX9_walk 23 = .ok (.iconst 0, 1) := by decide +kernel
theorem dX9_walk_24 : decode cX9_walk 24 = .ok (.iconst 2, 1) := by decide +kernel
theorem dX9_walk_25 : decode cX9_walk 25 = .ok (.invokestatic 39, 3) := by decide +kernel
theorem dX9_walk_28 : decode cX9_walk 28 = .ok (.ifCond .ne 5, 3) := by decide +kernel
theorem dX9_walk_31 : decode cX9_walk 31 = .ok (.iconst (-1), 1) := by decide +kernel
theorem dX9_walk_32 : decode cX9_walk 32 = .ok (.ireturn, 1) := by decide +kernel
theorem dX9_walk_33 : decode cX9_walk 33 = .ok (.aload_n 0, 1) := by decide +kernel
theorem dX9_walk_34 : decode cX9_walk 34 = .ok (.invokevirtual 91, 3) := by decide +kernel
theorem dX9_walk_37 : decode cX9_walk 37 = .ok (.aload_n 0, 1) := by decide +kernel
theorem dX9_walk_38 : decode cX9_walk 38 = .ok (.iload_n 1, 1) := by decide +kernel
theorem dX9_walk_39 : decode cX9_walk 39 = .ok (.iload_n 2, 1) := by decide +kernel
theorem dX9_walk_40 : decode cX9_walk 40 = .ok (.iload 4, 2) := by decide +kernel
theorem dX9_walk_42 : decode cX9_walk 42 = .ok (.iload 5, 2) := by decide +kernel
theorem dX9_walk_44 : decode cX9_walk 44 = .ok (.iconst 2, 1) := by decide +kernel
theorem dX9_walk_45 : decode cX9_walk 45 = .ok (.if_icmp .ne 7, 3) := by decide +kernel
theorem dX9_walk_48 : decode cX9_walk 48 = .ok (.iconst 1, 1) := by decide +kernel
theorem dX9_walk_49 : decode cX9_walk 49 = .ok (.goto 4, 3) := by decide +kernel
theorem dX9_walk_52 : decode cX9_walk 52 = .ok (.iconst 0, 1) := by decide +kernel
theorem dX9_walk_53 : decode cX9_walk 53 = .ok (.invokevirtual 94, 3) := by decide +kernel
theorem dX9_walk_56 : decode cX9_walk 56 = .ok (.iload 5, 2) := by decide +kernel
theorem dX9_walk_58 : decode cX9_walk 58 = .ok (.iconst 1, 1) := by decide +kernel
theorem dX9_walk_59 : decode cX9_walk 59 = .ok (.if_icmp .eq 26, 3) := by decide +kernel
theorem dX9_walk_62 : decode cX9_walk 62 = .ok (.aload_n 0, 1) := by decide +kernel
theorem dX9_walk_63 : decode cX9_walk 63 = .ok (.getfield 23, 3) := by decide +kernel
theorem dX9_walk_66 : decode cX9_walk 66 = .ok (.iload_n 3, 1) := by decide +kernel
theorem dX9_walk_67 : decode cX9_walk 67 = .ok (.iaload, 1) := by decide +kernel
theorem dX9_walk_68 : decode cX9_walk 68 = .ok (.ldc 87, 2) := by decide +kernel
theorem dX9_walk_70 : decode cX9_walk 70 = .ok (.if_icmp .ge 12, 3) := by decide +kernel
theorem dX9_walk_73 : decode cX9_walk 73 = .ok (.aload_n 0, 1) := by decide +kernel
theorem dX9_walk_74 : decode cX9_walk 74 = .ok (.getfield 23, 3) := by decide +kernel
theorem dX9_walk_77 : decode cX9_walk 77 = .ok (.iload_n 3, 1) := by decide +kernel
theorem dX9_walk_78 : decode cX9_walk 78 = .ok (.iaload, 1) := by decide +kernel
theorem dX9_walk_79 : decode cX9_walk 79 = .ok (.goto 5, 3) := by decide +kernel
theorem dX9_walk_82 : decode cX9_walk 82 = .ok (.bipush (-9), 2) := by decide +kernel
theorem dX9_walk_84 : decode cX9_walk 84 = .ok (.ireturn, 1) := by decide +kernel
theorem dX9_walk_85 : decode cX9_walk 85 = .ok (.iconst 0, 1) := by decide +kernel
theorem dX9_walk_86 : decode cX9_walk 86 = .ok (.istore 6, 2) := by decide +kernel
theorem dX9_walk_88 : decode cX9_walk 88 = .ok (.iload 6, 2) := by decide +kernel
theorem dX9_walk_90 : decode cX9_walk 90 = .ok (.iconst 1, 1) := by decide +kernel
theorem dX9_walk_91 : decode cX9_walk 91 = .ok (.aload_n 0, 1) := by decide +kernel
theorem dX9_walk_92 : decode cX9_walk 92 = .ok (.getfield 7, 3) := by decide +kernel
theorem dX9_walk_95 : decode cX9_walk 95 = .ok (.ishl, 1) := by decide +kernel
theorem dX9_walk_96 : decode cX9_walk 96 = .ok (.if_icmp .ge 58, 3) := by decide +kernel
theorem dX9_walk_99 : decode cX9_walk 99 = .ok (.aload_n 0, 1) := by decide +kernel
theorem dX9_walk_100 : decode cX9_walk 100 = .ok (.getfield 23, 3) := by decide +kernel
theorem dX9_walk_103 : decode cX9_walk 103 = .ok (.iload_n 3, 1) := by decide +kernel
theorem dX9_walk_104 : decode cX9_walk 104 = .ok (.iaload, 1) := by decide +kernel
theorem dX9_walk_105 : decode cX9_walk 105 = .ok (.ldc 87, 2) := by decide +kernel
theorem dX9_walk_107 : decode cX9_walk 107 = .ok (.if_icmp .ge 41, 3) := by decide +kernel
theorem dX9_walk_110 : decode cX9_walk 110 = .ok (.iload_n 3, 1) := by decide +kernel
theorem dX9_walk_111 : decode cX9_walk 111 = .ok (.iload 4, 2) := by decide +kernel
theorem dX9_walk_113 : decode cX9_walk 113 = .ok (.if_icmp .eq 35, 3) := by decide +kernel
theorem dX9_walk_116 : decode cX9_walk 116 = .ok (.aload_n 0, 1) := by decide +kernel
theorem dX9_walk_117 : decode cX9_walk 117 = .ok (.getfield 23, 3) := by decide +kernel
theorem dX9_walk_120 : decode cX9_walk 120 = .ok (.iload 6, 2) := by decide +kernel
theorem dX9_walk_122 : decode cX9_walk 122 = .ok (.iaload, 1) := by decide +kernel
theorem dX9_walk_123 : decode cX9_walk 123 = .ok (.aload_n 0, 1) := by decide +kernel
theorem dX9_walk_124 : decode cX9_walk 124 = .ok (.getfield 23, 3) := by decide +kernel
theorem dX9_walk_127 : decode cX9_walk 127 = .ok (.iload_n 3, 1) := by decide +kernel
theorem dX9_walk_128 : decode cX9_walk 128 = .ok (.iaload, 1) := by decide +kernel
theorem dX9_walk_129 : decode cX9_walk 129 = .ok (.iconst 1, 1) := by decide +kernel
theorem dX9_walk_130 : decode cX9_walk 130 = .ok (.isub, 1) := by decide +kernel
theorem dX9_walk_131 : decode cX9_walk 131 = .ok (.if_icmp .ne 17, 3) := by decide +kernel
theorem dX9_walk_134 : decode cX9_walk 134 = .ok (.aload_n 0, 1) := by decide +kernel
theorem dX9_walk_135 : decode cX9_walk 135 = .ok (.iload_n 2, 1) := by decide +kernel
theorem dX9_walk_136 : decode cX9_walk 136 = .ok (.iload_n 3, 1) := by decide +kernel
theorem dX9_walk_137 : decode cX9_walk 137 = .ok (.iload 6, 2) := by decide +kernel
theorem dX9_walk_139 : decode cX9_walk 139 = .ok (.invokevirtual 80, 3) := by decide +kernel
theorem dX9_walk_142 : decode cX9_walk 142 = .ok (.ifCond .le 6, 3) := by decide +kernel
theorem dX9_walk_145 : decode cX9_walk 145 = .ok (.iload 6, 2) := by decide +kernel
theorem dX9_walk_147 : decode cX9_walk 147 = .ok (.ireturn, 1) := by decide +kernel
theorem dX9_walk_148 : decode cX9_walk 148 = .ok (.iinc 6 1, 3) := by decide +kernel
theorem dX9_walk_151 : decode cX9_walk 151 = .ok (.goto (-63), 3) := by decide +kernel
theorem dX9_walk_154 : decode cX9_walk 154 = .ok (.bipush (-9), 2) := by decide +kernel
theorem dX9_walk_156 : decode cX9_walk 156 = .ok (.ireturn, 1) := by decide +kernel
set_option maxRecDepth 20000 in
theorem ggX9_reach_X9_isGood : GoodIn wsX9_reach wsX9_isGood := goodIn_r _ [8, 9, 10, 7, 11, 12, 13, 14, 15, 16, 17, 18, 1, 19, 20, 21, 22, 23, 46, 47, 48, 49, 50, 51, 52, 53, 54, 55] (by decide +kernel) (by decide +kernel)
set_option maxRecDepth 20000 in
theorem gX9_reach_X9_isGood : GoodIn wsX9_reach (wsV RX9 88 RX9 yX9_isGood wsX9_isGood) := goodIn_app (goodIn_of _ (by decide +kernel)) ggX9_reach_X9_isGood
set_option maxRecDepth 20000 in
theorem ggX9_reach_X9_in : GoodIn wsX9_reach wsX9_in := goodIn_r _ [14] (by decide +kernel) (by decide +kernel)
set_option maxRecDepth 20000 in
theorem gX9_reach_X9_in : GoodIn wsX9_reach (va_wsS RX9 39 yX9_in wsX9_in) := goodIn_app (goodIn_of _ (by decide +kernel)) ggX9_reach_X9_in
set_option maxRecDepth 20000 in
theorem ggX9_reach_X9_forget : GoodIn wsX9_reach wsX9_forget := goodIn_r _ [27, 3, 28, 2, 46, 47, 48, 49, 50, 51, 52, 53, 54, 55] (by decide +kernel) (by decide +kernel)
set_option maxRecDepth 20000 in
theorem gX9_reach_X9_forget : GoodIn wsX9_reach (wsV RX9 91 RX9 yX9_forget wsX9_forget) := goodIn_app (goodIn_of _ (by decide +kernel)) ggX9_reach_X9_forget
set_option maxRecDepth 20000 in
theorem ggX9_reach_X9_goFrom : GoodIn wsX9_reach wsX9_goFrom := goodIn_r _ [32, 3, 2, 1, 28, 33, 34, 35, 7, 36, 37, 38, 19, 20, 21, 22, 23, 39, 40, 41, 12, 13, 14, 42, 43, 44, 45, 46, 47, 48, 49, 50, 51, 52, 53, 54, 55] (by decide +kernel) (by decide +kernel)
set_option maxRecDepth 20000 in
theorem gX9_reach_X9_goFrom : GoodIn wsX9_reach (wsV RX9 94 RX9 yX9_goFrom wsX9_goFrom) := goodIn_app (goodIn_of _ (by decide +kernel)) ggX9_reach_X9_goFrom
theorem dX9_reach_0 : decode cX9_reach 0 = .ok (.aload_n 0, 1) := by decide +kernel
theorem dX9_reach_1 : decode cX9_reach 1 = .ok (.iload_n 1, 1) := by decide +kernel
theorem dX9_reach_2 : decode cX9_reach 2 = .ok (.iload_n 2, 1) := by decide +kernel
theorem dX9_reach_3 : decode cX9_reach 3 = .ok (.iload_n 3, 1) := by decide +kernel
theorem dX9_reach_4 : decode cX9_reach 4 = .ok (.invokevirtual 88, 3) := by decide +kernel
theorem dX9_reach_7 : decode cX9_reach 7 = .ok (.ifCond .eq 13, 3) := by decide +kernel
theorem dX9_reach_10 : decode cX9_reach 10 = .ok (.iload 4, 2) := by decide +kernel
theorem dX9_reach_12 : decode cX9_reach 12 = .ok (.iconst 0, 1) := by decide +kernel
theorem dX9_reach_13 : decode cX9_reach 13 = .ok (.iconst 2, 1) := by decide +kernel
theorem dX9_reach_14 : decode cX9_reach 14 = .ok (.invokestatic 39, 3) := by decide +kernel
theorem dX9_reach_17 : decode cX9_reach 17 = .ok (.ifCond .ne 5, 3) := by decide +kernel
theorem dX9_reach_20 : decode cX9_reach 20 = .ok (.iconst (-1), 1) := by decide +kernel
theorem dX9_reach_21 : decode cX9_reach 21 = .ok (.ireturn, 1) := by decide +kernel
theorem dX9_reach_22 : decode cX9_reach 22 = .ok (.aload_n 0, 1) := by decide +kernel
theorem dX9_reach_23 : decode cX9_reach 23 = .ok (.invokevirtual 91, 3) := by decide +kernel
theorem dX9_reach_26 : decode cX9_reach 26 = .ok (.aload_n 0, 1) := by decide +kernel
theorem dX9_reach_27 : decode cX9_reach 27 = .ok (.iload_n 1, 1) := by decide +kernel
theorem dX9_reach_28 : decode cX9_reach 28 = .ok (.iload_n 2, 1) := by decide +kernel
theorem dX9_reach_29 : decode cX9_reach 29 = .ok (.iload_n 3, 1) := by decide +kernel
theorem dX9_reach_30 : decode cX9_reach 30 = .ok (.iconst 0, 1) := by decide +kernel
theorem dX9_reach_31 : decode cX9_reach 31 = .ok (.invokevirtual 94, 3) := by decide +kernel
theorem dX9_reach_34 : decode cX9_reach 34 = .ok (.iconst 0, 1) := by decide +kernel
theorem dX9_reach_35 : decode cX9_reach 35 = .ok (.istore 5, 2) := by decide +kernel
theorem dX9_reach_37 : decode cX9_reach 37 = .ok (.iload_n 3, 1) := by decide +kernel
theorem dX9_reach_38 : decode cX9_reach 38 = .ok (.istore 6, 2) := by decide +kernel
theorem dX9_reach_40 : decode cX9_reach 40 = .ok (.iconst 0, 1) := by decide +kernel
theorem dX9_reach_41 : decode cX9_reach 41 = .ok (.istore 7, 2) := by decide +kernel
theorem dX9_reach_43 : decode cX9_reach 43 = .ok (.iconst 0, 1) := by decide +kernel
theorem dX9_reach_44 : decode cX9_reach 44 = .ok (.istore 8, 2) := by decide +kernel
theorem dX9_reach_46 : decode cX9_reach 46 = .ok (.iload 8, 2) := by decide +kernel
theorem dX9_reach_48 : decode cX9_reach 48 = .ok (.iconst 1, 1) := by decide +kernel
theorem dX9_reach_49 : decode cX9_reach 49 = .ok (.aload_n 0, 1) := by decide +kernel
theorem dX9_reach_50 : decode cX9_reach 50 = .ok (.getfield 7, 3) := by decide +kernel
theorem dX9_reach_53 : decode cX9_reach 53 = .ok (.ishl, 1) := by decide +kernel
theorem dX9_reach_54 : decode cX9_reach 54 = .ok (.if_icmp .ge 55, 3) := by decide +kernel
theorem dX9_reach_57 : decode cX9_reach 57 = .ok (.aload_n 0, 1) := by decide +kernel
theorem dX9_reach_58 : decode cX9_reach 58 = .ok (.getfield 26, 3) := by decide +kernel
theorem dX9_reach_61 : decode cX9_reach 61 = .ok (.iload 8, 2) := by decide +kernel
theorem dX9_reach_63 : decode cX9_reach 63 = .ok (.baload, 1) := by decide +kernel
theorem dX9_reach_64 : decode cX9_reach 64 = .ok (.ifCond .eq 39, 3) := by decide +kernel
theorem dX9_reach_67 : decode cX9_reach 67 = .ok (.iinc 5 1, 3) := by decide +kernel
theorem dX9_reach_70 : decode cX9_reach 70 = .ok (.iload 6, 2) := by decide +kernel
theorem dX9_reach_72 : decode cX9_reach 72 = .ok (.iload 8, 2) := by decide +kernel
theorem dX9_reach_74 : decode cX9_reach 74 = .ok (.iand, 1) := by decide +kernel
theorem dX9_reach_75 : decode cX9_reach 75 = .ok (.istore 6, 2) := by decide +kernel
theorem dX9_reach_77 : decode cX9_reach 77 = .ok (.aload_n 0, 1) := by decide +kernel
theorem dX9_reach_78 : decode cX9_reach 78 = .ok (.getfield 23, 3) := by decide +kernel
theorem dX9_reach_81 : decode cX9_reach 81 = .ok (.iload 8, 2) := by decide +kernel
theorem dX9_reach_83 : decode cX9_reach 83 = .ok (.iaload, 1) := by decide +kernel
theorem dX9_reach_84 : decode cX9_reach 84 = .ok (.iload 7, 2) := by decide +kernel
theorem dX9_reach_86 : decode cX9_reach 86 = .ok (.if_icmp .le 13, 3) := by decide +kernel
theorem dX9_reach_89 : decode cX9_reach 89 = .ok (.aload_n 0, 1) := by decide +kernel
theorem dX9_reach_90 : decode cX9_reach 90 = .ok (.getfield 23, 3) := by decide +kernel
theorem dX9_reach_93 : decode cX9_reach 93 = .ok (.iload 8, 2) := by decide +kernel
theorem dX9_reach_95 : decode cX9_reach 95 = .ok (.iaload, 1) := by decide +kernel
theorem dX9_reach_96 : decode cX9_reach 96 = .ok (.goto 5, 3) := by decide +kernel
theorem dX9_reach_99 : decode cX9_reach 99 = .ok (.iload 7, 2) := by decide +kernel
theorem dX9_reach_101 : decode cX9_reach 101 = .ok (.istore 7, 2) := by decide +kernel
theorem dX9_reach_103 : decode cX9_reach 103 = .ok (.iinc 8 1, 3) := by decide +kernel
theorem dX9_reach_106 : decode cX9_reach 106 = .ok (.goto (-60), 3) := by decide +kernel
theorem dX9_reach_109 : decode cX9_reach 109 = .ok (.iload 4, 2) := by decide +kernel
theorem dX9_reach_111 : decode cX9_reach 111 = .ok (.ifCond .ne 8, 3) := by decide +kernel
theorem dX9_reach_114 : decode cX9_reach 114 = .ok (.iload 5, 2) := by decide +kernel
theorem dX9_reach_116 : decode cX9_reach 116 = .ok (.goto 16, 3) := by decide +kernel
theorem dX9_reach_119 : decode cX9_reach 119 = .ok (.iload 4, 2) := by decide +kernel
theorem dX9_reach_121 : decode cX9_reach 121 = .ok (.iconst 1, 1) := by decide +kernel
theorem dX9_reach_122 : decode cX9_reach 122 = .ok (.if_icmp .ne 8, 3) := by decide +kernel
theorem dX9_reach_125 : decode cX9_reach 125 = .ok (.iload 6, 2) := by decide +kernel
theorem dX9_reach_127 : decode cX9_reach 127 = .ok (.goto 5, 3) := by decide +kernel
theorem dX9_reach_130 : decode cX9_reach 130 = .ok (.iload 7, 2) := by decide +kernel
theorem dX9_reach_132 : decode cX9_reach 132 = .ok (.ireturn, 1) := by decide +kernel
set_option maxRecDepth 20000 in
theorem ggX9_parts_X9_isKind : GoodIn wsX9_parts wsX9_isKind := goodIn_r _ [6, 7, 8, 5, 9] (by decide +kernel) (by decide +kernel)
set_option maxRecDepth 20000 in
theorem gX9_parts_X9_isKind : GoodIn wsX9_parts (va_wsS RX9 62 yX9_isKind wsX9_isKind) := goodIn_app (goodIn_of _ (by decide +kernel)) ggX9_parts_X9_isKind
set_option maxRecDepth 20000 in
theorem ggX9_parts_X9_in : GoodIn wsX9_parts wsX9_in := goodIn_r _ [9] (by decide +kernel) (by decide +kernel)
set_option maxRecDepth 20000 in
theorem gX9_parts_X9_in : GoodIn wsX9_parts (va_wsS RX9 39 yX9_in wsX9_in) := goodIn_app (goodIn_of _ (by decide +kernel)) ggX9_parts_X9_in
set_option maxRecDepth 20000 in
theorem ggX9_parts_X9_forget : GoodIn wsX9_parts wsX9_forget := goodIn_r _ [13, 14, 15, 2, 38, 39, 40, 41, 42, 43, 44, 45, 46, 47] (by decide +kernel) (by decide +kernel)
set_option maxRecDepth 20000 in
theorem gX9_parts_X9_forget : GoodIn wsX9_parts (wsV RX9 91 RX9 yX9_forget wsX9_forget) := goodIn_app (goodIn_of _ (by decide +kernel)) ggX9_parts_X9_forget
set_option maxRecDepth 20000 in
theorem ggX9_parts_X9_canBe : GoodIn wsX9_parts wsX9_canBe := goodIn_r _ [19, 20, 21, 22, 23, 24, 5, 25, 1, 26, 27, 28, 29, 7, 8, 9, 38, 39, 40, 41, 42, 43, 44, 45, 46, 47] (by decide +kernel) (by decide +kernel)
set_option maxRecDepth 20000 in
theorem gX9_parts_X9_canBe : GoodIn wsX9_parts (wsV RX9 84 RX9 yX9_canBe wsX9_canBe) := goodIn_app (goodIn_of _ (by decide +kernel)) ggX9_parts_X9_canBe
set_option maxRecDepth 20000 in
theorem ggX9_parts_X9_size : GoodIn wsX9_parts wsX9_size := goodIn_r _ [29] (by decide +kernel) (by decide +kernel)
set_option maxRecDepth 20000 in
theorem gX9_parts_X9_size : GoodIn wsX9_parts (va_wsS RX9 54 yX9_size wsX9_size) := goodIn_app (goodIn_of _ (by decide +kernel)) ggX9_parts_X9_size
set_option maxRecDepth 20000 in
theorem ggX9_parts_X9_goFrom : GoodIn wsX9_parts wsX9_goFrom := goodIn_r _ [33, 14, 2, 1, 15, 16, 17, 18, 5, 19, 20, 21, 22, 23, 24, 25, 26, 27, 28, 29, 7, 8, 9, 34, 35, 36, 37, 38, 39, 40, 41, 42, 43, 44, 45, 46, 47] (by decide +kernel) (by decide +kernel)
set_option maxRecDepth 20000 in
theorem gX9_parts_X9_goFrom : GoodIn wsX9_parts (wsV RX9 94 RX9 yX9_goFrom wsX9_goFrom) := goodIn_app (goodIn_of _ (by decide +kernel)) ggX9_parts_X9_goFrom
theorem dX9_parts_0 : decode cX9_parts 0 = .ok (.iload_n 1, 1) := by decide +kernel
theorem dX9_parts_1 : decode cX9_parts 1 = .ok (.invokestatic 62, 3) := by decide +kernel
theorem dX9_parts_4 : decode cX9_parts 4 = .ok (.ifCond .eq 27, 3) := by decide +kernel
theorem dX9_parts_7 : decode cX9_parts 7 = .ok (.iload_n 2, 1) := by decide +kernel
theorem dX9_parts_8 : decode cX9_parts 8 = .ok (.invokestatic 62, 3) := by decide +kernel
theorem dX9_parts_11 : decode cX9_parts 11 = .ok (.ifCond .eq 20, 3) := by decide +kernel
theorem dX9_parts_14 : decode cX9_parts 14 = .ok (.iload_n 2, 1) := by decide +kernel
theorem dX9_parts_15 : decode cX9_parts 15 = .ok (.iconst 2, 1) := by decide +kernel
theorem dX9_parts_16 : decode cX9_parts 16 = .ok (.if_icmp .ge 17, 3) := by decide +kernel
theorem dX9_parts_19 : decode cX9_parts 19 = .ok (.iload_n 3, 1) := by decide +kernel
theorem dX9_parts_20 : decode cX9_parts 20 = .ok (.iconst 0, 1) := by decide +kernel
theorem dX9_parts_21 : decode cX9_parts 21 = .ok (.aload_n 0, 1) := by decide +kernel
theorem dX9_parts_22 : decode cX9_parts 22 = .ok (.getfield 7, 3) := by decide +kernel
theorem dX9_parts_25 : decode cX9_parts 25 = .ok (.invokestatic 39, 3) := by decide +kernel
theorem dX9_parts_28 : decode cX9_parts 28 = .ok (.ifCond .ne 5, 3) := by decide +kernel
theorem dX9_parts_31 : decode cX9_parts 31 = .ok (.iconst (-1), 1) := by decide +kernel
theorem dX9_parts_32 : decode cX9_parts 32 = .ok (.ireturn, 1) := by decide +kernel
theorem dX9_parts_33 : decode cX9_parts 33 = .ok (.aload_n 0, 1) := by decide +kernel
theorem dX9_parts_34 : decode cX9_parts 34 = .ok (.invokevirtual 91, 3) := by decide +kernel
theorem dX9_parts_37 : decode cX9_parts 37 = .ok (.iconst 0, 1) := by decide +kernel
theorem dX9_parts_38 : decode cX9_parts 38 = .ok (.istore 4, 2) := by decide +kernel
theorem dX9_parts_40 : decode cX9_parts 40 = .ok (.iconst 0, 1) := by decide +kernel
theorem dX9_parts_41 : decode cX9_parts 41 = .ok (.istore 5, 2) := by decide +kernel
theorem dX9_parts_43 : decode cX9_parts 43 = .ok (.iload 5, 2) := by decide +kernel
theorem dX9_parts_45 : decode cX9_parts 45 = .ok (.iconst 1, 1) := by decide +kernel
theorem dX9_parts_46 : decode cX9_parts 46 = .ok (.aload_n 0, 1) := by decide +kernel
theorem dX9_parts_47 : decode cX9_parts 47 = .ok (.getfield 7, 3) := by decide +kernel
theorem dX9_parts_50 : decode cX9_parts 50 = .ok (.ishl, 1) := by decide +kernel
theorem dX9_parts_51 : decode cX9_parts 51 = .ok (.if_icmp .ge 56, 3) := by decide +kernel
theorem dX9_parts_54 : decode cX9_parts 54 = .ok (.aload_n 0, 1) := by decide +kernel
theorem dX9_parts_55 : decode cX9_parts 55 = .ok (.getfield 26, 3) := by decide +kernel
theorem dX9_parts_58 : decode cX9_parts 58 = .ok (.iload 5, 2) := by decide +kernel
theorem dX9_parts_60 : decode cX9_parts 60 = .ok (.baload, 1) := by decide +kernel
theorem dX9_parts_61 : decode cX9_parts 61 = .ok (.ifCond .ne 40, 3) := by decide +kernel
theorem dX9_parts_64 : decode cX9_parts 64 = .ok (.aload_n 0, 1) := by decide +kernel
theorem dX9_parts_65 : decode cX9_parts 65 = .ok (.iload_n 1, 1) := by decide +kernel
theorem dX9_parts_66 : decode cX9_parts 66 = .ok (.iload_n 2, 1) := by decide +kernel
theorem dX9_parts_67 : decode cX9_parts 67 = .ok (.iload 5, 2) := by decide +kernel
theorem dX9_parts_69 : decode cX9_parts 69 = .ok (.invokevirtual 84, 3) := by decide +kernel
theorem dX9_parts_72 : decode cX9_parts 72 = .ok (.ifCond .eq 29, 3) := by decide +kernel
theorem dX9_parts_75 : decode cX9_parts 75 = .ok (.iload_n 2, 1) := by decide +kernel
theorem dX9_parts_76 : decode cX9_parts 76 = .ok (.iconst 2, 1) := by decide +kernel
theorem dX9_parts_77 : decode cX9_parts 77 = .ok (.if_icmp .eq 12, 3) := by decide +kernel
theorem dX9_parts_80 : decode cX9_parts 80 = .ok (.iload 5, 2) := by decide +kernel
theorem dX9_parts_82 : decode cX9_parts 82 = .ok (.invokestatic 54, 3) := by decide +kernel
theorem dX9_parts_85 : decode cX9_parts 85 = .ok (.iload_n 3, 1) := by decide +kernel
theorem dX9_parts_86 : decode cX9_parts 86 = .ok (.if_icmp .ne 15, 3) := by decide +kernel
theorem dX9_parts_89 : decode cX9_parts 89 = .ok (.aload_n 0, 1) := by decide +kernel
theorem dX9_parts_90 : decode cX9_parts 90 = .ok (.iload_n 1, 1) := by decide +kernel
theorem dX9_parts_91 : decode cX9_parts 91 = .ok (.iload_n 2, 1) := by decide +kernel
theorem dX9_parts_92 : decode cX9_parts 92 = .ok (.iload 5, 2) := by decide +kernel
theorem dX9_parts_94 : decode cX9_parts 94 = .ok (.iconst 0, 1) := by decide +kernel
theorem dX9_parts_95 : decode cX9_parts 95 = .ok (.invokevirtual 94, 3) := by decide +kernel
theorem dX9_parts_98 : decode cX9_parts 98 = .ok (.iinc 4 1, 3) := by decide +kernel
theorem dX9_parts_101 : decode cX9_parts 101 = .ok (.iinc 5 1, 3) := by decide +kernel
theorem dX9_parts_104 : decode cX9_parts 104 = .ok (.goto (-61), 3) := by decide +kernel
theorem dX9_parts_107 : decode cX9_parts 107 = .ok (.iload 4, 2) := by decide +kernel
theorem dX9_parts_109 : decode cX9_parts 109 = .ok (.ireturn, 1) := by decide +kernel
theorem dX9_all_0 : decode cX9_all 0 = .ok (.iconst 1, 1) := by decide +kernel
theorem dX9_all_1 : decode cX9_all 1 = .ok (.iconst 2, 1) := by decide +kernel
theorem dX9_all_2 : decode cX9_all 2 = .ok (.aload_n 0, 1) := by decide +kernel
theorem dX9_all_3 : decode cX9_all 3 = .ok (.getfield 7, 3) := by decide +kernel
theorem dX9_all_6 : decode cX9_all 6 = .ok (.imul, 1) := by decide +kernel
theorem dX9_all_7 : decode cX9_all 7 = .ok (.ishl, 1) := by decide +kernel
theorem dX9_all_8 : decode cX9_all 8 = .ok (.ireturn, 1) := by decide +kernel
set_option maxRecDepth 20000 in
theorem ggX9_isColouring_X9_all : GoodIn wsX9_isColouring wsX9_all := goodIn_r _ [7, 1, 11, 12, 13, 14, 15, 16, 17, 18, 19, 20] (by decide +kernel) (by decide +kernel)
set_option maxRecDepth 20000 in
theorem gX9_isColouring_X9_all : GoodIn wsX9_isColouring (wsV RX9 98 RX9 yX9_all wsX9_all) := goodIn_app (goodIn_of _ (by decide +kernel)) ggX9_isColouring_X9_all
set_option maxRecDepth 20000 in
theorem ggX9_isColouring_X9_in : GoodIn wsX9_isColouring wsX9_in := goodIn_r _ [10] (by decide +kernel) (by decide +kernel)
set_option maxRecDepth 20000 in
theorem gX9_isColouring_X9_in : GoodIn wsX9_isColouring (va_wsS RX9 39 yX9_in wsX9_in) := goodIn_app (goodIn_of _ (by decide +kernel)) ggX9_isColouring_X9_in
theorem dX9_isColouring_0 : decode cX9_isColouring 0 = .ok (.iload_n 1, 1) := by decide +kernel
theorem dX9_isColouring_1 : decode cX9_isColouring 1 = .ok (.iconst 0, 1) := by decide +kernel
theorem dX9_isColouring_2 : decode cX9_isColouring 2 = .ok (.aload_n 0, 1) := by decide +kernel
theorem dX9_isColouring_3 : decode cX9_isColouring 3 = .ok (.invokevirtual 98, 3) := by decide +kernel
theorem dX9_isColouring_6 : decode cX9_isColouring 6 = .ok (.iconst 1, 1) := by decide +kernel
theorem dX9_isColouring_7 : decode cX9_isColouring 7 = .ok (.isub, 1) := by decide +kernel
theorem dX9_isColouring_8 : decode cX9_isColouring 8 = .ok (.invokestatic 39, 3) := by decide +kernel
theorem dX9_isColouring_11 : decode cX9_isColouring 11 = .ok (.istore_n 2, 1) := by decide +kernel
theorem dX9_isColouring_12 : decode cX9_isColouring 12 = .ok (.iconst 0, 1) := by decide +kernel
theorem dX9_isColouring_13 : decode cX9_isColouring 13 = .ok (.istore_n 3, 1) := by decide +kernel
theorem dX9_isColouring_14 : decode cX9_isColouring 14 = .ok (.iload_n 3, 1) := by decide +kernel
theorem dX9_isColouring_15 : decode cX9_isColouring 15 = .ok (.aload_n 0, 1) := by decide +kernel
theorem dX9_isColouring_16 : decode cX9_isColouring 16 = .ok (.getfield 7, 3) := by decide +kernel
theorem dX9_isColouring_19 : decode cX9_isColouring 19 = .ok (.if_icmp .ge 33, 3) := by decide +kernel
theorem dX9_isColouring_22 : decode cX9_isColouring 22 = .ok (.iload_n 2, 1) := by decide +kernel
theorem dX9_isColouring_23 : decode cX9_isColouring 23 = .ok (.ifCond .eq 29, 3) := by decide +kernel
theorem dX9_isColouring_26 : decode cX9_isColouring 26 = .ok (.iload_n 1, 1) := by decide +kernel
theorem dX9_isColouring_27 : decode cX9_isColouring 27 = .ok (.iconst 2, 1) := by decide +kernel
theorem dX9_isColouring_28 : decode cX9_isColouring 28 = .ok (.iload_n 3, 1) := by decide +kernel
theorem dX9_isColouring_29 : decode cX9_isColouring 29 = .ok (.imul, 1) := by decide +kernel
theorem dX9_isColouring_30 : decode cX9_isColouring 30 = .ok (.ishr, 1) := by decide +kernel
theorem dX9_isColouring_31 : decode cX9_isColouring 31 = .ok (.iconst 3, 1) := by decide +kernel
theorem dX9_isColouring_32 : decode cX9_isColouring 32 = .ok (.iand, 1) := by decide +kernel
theorem dX9_isColouring_33 : decode cX9_isColouring 33 = .ok (.aload_n 0, 1) := by decide +kernel
theorem dX9_isColouring_34 : decode cX9_isColouring 34 = .ok (.getfield 20, 3) := by decide +kernel
theorem dX9_isColouring_37 : decode cX9_isColouring 37 = .ok (.if_icmp .ge 7, 3) := by decide +kernel
theorem dX9_isColouring_40 : decode cX9_isColouring 40 = .ok (.iconst 1, 1) := by decide +kernel
theorem dX9_isColouring_41 : decode cX9_isColouring 41 = .ok (.goto 4, 3) := by decide +kernel
theorem dX9_isColouring_44 : decode cX9_isColouring 44 = .ok (.iconst 0, 1) := by decide +kernel
theorem dX9_isColouring_45 : decode cX9_isColouring 45 = .ok (.istore_n 2, 1) := by decide +kernel
theorem dX9_isColouring_46 : decode cX9_isColouring 46 = .ok (.iinc 3 1, 3) := by decide +kernel
theorem dX9_isColouring_49 : decode cX9_isColouring 49 = .ok (.goto (-35), 3) := by decide +kernel
theorem dX9_isColouring_52 : decode cX9_isColouring 52 = .ok (.iload_n 2, 1) := by decide +kernel
theorem dX9_isColouring_53 : decode cX9_isColouring 53 = .ok (.ireturn, 1) := by decide +kernel
set_option maxRecDepth 20000 in
theorem ggX9_isProper_X9_isColouring : GoodIn wsX9_isProper wsX9_isColouring := goodIn_r _ [7, 1, 8, 9, 10, 11, 6, 12, 13, 14, 15, 16, 17, 18, 19, 20, 21, 22, 23, 24, 25] (by decide +kernel) (by decide +kernel)
set_option maxRecDepth 20000 in
theorem gX9_isProper_X9_isColouring : GoodIn wsX9_isProper (wsV RX9 101 RX9 yX9_isColouring wsX9_isColouring) := goodIn_app (goodIn_of _ (by decide +kernel)) ggX9_isProper_X9_isColouring
theorem dX9_isProper_0 : decode cX9_isProper 0 = .ok (.aload_n 0, 1) := by decide +kernel
theorem dX9_isProper_1 : decode cX9_isProper 1 = .ok (.iload_n 1, 1) := by decide +kernel
theorem dX9_isProper_2 : decode cX9_isProper 2 = .ok (.invokevirtual 101, 3) := by decide +kernel
theorem dX9_isProper_5 : decode cX9_isProper 5 = .ok (.istore_n 2, 1) := by decide +kernel
theorem dX9_isProper_6 : decode cX9_isProper 6 = .ok (.iconst 0, 1) := by decide +kernel
theorem dX9_isProper_7 : decode cX9_isProper 7 = .ok (.istore_n 3, 1) := by decide +kernel
theorem dX9_isProper_8 : decode cX9_isProper 8 = .ok (.iload_n 3, 1) := by decide +kernel
theorem dX9_isProper_9 : decode cX9_isProper 9 = .ok (.aload_n 0, 1) := by decide +kernel
theorem dX9_isProper_10 : decode cX9_isProper 10 = .ok (.getfield 7, 3) := by decide +kernel
theorem dX9_isProper_13 : decode cX9_isProper 13 = .ok (.if_icmp .ge 66, 3) := by decide +kernel
theorem dX9_isProper_16 : decode cX9_isProper 16 = .ok (.iconst 0, 1) := by decide +kernel
theorem dX9_isProper_17 : decode cX9_isProper 17 = .ok (.istore 4, 2) := by decide +kernel
theorem dX9_isProper_19 : decode cX9_isProper 19 = .ok (.iload 4, 2) := by decide +kernel
theorem dX9_isProper_21 : decode cX9_isProper 21 = .ok (.iload_n 3, 1) := by decide +kernel
theorem dX9_isProper_22 : decode cX9_isProper 22 = .ok (.if_icmp .ge 51, 3) := by decide +kernel
theorem dX9_isProper_25 : decode cX9_isProper 25 = .ok (.iload_n 2, 1) := by decide +kernel
theorem dX9_isProper_26 : decode cX9_isProper 26 = .ok (.ifCond .eq 39, 3) := by decide +kernel
theorem dX9_isProper_29 : decode cX9_isProper 29 = .ok (.aload_n 0, 1) := by decide +kernel
theorem dX9_isProper_30 : decode cX9_isProper 30 = .ok (.getfield 13, 3) := by decide +kernel
theorem dX9_isProper_33 : decode cX9_isProper 33 = .ok (.iload_n 3, 1) := by decide +kernel
theorem dX9_isProper_34 : decode cX9_isProper 34 = .ok (.iaload, 1) := by decide +kernel
theorem dX9_isProper_35 : decode cX9_isProper 35 = .ok (.iload 4, 2) := by decide +kernel
theorem dX9_isProper_37 : decode cX9_isProper 37 = .ok (.ishr, 1) := by decide +kernel
theorem dX9_isProper_38 : decode cX9_isProper 38 = .ok (.iconst 1, 1) := by decide +kernel
theorem dX9_isProper_39 : decode cX9_isProper 39 = .ok (.iand, 1) := by decide +kernel
theorem dX9_isProper_40 : decode cX9_isProper 40 = .ok (.ifCond .eq 21, 3) := by decide +kernel
theorem dX9_isProper_43 : decode cX9_isProper 43 = .ok (.iload_n 1, 1) := by decide +kernel
theorem dX9_isProper_44 : decode cX9_isProper 44 = .ok (.iconst 2, 1) := by decide +kernel
theorem dX9_isProper_45 : decode cX9_isProper 45 = .ok (.iload_n 3, 1) := by decide +kernel
theorem dX9_isProper_46 : decode cX9_isProper 46 = .ok (.imul, 1) := by decide +kernel
theorem dX9_isProper_47 : decode cX9_isProper 47 = .ok (.ishr, 1) := by decide +kernel
theorem dX9_isProper_48 : decode cX9_isProper 48 = .ok (.iconst 3, 1) := by decide +kernel
theorem dX9_isProper_49 : decode cX9_isProper 49 = .ok (.iand, 1) := by decide +kernel
theorem dX9_isProper_50 : decode cX9_isProper 50 = .ok (.iload_n 1, 1) := by decide +kernel
theorem dX9_isProper_51 : decode cX9_isProper 51 = .ok (.iconst 2, 1) := by decide +kernel
theorem dX9_isProper_52 : decode cX9_isProper 52 = .ok (.iload 4, 2) := by decide +kernel
theorem dX9_isProper_54 : decode cX9_isProper 54 = .ok (.imul, 1) := by decide +kernel
theorem dX9_isProper_55 : decode cX9_isProper 55 = .ok (.ishr, 1) := by decide +kernel
theorem dX9_isProper_56 : decode cX9_isProper 56 = .ok (.iconst 3, 1) := by decide +kernel
theorem dX9_isProper_57 : decode cX9_isProper 57 = .ok (.iand, 1) := by decide +kernel
theorem dX9_isProper_58 : decode cX9_isProper 58 = .ok (.if_icmp .eq 7, 3) := by decide +kernel
theorem dX9_isProper_61 : decode cX9_isProper 61 = .ok (.iconst 1, 1) := by decide +kernel
theorem dX9_isProper_62 : decode cX9_isProper 62 = .ok (.goto 4, 3) := by decide +kernel
theorem dX9_isProper_65 : decode cX9_isProper 65 = .ok (.iconst 0, 1) := by decide +kernel
theorem dX9_isProper_66 : decode cX9_isProper 66 = .ok (.istore_n 2, 1) := by decide +kernel
theorem dX9_isProper_67 : decode cX9_isProper 67 = .ok (.iinc 4 1, 3) := by decide +kernel
theorem dX9_isProper_70 : decode cX9_isProper 70 = .ok (.goto (-51), 3) := by decide +kernel
theorem dX9_isProper_73 : decode cX9_isProper 73 = .ok (.iinc 3 1, 3) := by decide +kernel
theorem dX9_isProper_76 : decode cX9_isProper 76 = .ok (.goto (-68), 3) := by decide +kernel
theorem dX9_isProper_79 : decode cX9_isProper 79 = .ok (.iload_n 2, 1) := by decide +kernel
theorem dX9_isProper_80 : decode cX9_isProper 80 = .ok (.ireturn, 1) := by decide +kernel
