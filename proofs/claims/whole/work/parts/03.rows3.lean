theorem dX7_planShares_3 : decode cX7_planShares 3 = .ok (.istore_n 3, 1) := by decide +kernel
theorem dX7_planShares_4 : decode cX7_planShares 4 = .ok (.iload_n 3, 1) := by decide +kernel
theorem dX7_planShares_5 : decode cX7_planShares 5 = .ok (.aload_n 0, 1) := by decide +kernel
theorem dX7_planShares_6 : decode cX7_planShares 6 = .ok (.getfield 19, 3) := by decide +kernel
theorem dX7_planShares_9 : decode cX7_planShares 9 = .ok (.iconst 1, 1) := by decide +kernel
theorem dX7_planShares_10 : decode cX7_planShares 10 = .ok (.iadd, 1) := by decide +kernel
theorem dX7_planShares_11 : decode cX7_planShares 11 = .ok (.if_icmp .gt 19, 3) := by decide +kernel
theorem dX7_planShares_14 : decode cX7_planShares 14 = .ok (.lload_n 1, 1) := by decide +kernel
theorem dX7_planShares_15 : decode cX7_planShares 15 = .ok (.aload_n 0, 1) := by decide +kernel
theorem dX7_planShares_16 : decode cX7_planShares 16 = .ok (.getfield 22, 3) := by decide +kernel
theorem dX7_planShares_19 : decode cX7_planShares 19 = .ok (.iload_n 3, 1) := by decide +kernel
theorem dX7_planShares_20 : decode cX7_planShares 20 = .ok (.iaload, 1) := by decide +kernel
theorem dX7_planShares_21 : decode cX7_planShares 21 = .ok (.i2l, 1) := by decide +kernel
theorem dX7_planShares_22 : decode cX7_planShares 22 = .ok (.ladd, 1) := by decide +kernel
theorem dX7_planShares_23 : decode cX7_planShares 23 = .ok (.lstore_n 1, 1) := by decide +kernel
theorem dX7_planShares_24 : decode cX7_planShares 24 = .ok (.iinc 3 1, 3) := by decide +kernel
theorem dX7_planShares_27 : decode cX7_planShares 27 = .ok (.goto (-23), 3) := by decide +kernel
theorem dX7_planShares_30 : decode cX7_planShares 30 = .ok (.lload_n 1, 1) := by decide +kernel
theorem dX7_planShares_31 : decode cX7_planShares 31 = .ok (.lreturn, 1) := by decide +kernel
set_option maxRecDepth 20000 in
theorem ggX7_weighed_X7_costOf : GoodIn wsX7_weighed wsX7_costOf := goodIn_r _ [7, 8, 9, 10, 11, 6, 12, 13, 14, 15, 16, 17, 18, 19, 20, 21, 22, 23, 24, 25, 26, 27, 28, 29, 30, 31, 32, 33, 34, 35, 36, 37, 38] (by decide +kernel) (by decide +kernel)
set_option maxRecDepth 20000 in
theorem gX7_weighed_X7_costOf : GoodIn wsX7_weighed (wsV RX7 88 RX7 yX7_costOf wsX7_costOf) := goodIn_app (goodIn_of _ (by decide +kernel)) ggX7_weighed_X7_costOf
theorem dX7_weighed_0 : decode cX7_weighed 0 = .ok (.lconst 0, 1) := by decide +kernel
theorem dX7_weighed_1 : decode cX7_weighed 1 = .ok (.lstore_n 2, 1) := by decide +kernel
theorem dX7_weighed_2 : decode cX7_weighed 2 = .ok (.iconst 1, 1) := by decide +kernel
theorem dX7_weighed_3 : decode cX7_weighed 3 = .ok (.istore 4, 2) := by decide +kernel
theorem dX7_weighed_5 : decode cX7_weighed 5 = .ok (.iload 4, 2) := by decide +kernel
theorem dX7_weighed_7 : decode cX7_weighed 7 = .ok (.aload_n 0, 1) := by decide +kernel
theorem dX7_weighed_8 : decode cX7_weighed 8 = .ok (.getfield 19, 3) := by decide +kernel
theorem dX7_weighed_11 : decode cX7_weighed 11 = .ok (.iconst 1, 1) := by decide +kernel
theorem dX7_weighed_12 : decode cX7_weighed 12 = .ok (.iadd, 1) := by decide +kernel
theorem dX7_weighed_13 : decode cX7_weighed 13 = .ok (.if_icmp .gt 29, 3) := by decide +kernel
theorem dX7_weighed_16 : decode cX7_weighed 16 = .ok (.lload_n 2, 1) := by decide +kernel
theorem dX7_weighed_17 : decode cX7_weighed 17 = .ok (.aload_n 0, 1) := by decide +kernel
theorem dX7_weighed_18 : decode cX7_weighed 18 = .ok (.getfield 22, 3) := by decide +kernel
theorem dX7_weighed_21 : decode cX7_weighed 21 = .ok (.iload 4, 2) := by decide +kernel
theorem dX7_weighed_23 : decode cX7_weighed 23 = .ok (.iaload, 1) := by decide +kernel
theorem dX7_weighed_24 : decode cX7_weighed 24 = .ok (.i2l, 1) := by decide +kernel
theorem dX7_weighed_25 : decode cX7_weighed 25 = .ok (.aload_n 0, 1) := by decide +kernel
theorem dX7_weighed_26 : decode cX7_weighed 26 = .ok (.iload 4, 2) := by decide +kernel
theorem dX7_weighed_28 : decode cX7_weighed 28 = .ok (.iload_n 1, 1) := by decide +kernel
theorem dX7_weighed_29 : decode cX7_weighed 29 = .ok (.invokevirtual 88, 3) := by decide +kernel
theorem dX7_weighed_32 : decode cX7_weighed 32 = .ok (.i2l, 1) := by decide +kernel
theorem dX7_weighed_33 : decode cX7_weighed 33 = .ok (.lmul, 1) := by decide +kernel
theorem dX7_weighed_34 : decode cX7_weighed 34 = .ok (.ladd, 1) := by decide +kernel
theorem dX7_weighed_35 : decode cX7_weighed 35 = .ok (.lstore_n 2, 1) := by decide +kernel
theorem dX7_weighed_36 : decode cX7_weighed 36 = .ok (.iinc 4 1, 3) := by decide +kernel
theorem dX7_weighed_39 : decode cX7_weighed 39 = .ok (.goto (-34), 3) := by decide +kernel
theorem dX7_weighed_42 : decode cX7_weighed 42 = .ok (.lload_n 2, 1) := by decide +kernel
theorem dX7_weighed_43 : decode cX7_weighed 43 = .ok (.lreturn, 1) := by decide +kernel
set_option maxRecDepth 20000 in
theorem ggX7_mean_X7_isEnd : GoodIn wsX7_mean wsX7_isEnd := goodIn_r _ [7, 8, 9, 10, 6, 11, 45, 46, 47, 48, 49, 50, 51, 52, 53, 54, 55, 56, 57, 58, 59, 60, 61, 62] (by decide +kernel) (by decide +kernel)
set_option maxRecDepth 20000 in
theorem gX7_mean_X7_isEnd : GoodIn wsX7_mean (wsV RX7 85 RX7 yX7_isEnd wsX7_isEnd) := goodIn_app (goodIn_of _ (by decide +kernel)) ggX7_mean_X7_isEnd
set_option maxRecDepth 20000 in
theorem ggX7_mean_X7_in : GoodIn wsX7_mean wsX7_in := goodIn_r _ [11] (by decide +kernel) (by decide +kernel)
set_option maxRecDepth 20000 in
theorem gX7_mean_X7_in : GoodIn wsX7_mean (va_wsS RX7 66 yX7_in wsX7_in) := goodIn_app (goodIn_of _ (by decide +kernel)) ggX7_mean_X7_in
set_option maxRecDepth 20000 in
theorem ggX7_mean_X7_planShares : GoodIn wsX7_mean wsX7_planShares := goodIn_r _ [15, 8, 16, 45, 46, 47, 48, 49, 50, 51, 52, 53, 54, 55, 56, 57, 58, 59, 60, 61, 62] (by decide +kernel) (by decide +kernel)
set_option maxRecDepth 20000 in
theorem gX7_mean_X7_planShares : GoodIn wsX7_mean (wsV RX7 105 RX7 yX7_planShares wsX7_planShares) := goodIn_app (goodIn_of _ (by decide +kernel)) ggX7_mean_X7_planShares
set_option maxRecDepth 20000 in
theorem ggX7_mean_X7_weighed : GoodIn wsX7_mean wsX7_weighed := goodIn_r _ [20, 8, 16, 21, 22, 23, 6, 24, 25, 26, 27, 28, 29, 30, 31, 32, 33, 34, 35, 36, 37, 45, 46, 47, 48, 49, 50, 51, 52, 53, 54, 55, 56, 57, 58, 59, 60, 61, 62] (by decide +kernel) (by decide +kernel)
set_option maxRecDepth 20000 in
theorem gX7_mean_X7_weighed : GoodIn wsX7_mean (wsV RX7 111 RX7 yX7_weighed wsX7_weighed) := goodIn_app (goodIn_of _ (by decide +kernel)) ggX7_mean_X7_weighed
set_option maxRecDepth 20000 in
theorem ggX7_mean_X7_knownBy : GoodIn wsX7_mean wsX7_knownBy := goodIn_r _ [41, 25, 26, 27, 28, 6, 29, 30, 31, 32, 33, 34, 35, 36, 37, 45, 46, 47, 48, 49, 50, 51, 52, 53, 54, 55, 56, 57, 58, 59, 60, 61, 62] (by decide +kernel) (by decide +kernel)
set_option maxRecDepth 20000 in
theorem gX7_mean_X7_knownBy : GoodIn wsX7_mean (wsV RX7 70 RX7 yX7_knownBy wsX7_knownBy) := goodIn_app (goodIn_of _ (by decide +kernel)) ggX7_mean_X7_knownBy
set_option maxRecDepth 20000 in
theorem ggX7_mean_X7_common : GoodIn wsX7_mean wsX7_common := goodIn_r _ [44] (by decide +kernel) (by decide +kernel)
set_option maxRecDepth 20000 in
theorem gX7_mean_X7_common : GoodIn wsX7_mean (va_wsS RX7 95 yX7_common wsX7_common) := goodIn_app (goodIn_of _ (by decide +kernel)) ggX7_mean_X7_common
theorem dX7_mean_0 : decode cX7_mean 0 = .ok (.aload_n 0, 1) := by decide +kernel
theorem dX7_mean_1 : decode cX7_mean 1 = .ok (.iload_n 1, 1) := by decide +kernel
theorem dX7_mean_2 : decode cX7_mean 2 = .ok (.invokevirtual 85, 3) := by decide +kernel
theorem dX7_mean_5 : decode cX7_mean 5 = .ok (.ifCond .eq 12, 3) := by decide +kernel
theorem dX7_mean_8 : decode cX7_mean 8 = .ok (.iload_n 2, 1) := by decide +kernel
theorem dX7_mean_9 : decode cX7_mean 9 = .ok (.iconst 0, 1) := by decide +kernel
theorem dX7_mean_10 : decode cX7_mean 10 = .ok (.iconst 1, 1) := by decide +kernel
theorem dX7_mean_11 : decode cX7_mean 11 = .ok (.invokestatic 66, 3) := by decide +kernel
theorem dX7_mean_14 : decode cX7_mean 14 = .ok (.ifCond .ne 7, 3) := by decide +kernel
theorem dX7_mean_17 : decode cX7_mean 17 = .ok (.ldc2_w 103, 3) := by decide +kernel
theorem dX7_mean_20 : decode cX7_mean 20 = .ok (.lreturn, 1) := by decide +kernel
theorem dX7_mean_21 : decode cX7_mean 21 = .ok (.aload_n 0, 1) := by decide +kernel
theorem dX7_mean_22 : decode cX7_mean 22 = .ok (.invokevirtual 105, 3) := by decide +kernel
theorem dX7_mean_25 : decode cX7_mean 25 = .ok (.lstore_n 3, 1) := by decide +kernel
theorem dX7_mean_26 : decode cX7_mean 26 = .ok (.lload_n 3, 1) := by decide +kernel
theorem dX7_mean_27 : decode cX7_mean 27 = .ok (.lconst 0, 1) := by decide +kernel
theorem dX7_mean_28 : decode cX7_mean 28 = .ok (.lcmp, 1) := by decide +kernel
theorem dX7_mean_29 : decode cX7_mean 29 = .ok (.ifCond .ne 7, 3) := by decide +kernel
theorem dX7_mean_32 : decode cX7_mean 32 = .ok (.ldc2_w 109, 3) := by decide +kernel
theorem dX7_mean_35 : decode cX7_mean 35 = .ok (.lreturn, 1) := by decide +kernel
theorem dX7_mean_36 : decode cX7_mean 36 = .ok (.aload_n 0, 1) := by decide +kernel
theorem dX7_mean_37 : decode cX7_mean 37 = .ok (.iload_n 1, 1) := by decide +kernel
theorem dX7_mean_38 : decode cX7_mean 38 = .ok (.invokevirtual 111, 3) := by decide +kernel
theorem dX7_mean_41 : decode cX7_mean 41 = .ok (.lstore 5, 2) := by decide +kernel
theorem dX7_mean_43 : decode cX7_mean 43 = .ok (.lload_n 3, 1) := by decide +kernel
theorem dX7_mean_44 : decode cX7_mean 44 = .ok (.aload_n 0, 1) := by decide +kernel
theorem dX7_mean_45 : decode cX7_mean 45 = .ok (.iload_n 1, 1) := by decide +kernel
theorem dX7_mean_46 : decode cX7_mean 46 = .ok (.invokevirtual 70, 3) := by decide +kernel
theorem dX7_mean_49 : decode cX7_mean 49 = .ok (.i2l, 1) := by decide +kernel
theorem dX7_mean_50 : decode cX7_mean 50 = .ok (.lmul, 1) := by decide +kernel
theorem dX7_mean_51 : decode cX7_mean 51 = .ok (.lstore 7, 2) := by decide +kernel
theorem dX7_mean_53 : decode cX7_mean 53 = .ok (.lload 5, 2) := by decide +kernel
theorem dX7_mean_55 : decode cX7_mean 55 = .ok (.lload 7, 2) := by decide +kernel
theorem dX7_mean_57 : decode cX7_mean 57 = .ok (.invokestatic 95, 3) := by decide +kernel
theorem dX7_mean_60 : decode cX7_mean 60 = .ok (.lstore 9, 2) := by decide +kernel
theorem dX7_mean_62 : decode cX7_mean 62 = .ok (.iload_n 2, 1) := by decide +kernel
theorem dX7_mean_63 : decode cX7_mean 63 = .ok (.ifCond .ne 11, 3) := by decide +kernel
theorem dX7_mean_66 : decode cX7_mean 66 = .ok (.lload 5, 2) := by decide +kernel
theorem dX7_mean_68 : decode cX7_mean 68 = .ok (.lload 9, 2) := by decide +kernel
theorem dX7_mean_70 : decode cX7_mean 70 = .ok (.ldiv, 1) := by decide +kernel
theorem dX7_mean_71 : decode cX7_mean 71 = .ok (.goto 8, 3) := by decide +kernel
theorem dX7_mean_74 : decode cX7_mean 74 = .ok (.lload 7, 2) := by decide +kernel
theorem dX7_mean_76 : decode cX7_mean 76 = .ok (.lload 9, 2) := by decide +kernel
theorem dX7_mean_78 : decode cX7_mean 78 = .ok (.ldiv, 1) := by decide +kernel
theorem dX7_mean_79 : decode cX7_mean 79 = .ok (.lreturn, 1) := by decide +kernel
set_option maxRecDepth 20000 in
theorem ggX7_upper_X7_planShares : GoodIn wsX7_upper wsX7_planShares := goodIn_r _ [7, 1, 8, 34, 35, 36, 37, 38, 39, 40, 41, 42, 43, 44, 45, 46, 47, 48, 49, 50, 51] (by decide +kernel) (by decide +kernel)
set_option maxRecDepth 20000 in
theorem gX7_upper_X7_planShares : GoodIn wsX7_upper (wsV RX7 105 RX7 yX7_planShares wsX7_planShares) := goodIn_app (goodIn_of _ (by decide +kernel)) ggX7_upper_X7_planShares
set_option maxRecDepth 20000 in
theorem ggX7_upper_X7_knownBy : GoodIn wsX7_upper wsX7_knownBy := goodIn_r _ [12, 13, 14, 15, 16, 6, 17, 18, 19, 20, 21, 22, 23, 24, 25, 34, 35, 36, 37, 38, 39, 40, 41, 42, 43, 44, 45, 46, 47, 48, 49, 50, 51] (by decide +kernel) (by decide +kernel)
set_option maxRecDepth 20000 in
theorem gX7_upper_X7_knownBy : GoodIn wsX7_upper (wsV RX7 70 RX7 yX7_knownBy wsX7_knownBy) := goodIn_app (goodIn_of _ (by decide +kernel)) ggX7_upper_X7_knownBy
set_option maxRecDepth 20000 in
theorem ggX7_upper_X7_weighed : GoodIn wsX7_upper wsX7_weighed := goodIn_r _ [29, 1, 8, 30, 31, 32, 6, 33, 13, 14, 15, 16, 17, 18, 19, 20, 21, 22, 23, 24, 25, 34, 35, 36, 37, 38, 39, 40, 41, 42, 43, 44, 45, 46, 47, 48, 49, 50, 51] (by decide +kernel) (by decide +kernel)
set_option maxRecDepth 20000 in
theorem gX7_upper_X7_weighed : GoodIn wsX7_upper (wsV RX7 111 RX7 yX7_weighed wsX7_weighed) := goodIn_app (goodIn_of _ (by decide +kernel)) ggX7_upper_X7_weighed
theorem dX7_upper_0 : decode cX7_upper 0 = .ok (.aload_n 0, 1) := by decide +kernel
theorem dX7_upper_1 : decode cX7_upper 1 = .ok (.invokevirtual 105, 3) := by decide +kernel
theorem dX7_upper_4 : decode cX7_upper 4 = .ok (.lstore_n 1, 1) := by decide +kernel
theorem dX7_upper_5 : decode cX7_upper 5 = .ok (.lload_n 1, 1) := by decide +kernel
theorem dX7_upper_6 : decode cX7_upper 6 = .ok (.lconst 0, 1) := by decide +kernel
theorem dX7_upper_7 : decode cX7_upper 7 = .ok (.lcmp, 1) := by decide +kernel
theorem dX7_upper_8 : decode cX7_upper 8 = .ok (.ifCond .ne 6, 3) := by decide +kernel
theorem dX7_upper_11 : decode cX7_upper 11 = .ok (.bipush (-2), 2) := by decide +kernel
theorem dX7_upper_13 : decode cX7_upper 13 = .ok (.ireturn, 1) := by decide +kernel
theorem dX7_upper_14 : decode cX7_upper 14 = .ok (.lconst 0, 1) := by decide +kernel
theorem dX7_upper_15 : decode cX7_upper 15 = .ok (.lstore_n 3, 1) := by decide +kernel
theorem dX7_upper_16 : decode cX7_upper 16 = .ok (.iconst 1, 1) := by decide +kernel
theorem dX7_upper_17 : decode cX7_upper 17 = .ok (.istore 5, 2) := by decide +kernel
theorem dX7_upper_19 : decode cX7_upper 19 = .ok (.iload 5, 2) := by decide +kernel
theorem dX7_upper_21 : decode cX7_upper 21 = .ok (.aload_n 0, 1) := by decide +kernel
theorem dX7_upper_22 : decode cX7_upper 22 = .ok (.getfield 19, 3) := by decide +kernel
theorem dX7_upper_25 : decode cX7_upper 25 = .ok (.if_icmp .gt 54, 3) := by decide +kernel
theorem dX7_upper_28 : decode cX7_upper 28 = .ok (.lload_n 1, 1) := by decide +kernel
theorem dX7_upper_29 : decode cX7_upper 29 = .ok (.aload_n 0, 1) := by decide +kernel
theorem dX7_upper_30 : decode cX7_upper 30 = .ok (.iload 5, 2) := by decide +kernel
theorem dX7_upper_32 : decode cX7_upper 32 = .ok (.invokevirtual 70, 3) := by decide +kernel
theorem dX7_upper_35 : decode cX7_upper 35 = .ok (.i2l, 1) := by decide +kernel
theorem dX7_upper_36 : decode cX7_upper 36 = .ok (.lmul, 1) := by decide +kernel
theorem dX7_upper_37 : decode cX7_upper 37 = .ok (.lstore 6, 2) := by decide +kernel
theorem dX7_upper_39 : decode cX7_upper 39 = .ok (.ldc2_w 115, 3) := by decide +kernel
theorem dX7_upper_42 : decode cX7_upper 42 = .ok (.aload_n 0, 1) := by decide +kernel
theorem dX7_upper_43 : decode cX7_upper 43 = .ok (.iload 5, 2) := by decide +kernel
theorem dX7_upper_45 : decode cX7_upper 45 = .ok (.invokevirtual 111, 3) := by decide +kernel
theorem dX7_upper_48 : decode cX7_upper 48 = .ok (.lmul, 1) := by decide +kernel
theorem dX7_upper_49 : decode cX7_upper 49 = .ok (.lload 6, 2) := by decide +kernel
theorem dX7_upper_51 : decode cX7_upper 51 = .ok (.ladd, 1) := by decide +kernel
theorem dX7_upper_52 : decode cX7_upper 52 = .ok (.lconst 1, 1) := by decide +kernel
theorem dX7_upper_53 : decode cX7_upper 53 = .ok (.lsub, 1) := by decide +kernel
theorem dX7_upper_54 : decode cX7_upper 54 = .ok (.lload 6, 2) := by decide +kernel
theorem dX7_upper_56 : decode cX7_upper 56 = .ok (.ldiv, 1) := by decide +kernel
theorem dX7_upper_57 : decode cX7_upper 57 = .ok (.lstore 8, 2) := by decide +kernel
theorem dX7_upper_59 : decode cX7_upper 59 = .ok (.lload 8, 2) := by decide +kernel
theorem dX7_upper_61 : decode cX7_upper 61 = .ok (.lload_n 3, 1) := by decide +kernel
theorem dX7_upper_62 : decode cX7_upper 62 = .ok (.lcmp, 1) := by decide +kernel
theorem dX7_upper_63 : decode cX7_upper 63 = .ok (.ifCond .le 8, 3) := by decide +kernel
theorem dX7_upper_66 : decode cX7_upper 66 = .ok (.lload 8, 2) := by decide +kernel
theorem dX7_upper_68 : decode cX7_upper 68 = .ok (.goto 4, 3) := by decide +kernel
theorem dX7_upper_71 : decode cX7_upper 71 = .ok (.lload_n 3, 1) := by decide +kernel
theorem dX7_upper_72 : decode cX7_upper 72 = .ok (.lstore_n 3, 1) := by decide +kernel
theorem dX7_upper_73 : decode cX7_upper 73 = .ok (.iinc 5 1, 3) := by decide +kernel
theorem dX7_upper_76 : decode cX7_upper 76 = .ok (.goto (-57), 3) := by decide +kernel
theorem dX7_upper_79 : decode cX7_upper 79 = .ok (.lload_n 3, 1) := by decide +kernel
theorem dX7_upper_80 : decode cX7_upper 80 = .ok (.l2i, 1) := by decide +kernel
theorem dX7_upper_81 : decode cX7_upper 81 = .ok (.ireturn, 1) := by decide +kernel
set_option maxRecDepth 20000 in
theorem ggX7_lower_X7_costOf : GoodIn wsX7_lower wsX7_costOf := goodIn_r _ [10, 11, 12, 13, 14, 9, 15, 16, 17, 18, 19, 20, 21, 22, 23, 28, 29, 30, 31, 32, 33, 34, 35, 36, 37, 38, 39, 40, 41, 42, 43, 44, 45] (by decide +kernel) (by decide +kernel)
set_option maxRecDepth 20000 in
theorem gX7_lower_X7_costOf : GoodIn wsX7_lower (wsV RX7 88 RX7 yX7_costOf wsX7_costOf) := goodIn_app (goodIn_of _ (by decide +kernel)) ggX7_lower_X7_costOf
set_option maxRecDepth 20000 in
theorem ggX7_lower_X7_knownBy : GoodIn wsX7_lower wsX7_knownBy := goodIn_r _ [27, 11, 12, 13, 14, 9, 15, 16, 17, 18, 19, 20, 21, 22, 23, 28, 29, 30, 31, 32, 33, 34, 35, 36, 37, 38, 39, 40, 41, 42, 43, 44, 45] (by decide +kernel) (by decide +kernel)
set_option maxRecDepth 20000 in
theorem gX7_lower_X7_knownBy : GoodIn wsX7_lower (wsV RX7 70 RX7 yX7_knownBy wsX7_knownBy) := goodIn_app (goodIn_of _ (by decide +kernel)) ggX7_lower_X7_knownBy
theorem dX7_lower_0 : decode cX7_lower 0 = .ok (.lconst 0, 1) := by decide +kernel
theorem dX7_lower_1 : decode cX7_lower 1 = .ok (.lstore_n 1, 1) := by decide +kernel
theorem dX7_lower_2 : decode cX7_lower 2 = .ok (.iconst 1, 1) := by decide +kernel
theorem dX7_lower_3 : decode cX7_lower 3 = .ok (.istore_n 3, 1) := by decide +kernel
theorem dX7_lower_4 : decode cX7_lower 4 = .ok (.iload_n 3, 1) := by decide +kernel
theorem dX7_lower_5 : decode cX7_lower 5 = .ok (.aload_n 0, 1) := by decide +kernel
theorem dX7_lower_6 : decode cX7_lower 6 = .ok (.getfield 19, 3) := by decide +kernel
theorem dX7_lower_9 : decode cX7_lower 9 = .ok (.if_icmp .gt 19, 3) := by decide +kernel
theorem dX7_lower_12 : decode cX7_lower 12 = .ok (.lload_n 1, 1) := by decide +kernel
theorem dX7_lower_13 : decode cX7_lower 13 = .ok (.aload_n 0, 1) := by decide +kernel
theorem dX7_lower_14 : decode cX7_lower 14 = .ok (.getfield 26, 3) := by decide +kernel
theorem dX7_lower_17 : decode cX7_lower 17 = .ok (.iload_n 3, 1) := by decide +kernel
theorem dX7_lower_18 : decode cX7_lower 18 = .ok (.iaload, 1) := by decide +kernel
theorem dX7_lower_19 : decode cX7_lower 19 = .ok (.i2l, 1) := by decide +kernel
theorem dX7_lower_20 : decode cX7_lower 20 = .ok (.ladd, 1) := by decide +kernel
theorem dX7_lower_21 : decode cX7_lower 21 = .ok (.lstore_n 1, 1) := by decide +kernel
theorem dX7_lower_22 : decode cX7_lower 22 = .ok (.iinc 3 1, 3) := by decide +kernel
theorem dX7_lower_25 : decode cX7_lower 25 = .ok (.goto (-21), 3) := by decide +kernel
theorem dX7_lower_28 : decode cX7_lower 28 = .ok (.lload_n 1, 1) := by decide +kernel
theorem dX7_lower_29 : decode cX7_lower 29 = .ok (.lconst 0, 1) := by decide +kernel
theorem dX7_lower_30 : decode cX7_lower 30 = .ok (.lcmp, 1) := by decide +kernel
theorem dX7_lower_31 : decode cX7_lower 31 = .ok (.ifCond .ne 6, 3) := by decide +kernel
theorem dX7_lower_34 : decode cX7_lower 34 = .ok (.bipush (-2), 2) := by decide +kernel
theorem dX7_lower_36 : decode cX7_lower 36 = .ok (.ireturn, 1) := by decide +kernel
theorem dX7_lower_37 : decode cX7_lower 37 = .ok (.ldc2_w 103, 3) := by decide +kernel
theorem dX7_lower_40 : decode cX7_lower 40 = .ok (.lstore_n 3, 1) := by decide +kernel
theorem dX7_lower_41 : decode cX7_lower 41 = .ok (.iconst 1, 1) := by decide +kernel
theorem dX7_lower_42 : decode cX7_lower 42 = .ok (.istore 5, 2) := by decide +kernel
theorem dX7_lower_44 : decode cX7_lower 44 = .ok (.iload 5, 2) := by decide +kernel
theorem dX7_lower_46 : decode cX7_lower 46 = .ok (.aload_n 0, 1) := by decide +kernel
theorem dX7_lower_47 : decode cX7_lower 47 = .ok (.getfield 19, 3) := by decide +kernel
theorem dX7_lower_50 : decode cX7_lower 50 = .ok (.iconst 1, 1) := by decide +kernel
theorem dX7_lower_51 : decode cX7_lower 51 = .ok (.iadd, 1) := by decide +kernel
theorem dX7_lower_52 : decode cX7_lower 52 = .ok (.if_icmp .gt 85, 3) := by decide +kernel
theorem dX7_lower_55 : decode cX7_lower 55 = .ok (.lconst 0, 1) := by decide +kernel
theorem dX7_lower_56 : decode cX7_lower 56 = .ok (.lstore 6, 2) := by decide +kernel
theorem dX7_lower_58 : decode cX7_lower 58 = .ok (.iconst 1, 1) := by decide +kernel
theorem dX7_lower_59 : decode cX7_lower 59 = .ok (.istore 8, 2) := by decide +kernel
theorem dX7_lower_61 : decode cX7_lower 61 = .ok (.iload 8, 2) := by decide +kernel
theorem dX7_lower_63 : decode cX7_lower 63 = .ok (.aload_n 0, 1) := by decide +kernel
theorem dX7_lower_64 : decode cX7_lower 64 = .ok (.getfield 19, 3) := by decide +kernel
theorem dX7_lower_67 : decode cX7_lower 67 = .ok (.if_icmp .gt 44, 3) := by decide +kernel
theorem dX7_lower_70 : decode cX7_lower 70 = .ok (.lload 6, 2) := by decide +kernel
theorem dX7_lower_72 : decode cX7_lower 72 = .ok (.aload_n 0, 1) := by decide +kernel
theorem dX7_lower_73 : decode cX7_lower 73 = .ok (.getfield 26, 3) := by decide +kernel
theorem dX7_lower_76 : decode cX7_lower 76 = .ok (.iload 8, 2) := by decide +kernel
theorem dX7_lower_78 : decode cX7_lower 78 = .ok (.iaload, 1) := by decide +kernel
theorem dX7_lower_79 : decode cX7_lower 79 = .ok (.i2l, 1) := by decide +kernel
theorem dX7_lower_80 : decode cX7_lower 80 = .ok (.ldc2_w 117, 3) := by decide +kernel
theorem dX7_lower_83 : decode cX7_lower 83 = .ok (.aload_n 0, 1) := by decide +kernel
theorem dX7_lower_84 : decode cX7_lower 84 = .ok (.iload 5, 2) := by decide +kernel
theorem dX7_lower_86 : decode cX7_lower 86 = .ok (.iload 8, 2) := by decide +kernel
theorem dX7_lower_88 : decode cX7_lower 88 = .ok (.invokevirtual 88, 3) := by decide +kernel
theorem dX7_lower_91 : decode cX7_lower 91 = .ok (.i2l, 1) := by decide +kernel
theorem dX7_lower_92 : decode cX7_lower 92 = .ok (.lmul, 1) := by decide +kernel
theorem dX7_lower_93 : decode cX7_lower 93 = .ok (.aload_n 0, 1) := by decide +kernel
theorem dX7_lower_94 : decode cX7_lower 94 = .ok (.iload 8, 2) := by decide +kernel
theorem dX7_lower_96 : decode cX7_lower 96 = .ok (.invokevirtual 70, 3) := by decide +kernel
theorem dX7_lower_99 : decode cX7_lower 99 = .ok (.i2l, 1) := by decide +kernel
theorem dX7_lower_100 : decode cX7_lower 100 = .ok (.ldiv, 1) := by decide +kernel
theorem dX7_lower_101 : decode cX7_lower 101 = .ok (.lmul, 1) := by decide +kernel
theorem dX7_lower_102 : decode cX7_lower 102 = .ok (.ladd, 1) := by decide +kernel
theorem dX7_lower_103 : decode cX7_lower 103 = .ok (.lstore 6, 2) := by decide +kernel
theorem dX7_lower_105 : decode cX7_lower 105 = .ok (.iinc 8 1, 3) := by decide +kernel
theorem dX7_lower_108 : decode cX7_lower 108 = .ok (.goto (-47), 3) := by decide +kernel
theorem dX7_lower_111 : decode cX7_lower 111 = .ok (.lload_n 3, 1) := by decide +kernel
theorem dX7_lower_112 : decode cX7_lower 112 = .ok (.lconst 0, 1) := by decide +kernel
theorem dX7_lower_113 : decode cX7_lower 113 = .ok (.lcmp, 1) := by decide +kernel
theorem dX7_lower_114 : decode cX7_lower 114 = .ok (.ifCond .lt 10, 3) := by decide +kernel
theorem dX7_lower_117 : decode cX7_lower 117 = .ok (.lload 6, 2) := by decide +kernel
theorem dX7_lower_119 : decode cX7_lower 119 = .ok (.lload_n 3, 1) := by decide +kernel
theorem dX7_lower_120 : decode cX7_lower 120 = .ok (.lcmp, 1) := by decide +kernel
theorem dX7_lower_121 : decode cX7_lower 121 = .ok (.ifCond .ge 8, 3) := by decide +kernel
theorem dX7_lower_124 : decode cX7_lower 124 = .ok (.lload 6, 2) := by decide +kernel
theorem dX7_lower_126 : decode cX7_lower 126 = .ok (.goto 4, 3) := by decide +kernel
theorem dX7_lower_129 : decode cX7_lower 129 = .ok (.lload_n 3, 1) := by decide +kernel
theorem dX7_lower_130 : decode cX7_lower 130 = .ok (.lstore_n 3, 1) := by decide +kernel
theorem dX7_lower_131 : decode cX7_lower 131 = .ok (.iinc 5 1, 3) := by decide +kernel
theorem dX7_lower_134 : decode cX7_lower 134 = .ok (.goto (-90), 3) := by decide +kernel
theorem dX7_lower_137 : decode cX7_lower 137 = .ok (.lload_n 3, 1) := by decide +kernel
theorem dX7_lower_138 : decode cX7_lower 138 = .ok (.ldc2_w 115, 3) := by decide +kernel
theorem dX7_lower_141 : decode cX7_lower 141 = .ok (.lload_n 1, 1) := by decide +kernel
theorem dX7_lower_142 : decode cX7_lower 142 = .ok (.lmul, 1) := by decide +kernel
theorem dX7_lower_143 : decode cX7_lower 143 = .ok (.ldiv, 1) := by decide +kernel
theorem dX7_lower_144 : decode cX7_lower 144 = .ok (.l2i, 1) := by decide +kernel
theorem dX7_lower_145 : decode cX7_lower 145 = .ok (.ireturn, 1) := by decide +kernel
set_option maxRecDepth 20000 in
theorem ggX7_bound_X7_in : GoodIn wsX7_bound wsX7_in := goodIn_r _ [4] (by decide +kernel) (by decide +kernel)
set_option maxRecDepth 20000 in
theorem gX7_bound_X7_in : GoodIn wsX7_bound (va_wsS RX7 66 yX7_in wsX7_in) := goodIn_app (goodIn_of _ (by decide +kernel)) ggX7_bound_X7_in
set_option maxRecDepth 20000 in
theorem ggX7_bound_X7_upper : GoodIn wsX7_bound wsX7_upper := goodIn_r _ [8, 9, 10, 11, 12, 13, 3, 14, 15, 16, 17, 18, 19, 20, 21, 22, 23, 24, 25, 26, 27, 28, 29, 30, 31, 32, 33, 34, 35, 36, 37, 38, 39, 40, 48, 49, 50, 51, 52, 53, 54, 55, 56, 57, 58, 59, 60, 61, 62, 63, 64, 65] (by decide +kernel) (by decide +kernel)
set_option maxRecDepth 20000 in
theorem gX7_bound_X7_upper : GoodIn wsX7_bound (wsV RX7 119 RX7 yX7_upper wsX7_upper) := goodIn_app (goodIn_of _ (by decide +kernel)) ggX7_bound_X7_upper
set_option maxRecDepth 20000 in
theorem ggX7_bound_X7_lower : GoodIn wsX7_bound wsX7_lower := goodIn_r _ [44, 9, 45, 46, 47, 10, 37, 38, 39, 3, 40, 20, 21, 22, 23, 24, 25, 26, 27, 28, 29, 30, 31, 32, 16, 17, 18, 19, 48, 49, 50, 51, 52, 53, 54, 55, 56, 57, 58, 59, 60, 61, 62, 63, 64, 65] (by decide +kernel) (by decide +kernel)
set_option maxRecDepth 20000 in
theorem gX7_bound_X7_lower : GoodIn wsX7_bound (wsV RX7 122 RX7 yX7_lower wsX7_lower) := goodIn_app (goodIn_of _ (by decide +kernel)) ggX7_bound_X7_lower
theorem dX7_bound_0 : decode cX7_bound 0 = .ok (.iload_n 1, 1) := by decide +kernel
theorem dX7_bound_1 : decode cX7_bound 1 = .ok (.iconst 0, 1) := by decide +kernel
theorem dX7_bound_2 : decode cX7_bound 2 = .ok (.iconst 1, 1) := by decide +kernel
theorem dX7_bound_3 : decode cX7_bound 3 = .ok (.invokestatic 66, 3) := by decide +kernel
theorem dX7_bound_6 : decode cX7_bound 6 = .ok (.ifCond .ne 7, 3) := by decide +kernel
theorem dX7_bound_9 : decode cX7_bound 9 = .ok (.iconst (-1), 1) := by decide +kernel
theorem dX7_bound_10 : decode cX7_bound 10 = .ok (.goto 18, 3) := by decide +kernel
theorem dX7_bound_13 : decode cX7_bound 13 = .ok (.iload_n 1, 1) := by decide +kernel
theorem dX7_bound_14 : decode cX7_bound 14 = .ok (.ifCond .ne 10, 3) := by decide +kernel
theorem dX7_bound_17 : decode cX7_bound 17 = .ok (.aload_n 0, 1) := by decide +kernel
theorem dX7_bound_18 : decode cX7_bound 18 = .ok (.invokevirtual 119, 3) := by decide +kernel
theorem dX7_bound_21 : decode cX7_bound 21 = .ok (.goto 7, 3) := by decide +kernel
theorem dX7_bound_24 : decode cX7_bound 24 = .ok (.aload_n 0, 1) := by decide +kernel
theorem dX7_bound_25 : decode cX7_bound 25 = .ok (.invokevirtual 122, 3) := by decide +kernel
theorem dX7_bound_28 : decode cX7_bound 28 = .ok (.ireturn, 1) := by decide +kernel
set_option maxRecDepth 20000 in
theorem ggX7_isTrust_X7_in : GoodIn wsX7_isTrust wsX7_in := goodIn_r _ [4] (by decide +kernel) (by decide +kernel)
set_option maxRecDepth 20000 in
theorem gX7_isTrust_X7_in : GoodIn wsX7_isTrust (va_wsS RX7 66 yX7_in wsX7_in) := goodIn_app (goodIn_of _ (by decide +kernel)) ggX7_isTrust_X7_in
theorem dX7_isTrust_0 : decode cX7_isTrust 0 = .ok (.iload_n 0, 1) := by decide +kernel
theorem dX7_isTrust_1 : decode cX7_isTrust 1 = .ok (.iconst 1, 1) := by decide +kernel
theorem dX7_isTrust_2 : decode cX7_isTrust 2 = .ok (.bipush 9, 2) := by decide +kernel
theorem dX7_isTrust_4 : decode cX7_isTrust 4 = .ok (.invokestatic 66, 3) := by decide +kernel
theorem dX7_isTrust_7 : decode cX7_isTrust 7 = .ok (.ireturn, 1) := by decide +kernel
set_option maxRecDepth 20000 in
theorem ggX7_planBy_X7_surePlan : GoodIn wsX7_planBy wsX7_surePlan := goodIn_r _ [7, 2, 8, 9, 10, 6, 11, 12, 13, 14, 15, 1, 16, 17, 18, 19, 20, 21, 22, 23, 24, 25, 26, 27, 28, 29, 30, 31, 32, 33, 34, 35, 36, 37, 38, 39, 40, 41, 42, 43, 44, 45, 46, 47, 48, 49] (by decide +kernel) (by decide +kernel)
set_option maxRecDepth 20000 in
theorem gX7_planBy_X7_surePlan : GoodIn wsX7_planBy (wsV RX7 99 RX7 yX7_surePlan wsX7_surePlan) := goodIn_app (goodIn_of _ (by decide +kernel)) ggX7_planBy_X7_surePlan
set_option maxRecDepth 20000 in
theorem ggX7_planBy_X7_rentsTo : GoodIn wsX7_planBy wsX7_rentsTo := goodIn_r _ [19, 20, 21, 22, 6, 23, 24, 25, 26, 27, 32, 33, 34, 35, 36, 37, 38, 39, 40, 41, 42, 43, 44, 45, 46, 47, 48, 49] (by decide +kernel) (by decide +kernel)
set_option maxRecDepth 20000 in
theorem gX7_planBy_X7_rentsTo : GoodIn wsX7_planBy (wsV RX7 63 RX7 yX7_rentsTo wsX7_rentsTo) := goodIn_app (goodIn_of _ (by decide +kernel)) ggX7_planBy_X7_rentsTo
theorem dX7_planBy_0 : decode cX7_planBy 0 = .ok (.aload_n 0, 1) := by decide +kernel
theorem dX7_planBy_1 : decode cX7_planBy 1 = .ok (.invokevirtual 99, 3) := by decide +kernel
theorem dX7_planBy_4 : decode cX7_planBy 4 = .ok (.istore_n 3, 1) := by decide +kernel
theorem dX7_planBy_5 : decode cX7_planBy 5 = .ok (.aload_n 0, 1) := by decide +kernel
theorem dX7_planBy_6 : decode cX7_planBy 6 = .ok (.getfield 16, 3) := by decide +kernel
theorem dX7_planBy_9 : decode cX7_planBy 9 = .ok (.aload_n 0, 1) := by decide +kernel
theorem dX7_planBy_10 : decode cX7_planBy 10 = .ok (.iload_n 1, 1) := by decide +kernel
theorem dX7_planBy_11 : decode cX7_planBy 11 = .ok (.invokevirtual 63, 3) := by decide +kernel
theorem dX7_planBy_14 : decode cX7_planBy 14 = .ok (.if_icmp .ge 13, 3) := by decide +kernel
theorem dX7_planBy_17 : decode cX7_planBy 17 = .ok (.iload_n 3, 1) := by decide +kernel
theorem dX7_planBy_18 : decode cX7_planBy 18 = .ok (.iload_n 2, 1) := by decide +kernel
theorem dX7_planBy_19 : decode cX7_planBy 19 = .ok (.imul, 1) := by decide +kernel
theorem dX7_planBy_20 : decode cX7_planBy 20 = .ok (.bipush 9, 2) := by decide +kernel
theorem dX7_planBy_22 : decode cX7_planBy 22 = .ok (.iadd, 1) := by decide +kernel
theorem dX7_planBy_23 : decode cX7_planBy 23 = .ok (.bipush 10, 2) := by decide +kernel
theorem dX7_planBy_25 : decode cX7_planBy 25 = .ok (.idiv, 1) := by decide +kernel
theorem dX7_planBy_26 : decode cX7_planBy 26 = .ok (.ireturn, 1) := by decide +kernel
theorem dX7_planBy_27 : decode cX7_planBy 27 = .ok (.iload_n 3, 1) := by decide +kernel
theorem dX7_planBy_28 : decode cX7_planBy 28 = .ok (.bipush 10, 2) := by decide +kernel
theorem dX7_planBy_30 : decode cX7_planBy 30 = .ok (.imul, 1) := by decide +kernel
theorem dX7_planBy_31 : decode cX7_planBy 31 = .ok (.iload_n 2, 1) := by decide +kernel
theorem dX7_planBy_32 : decode cX7_planBy 32 = .ok (.idiv, 1) := by decide +kernel
theorem dX7_planBy_33 : decode cX7_planBy 33 = .ok (.istore 4, 2) := by decide +kernel
theorem dX7_planBy_35 : decode cX7_planBy 35 = .ok (.iload 4, 2) := by decide +kernel
theorem dX7_planBy_37 : decode cX7_planBy 37 = .ok (.aload_n 0, 1) := by decide +kernel
theorem dX7_planBy_38 : decode cX7_planBy 38 = .ok (.getfield 19, 3) := by decide +kernel
theorem dX7_planBy_41 : decode cX7_planBy 41 = .ok (.iconst 1, 1) := by decide +kernel
theorem dX7_planBy_42 : decode cX7_planBy 42 = .ok (.iadd, 1) := by decide +kernel
theorem dX7_planBy_43 : decode cX7_planBy 43 = .ok (.if_icmp .le 12, 3) := by decide +kernel
theorem dX7_planBy_46 : decode cX7_planBy 46 = .ok (.aload_n 0, 1) := by decide +kernel
theorem dX7_planBy_47 : decode cX7_planBy 47 = .ok (.getfield 19, 3) := by decide +kernel
theorem dX7_planBy_50 : decode cX7_planBy 50 = .ok (.iconst 1, 1) := by decide +kernel
theorem dX7_planBy_51 : decode cX7_planBy 51 = .ok (.iadd, 1) := by decide +kernel
theorem dX7_planBy_52 : decode cX7_planBy 52 = .ok (.goto 5, 3) := by decide +kernel
theorem dX7_planBy_55 : decode cX7_planBy 55 = .ok (.iload 4, 2) := by decide +kernel
theorem dX7_planBy_57 : decode cX7_planBy 57 = .ok (.ireturn, 1) := by decide +kernel
set_option maxRecDepth 20000 in
theorem ggX7_guess_X7_isEnd : GoodIn wsX7_guess wsX7_isEnd := goodIn_r _ [5, 6, 7, 8, 4, 9, 46, 47, 48, 49, 50, 51, 52, 53, 54, 55, 56, 57, 58, 59, 60, 61, 62, 63] (by decide +kernel) (by decide +kernel)
set_option maxRecDepth 20000 in
theorem gX7_guess_X7_isEnd : GoodIn wsX7_guess (wsV RX7 85 RX7 yX7_isEnd wsX7_isEnd) := goodIn_app (goodIn_of _ (by decide +kernel)) ggX7_guess_X7_isEnd
set_option maxRecDepth 20000 in
theorem ggX7_guess_X7_isTrust : GoodIn wsX7_guess wsX7_isTrust := goodIn_r _ [12, 7, 8, 4, 9] (by decide +kernel) (by decide +kernel)
set_option maxRecDepth 20000 in
theorem gX7_guess_X7_isTrust : GoodIn wsX7_guess (va_wsS RX7 125 yX7_isTrust wsX7_isTrust) := goodIn_app (goodIn_of _ (by decide +kernel)) ggX7_guess_X7_isTrust
set_option maxRecDepth 20000 in
theorem ggX7_guess_X7_planBy : GoodIn wsX7_guess wsX7_planBy := goodIn_r _ [16, 17, 6, 18, 19, 20, 4, 21, 22, 23, 24, 25, 26, 27, 28, 29, 30, 31, 32, 33, 34, 35, 36, 37, 38, 39, 40, 41, 42, 43, 44, 45, 46, 47, 48, 49, 50, 51, 52, 53, 54, 55, 56, 57, 58, 59, 60, 61, 62, 63] (by decide +kernel) (by decide +kernel)
set_option maxRecDepth 20000 in
theorem gX7_guess_X7_planBy : GoodIn wsX7_guess (wsV RX7 128 RX7 yX7_planBy wsX7_planBy) := goodIn_app (goodIn_of _ (by decide +kernel)) ggX7_guess_X7_planBy
theorem dX7_guess_0 : decode cX7_guess 0 = .ok (.aload_n 0, 1) := by decide +kernel
theorem dX7_guess_1 : decode cX7_guess 1 = .ok (.iload_n 1, 1) := by decide +kernel
theorem dX7_guess_2 : decode cX7_guess 2 = .ok (.invokevirtual 85, 3) := by decide +kernel
theorem dX7_guess_5 : decode cX7_guess 5 = .ok (.ifCond .eq 19, 3) := by decide +kernel
theorem dX7_guess_8 : decode cX7_guess 8 = .ok (.iload_n 2, 1) := by decide +kernel
theorem dX7_guess_9 : decode cX7_guess 9 = .ok (.invokestatic 125, 3) := by decide +kernel
theorem dX7_guess_12 : decode cX7_guess 12 = .ok (.ifCond .eq 12, 3) := by decide +kernel
theorem dX7_guess_15 : decode cX7_guess 15 = .ok (.aload_n 0, 1) := by decide +kernel
theorem dX7_guess_16 : decode cX7_guess 16 = .ok (.iload_n 1, 1) := by decide +kernel
theorem dX7_guess_17 : decode cX7_guess 17 = .ok (.iload_n 2, 1) := by decide +kernel
theorem dX7_guess_18 : decode cX7_guess 18 = .ok (.invokevirtual 128, 3) := by decide +kernel
theorem dX7_guess_21 : decode cX7_guess 21 = .ok (.goto 4, 3) := by decide +kernel
theorem dX7_guess_24 : decode cX7_guess 24 = .ok (.iconst (-1), 1) := by decide +kernel
theorem dX7_guess_25 : decode cX7_guess 25 = .ok (.ireturn, 1) := by decide +kernel
set_option maxRecDepth 20000 in
theorem ggX7_trust_X7_isEnd : GoodIn wsX7_trust wsX7_isEnd := goodIn_r _ [5, 6, 7, 8, 4, 9, 57, 58, 59, 60, 61, 62, 63, 64, 65, 66, 67, 68, 69, 70, 71, 72, 73, 74] (by decide +kernel) (by decide +kernel)
set_option maxRecDepth 20000 in
theorem gX7_trust_X7_isEnd : GoodIn wsX7_trust (wsV RX7 85 RX7 yX7_isEnd wsX7_isEnd) := goodIn_app (goodIn_of _ (by decide +kernel)) ggX7_trust_X7_isEnd
set_option maxRecDepth 20000 in
theorem ggX7_trust_X7_isTrust : GoodIn wsX7_trust wsX7_isTrust := goodIn_r _ [12, 7, 8, 4, 9] (by decide +kernel) (by decide +kernel)
set_option maxRecDepth 20000 in
theorem gX7_trust_X7_isTrust : GoodIn wsX7_trust (va_wsS RX7 125 yX7_isTrust wsX7_isTrust) := goodIn_app (goodIn_of _ (by decide +kernel)) ggX7_trust_X7_isTrust
set_option maxRecDepth 20000 in
theorem ggX7_trust_X7_in : GoodIn wsX7_trust wsX7_in := goodIn_r _ [9] (by decide +kernel) (by decide +kernel)
set_option maxRecDepth 20000 in
theorem gX7_trust_X7_in : GoodIn wsX7_trust (va_wsS RX7 66 yX7_in wsX7_in) := goodIn_app (goodIn_of _ (by decide +kernel)) ggX7_trust_X7_in
set_option maxRecDepth 20000 in
theorem ggX7_trust_X7_planBy : GoodIn wsX7_trust wsX7_planBy := goodIn_r _ [16, 17, 6, 18, 19, 20, 4, 21, 22, 23, 24, 25, 26, 27, 28, 29, 30, 31, 32, 33, 34, 35, 36, 37, 38, 39, 40, 41, 42, 43, 44, 45, 57, 58, 59, 60, 61, 62, 63, 64, 65, 66, 67, 68, 69, 70, 71, 72, 73, 74] (by decide +kernel) (by decide +kernel)
set_option maxRecDepth 20000 in
theorem gX7_trust_X7_planBy : GoodIn wsX7_trust (wsV RX7 128 RX7 yX7_planBy wsX7_planBy) := goodIn_app (goodIn_of _ (by decide +kernel)) ggX7_trust_X7_planBy
set_option maxRecDepth 20000 in
theorem ggX7_trust_X7_ratio : GoodIn wsX7_trust wsX7_ratio := goodIn_r _ [49, 50, 51, 52, 4, 53, 6, 7, 8, 9, 1, 2, 3, 5, 22, 23, 24, 25, 26, 27, 28, 29, 17, 30, 31, 32, 33, 34, 35, 36, 37, 38, 39, 40, 41, 42, 43, 44, 45, 54, 55, 56, 57, 58, 59, 60, 61, 62, 63, 64, 65, 66, 67, 68, 69, 70, 71, 72, 73, 74] (by decide +kernel) (by decide +kernel)
set_option maxRecDepth 20000 in
theorem gX7_trust_X7_ratio : GoodIn wsX7_trust (wsV RX7 131 RX7 yX7_ratio wsX7_ratio) := goodIn_app (goodIn_of _ (by decide +kernel)) ggX7_trust_X7_ratio
theorem dX7_trust_0 : decode cX7_trust 0 = .ok (.aload_n 0, 1) := by decide +kernel
theorem dX7_trust_1 : decode cX7_trust 1 = .ok (.iload_n 1, 1) := by decide +kernel
theorem dX7_trust_2 : decode cX7_trust 2 = .ok (.invokevirtual 85, 3) := by decide +kernel
theorem dX7_trust_5 : decode cX7_trust 5 = .ok (.ifCond .eq 29, 3) := by decide +kernel
theorem dX7_trust_8 : decode cX7_trust 8 = .ok (.iload_n 2, 1) := by decide +kernel
theorem dX7_trust_9 : decode cX7_trust 9 = .ok (.invokestatic 125, 3) := by decide +kernel
theorem dX7_trust_12 : decode cX7_trust 12 = .ok (.ifCond .eq 22, 3) := by decide +kernel
theorem dX7_trust_15 : decode cX7_trust 15 = .ok (.iload_n 3, 1) := by decide +kernel
theorem dX7_trust_16 : decode cX7_trust 16 = .ok (.iconst 0, 1) := by decide +kernel
theorem dX7_trust_17 : decode cX7_trust 17 = .ok (.iconst 1, 1) := by decide +kernel
theorem dX7_trust_18 : decode cX7_trust 18 = .ok (.invokestatic 66, 3) := by decide +kernel
theorem dX7_trust_21 : decode cX7_trust 21 = .ok (.ifCond .eq 13, 3) := by decide +kernel
theorem dX7_trust_24 : decode cX7_trust 24 = .ok (.iload 4, 2) := by decide +kernel
theorem dX7_trust_26 : decode cX7_trust 26 = .ok (.iconst 0, 1) := by decide +kernel
theorem dX7_trust_27 : decode cX7_trust 27 = .ok (.iconst 1, 1) := by decide +kernel
theorem dX7_trust_28 : decode cX7_trust 28 = .ok (.invokestatic 66, 3) := by decide +kernel
theorem dX7_trust_31 : decode cX7_trust 31 = .ok (.ifCond .ne 5, 3) := by decide +kernel
theorem dX7_trust_34 : decode cX7_trust 34 = .ok (.iconst (-1), 1) := by decide +kernel
theorem dX7_trust_35 : decode cX7_trust 35 = .ok (.ireturn, 1) := by decide +kernel
theorem dX7_trust_36 : decode cX7_trust 36 = .ok (.aload_n 0, 1) := by decide +kernel
theorem dX7_trust_37 : decode cX7_trust 37 = .ok (.aload_n 0, 1) := by decide +kernel
theorem dX7_trust_38 : decode cX7_trust 38 = .ok (.iload_n 1, 1) := by decide +kernel
theorem dX7_trust_39 : decode cX7_trust 39 = .ok (.iload_n 2, 1) := by decide +kernel
theorem dX7_trust_40 : decode cX7_trust 40 = .ok (.invokevirtual 128, 3) := by decide +kernel
theorem dX7_trust_43 : decode cX7_trust 43 = .ok (.iload_n 3, 1) := by decide +kernel
theorem dX7_trust_44 : decode cX7_trust 44 = .ok (.ifCond .ne 7, 3) := by decide +kernel
theorem dX7_trust_47 : decode cX7_trust 47 = .ok (.iload_n 1, 1) := by decide +kernel
theorem dX7_trust_48 : decode cX7_trust 48 = .ok (.goto 4, 3) := by decide +kernel
theorem dX7_trust_51 : decode cX7_trust 51 = .ok (.iconst 0, 1) := by decide +kernel
theorem dX7_trust_52 : decode cX7_trust 52 = .ok (.iload 4, 2) := by decide +kernel
theorem dX7_trust_54 : decode cX7_trust 54 = .ok (.invokevirtual 131, 3) := by decide +kernel
theorem dX7_trust_57 : decode cX7_trust 57 = .ok (.ireturn, 1) := by decide +kernel
set_option maxRecDepth 20000 in
theorem ggX7_list_X7_in : GoodIn wsX7_list wsX7_in := goodIn_r _ [6] (by decide +kernel) (by decide +kernel)
set_option maxRecDepth 20000 in
theorem gX7_list_X7_in : GoodIn wsX7_list (va_wsS RX7 66 yX7_in wsX7_in) := goodIn_app (goodIn_of _ (by decide +kernel)) ggX7_list_X7_in
theorem dX7_list_0 : decode cX7_list 0 = .ok (.iload_n 1, 1) := by decide +kernel
theorem dX7_list_1 : decode cX7_list 1 = .ok (.iconst 1, 1) := by decide +kernel
theorem dX7_list_2 : decode cX7_list 2 = .ok (.iconst 4, 1) := by decide +kernel
theorem dX7_list_3 : decode cX7_list 3 = .ok (.invokestatic 66, 3) := by decide +kernel
theorem dX7_list_6 : decode cX7_list 6 = .ok (.ifCond .ne 5, 3) := by decide +kernel
theorem dX7_list_9 : decode cX7_list 9 = .ok (.iconst (-1), 1) := by decide +kernel
theorem dX7_list_10 : decode cX7_list 10 = .ok (.ireturn, 1) := by decide +kernel
theorem dX7_list_11 : decode cX7_list 11 = .ok (.aload_n 0, 1) := by decide +kernel
theorem dX7_list_12 : decode cX7_list 12 = .ok (.getfield 29, 3) := by decide +kernel
theorem dX7_list_15 : decode cX7_list 15 = .ok (.istore_n 2, 1) := by decide +kernel
theorem dX7_list_16 : decode cX7_list 16 = .ok (.aload_n 0, 1) := by decide +kernel
theorem dX7_list_17 : decode cX7_list 17 = .ok (.iload_n 1, 1) := by decide +kernel
theorem dX7_list_18 : decode cX7_list 18 = .ok (.putfield 29, 3) := by decide +kernel
theorem dX7_list_21 : decode cX7_list 21 = .ok (.aload_n 0, 1) := by decide +kernel
theorem dX7_list_22 : decode cX7_list 22 = .ok (.iconst 0, 1) := by decide +kernel
theorem dX7_list_23 : decode cX7_list 23 = .ok (.putfield 50, 3) := by decide +kernel
theorem dX7_list_26 : decode cX7_list 26 = .ok (.iload_n 2, 1) := by decide +kernel
theorem dX7_list_27 : decode cX7_list 27 = .ok (.ireturn, 1) := by decide +kernel
set_option maxRecDepth 20000 in
theorem ggX7_request_X7_in : GoodIn wsX7_request wsX7_in := goodIn_r _ [7] (by decide +kernel) (by decide +kernel)
set_option maxRecDepth 20000 in
theorem gX7_request_X7_in : GoodIn wsX7_request (va_wsS RX7 66 yX7_in wsX7_in) := goodIn_app (goodIn_of _ (by decide +kernel)) ggX7_request_X7_in
theorem dX7_request_0 : decode cX7_request 0 = .ok (.iload_n 1, 1) := by decide +kernel
theorem dX7_request_1 : decode cX7_request 1 = .ok (.iconst 0, 1) := by decide +kernel
theorem dX7_request_2 : decode cX7_request 2 = .ok (.aload_n 0, 1) := by decide +kernel
theorem dX7_request_3 : decode cX7_request 3 = .ok (.getfield 29, 3) := by decide +kernel
theorem dX7_request_6 : decode cX7_request 6 = .ok (.iconst 1, 1) := by decide +kernel
theorem dX7_request_7 : decode cX7_request 7 = .ok (.isub, 1) := by decide +kernel
theorem dX7_request_8 : decode cX7_request 8 = .ok (.invokestatic 66, 3) := by decide +kernel
theorem dX7_request_11 : decode cX7_request 11 = .ok (.ifCond .ne 5, 3) := by decide +kernel
theorem dX7_request_14 : decode cX7_request 14 = .ok (.iconst (-1), 1) := by decide +kernel
theorem dX7_request_15 : decode cX7_request 15 = .ok (.ireturn, 1) := by decide +kernel
theorem dX7_request_16 : decode cX7_request 16 = .ok (.aload_n 0, 1) := by decide +kernel
theorem dX7_request_17 : decode cX7_request 17 = .ok (.getfield 50, 3) := by decide +kernel
theorem dX7_request_20 : decode cX7_request 20 = .ok (.bipush 16, 2) := by decide +kernel
theorem dX7_request_22 : decode cX7_request 22 = .ok (.if_icmp .ne 6, 3) := by decide +kernel
theorem dX7_request_25 : decode cX7_request 25 = .ok (.bipush (-3), 2) := by decide +kernel
theorem dX7_request_27 : decode cX7_request 27 = .ok (.ireturn, 1) := by decide +kernel
theorem dX7_request_28 : decode cX7_request 28 = .ok (.aload_n 0, 1) := by decide +kernel
theorem dX7_request_29 : decode cX7_request 29 = .ok (.getfield 32, 3) := by decide +kernel
theorem dX7_request_32 : decode cX7_request 32 = .ok (.aload_n 0, 1) := by decide +kernel
theorem dX7_request_33 : decode cX7_request 33 = .ok (.getfield 50, 3) := by decide +kernel
theorem dX7_request_36 : decode cX7_request 36 = .ok (.iload_n 1, 1) := by decide +kernel
theorem dX7_request_37 : decode cX7_request 37 = .ok (.iastore, 1) := by decide +kernel
theorem dX7_request_38 : decode cX7_request 38 = .ok (.aload_n 0, 1) := by decide +kernel
theorem dX7_request_39 : decode cX7_request 39 = .ok (.dup, 1) := by decide +kernel
theorem dX7_request_40 : decode cX7_request 40 = .ok (.getfield 50, 3) := by decide +kernel
theorem dX7_request_43 : decode cX7_request 43 = .ok (.iconst 1, 1) := by decide +kernel
theorem dX7_request_44 : decode cX7_request 44 = .ok (.iadd, 1) := by decide +kernel
theorem dX7_request_45 : decode cX7_request 45 = .ok (.putfield 50, 3) := by decide +kernel
theorem dX7_request_48 : decode cX7_request 48 = .ok (.aload_n 0, 1) := by decide +kernel
theorem dX7_request_49 : decode cX7_request 49 = .ok (.getfield 50, 3) := by decide +kernel
theorem dX7_request_52 : decode cX7_request 52 = .ok (.ireturn, 1) := by decide +kernel
theorem dX7_drop_0 : decode cX7_drop 0 = .ok (.aload_n 0, 1) := by decide +kernel
theorem dX7_drop_1 : decode cX7_drop 1 = .ok (.getfield 50, 3) := by decide +kernel
theorem dX7_drop_4 : decode cX7_drop 4 = .ok (.ifCond .ne 6, 3) := by decide +kernel
theorem dX7_drop_7 : decode cX7_drop 7 = .ok (.bipush (-2), 2) := by decide +kernel
theorem dX7_drop_9 : decode cX7_drop 9 = .ok (.ireturn, 1) := by decide +kernel
theorem dX7_drop_10 : decode cX7_drop 10 = .ok (.aload_n 0, 1) := by decide +kernel
theorem dX7_drop_11 : decode cX7_drop 11 = .ok (.dup, 1) := by decide +kernel
theorem dX7_drop_12 : decode cX7_drop 12 = .ok (.getfield 50, 3) := by decide +kernel
theorem dX7_drop_15 : decode cX7_drop 15 = .ok (.iconst 1, 1) := by decide +kernel
theorem dX7_drop_16 : decode cX7_drop 16 = .ok (.isub, 1) := by decide +kernel
theorem dX7_drop_17 : decode cX7_drop 17 = .ok (.putfield 50, 3) := by decide +kernel
theorem dX7_drop_20 : decode cX7_drop 20 = .ok (.aload_n 0, 1) := by decide +kernel
theorem dX7_drop_21 : decode cX7_drop 21 = .ok (.getfield 50, 3) := by decide +kernel
theorem dX7_drop_24 : decode cX7_drop 24 = .ok (.ireturn, 1) := by decide +kernel
theorem dX7_frontCost_0 : decode cX7_frontCost 0 = .ok (.iconst 0, 1) := by decide +kernel
theorem dX7_frontCost_1 : decode cX7_frontCost 1 = .ok (.istore_n 1, 1) := by decide +kernel
theorem dX7_frontCost_2 : decode cX7_frontCost 2 = .ok (.iload_n 1, 1) := by decide +kernel
theorem dX7_frontCost_3 : decode cX7_frontCost 3 = .ok (.aload_n 0, 1) := by decide +kernel
theorem dX7_frontCost_4 : decode cX7_frontCost 4 = .ok (.getfield 29, 3) := by decide +kernel
theorem dX7_frontCost_7 : decode cX7_frontCost 7 = .ok (.if_icmp .ge 16, 3) := by decide +kernel
theorem dX7_frontCost_10 : decode cX7_frontCost 10 = .ok (.aload_n 0, 1) := by decide +kernel
theorem dX7_frontCost_11 : decode cX7_frontCost 11 = .ok (.getfield 35, 3) := by decide +kernel
theorem dX7_frontCost_14 : decode cX7_frontCost 14 = .ok (.iload_n 1, 1) := by decide +kernel
theorem dX7_frontCost_15 : decode cX7_frontCost 15 = .ok (.iload_n 1, 1) := by decide +kernel
theorem dX7_frontCost_16 : decode cX7_frontCost 16 = .ok (.iastore, 1) := by decide +kernel
theorem dX7_frontCost_17 : decode cX7_frontCost 17 = .ok (.iinc 1 1, 3) := by decide +kernel
theorem dX7_frontCost_20 : decode cX7_frontCost 20 = .ok (.goto (-18), 3) := by decide +kernel
theorem dX7_frontCost_23 : decode cX7_frontCost 23 = .ok (.iconst 0, 1) := by decide +kernel
theorem dX7_frontCost_24 : decode cX7_frontCost 24 = .ok (.istore_n 1, 1) := by decide +kernel
theorem dX7_frontCost_25 : decode cX7_frontCost 25 = .ok (.iconst 0, 1) := by decide +kernel
theorem dX7_frontCost_26 : decode cX7_frontCost 26 = .ok (.istore_n 2, 1) := by decide +kernel
theorem dX7_frontCost_27 : decode cX7_frontCost 27 = .ok (.iload_n 2, 1) := by decide +kernel
theorem dX7_frontCost_28 : decode cX7_frontCost 28 = .ok (.aload_n 0, 1) := by decide +kernel
theorem dX7_frontCost_29 : decode cX7_frontCost 29 = .ok (.getfield 50, 3) := by decide +kernel
theorem dX7_frontCost_32 : decode cX7_frontCost 32 = .ok (.if_icmp .ge 80, 3) := by decide +kernel
theorem dX7_frontCost_35 : decode cX7_frontCost 35 = .ok (.iconst 0, 1) := by decide +kernel
theorem dX7_frontCost_36 : decode cX7_frontCost 36 = .ok (.istore_n 3, 1) := by decide +kernel
theorem dX7_frontCost_37 : decode cX7_frontCost 37 = .ok (.aload_n 0, 1) := by decide +kernel
theorem dX7_frontCost_38 : decode cX7_frontCost 38 = .ok (.getfield 35, 3) := by decide +kernel
theorem dX7_frontCost_41 : decode cX7_frontCost 41 = .ok (.iload_n 3, 1) := by decide +kernel
theorem dX7_frontCost_42 : decode cX7_frontCost 42 = .ok (.iaload, 1) := by decide +kernel
theorem dX7_frontCost_43 : decode cX7_frontCost 43 = .ok (.aload_n 0, 1) := by decide +kernel
theorem dX7_frontCost_44 : decode cX7_frontCost 44 = .ok (.getfield 32, 3) := by decide +kernel
theorem dX7_frontCost_47 : decode cX7_frontCost 47 = .ok (.iload_n 2, 1) := by decide +kernel
theorem dX7_frontCost_48 : decode cX7_frontCost 48 = .ok (.iaload, 1) := by decide +kernel
theorem dX7_frontCost_49 : decode cX7_frontCost 49 = .ok (.if_icmp .eq 9, 3) := by decide +kernel
theorem dX7_frontCost_52 : decode cX7_frontCost 52 = .ok (.iinc 3 1, 3) := by decide +kernel
theorem dX7_frontCost_55 : decode cX7_frontCost 55 = .ok (.goto (-18), 3) := by decide +kernel
theorem dX7_frontCost_58 : decode cX7_frontCost 58 = .ok (.iload_n 1, 1) := by decide +kernel
theorem dX7_frontCost_59 : decode cX7_frontCost 59 = .ok (.iload_n 3, 1) := by decide +kernel
theorem dX7_frontCost_60 : decode cX7_frontCost 60 = .ok (.iconst 1, 1) := by decide +kernel
theorem dX7_frontCost_61 : decode cX7_frontCost 61 = .ok (.iadd, 1) := by decide +kernel
theorem dX7_frontCost_62 : decode cX7_frontCost 62 = .ok (.iadd, 1) := by decide +kernel
theorem dX7_frontCost_63 : decode cX7_frontCost 63 = .ok (.istore_n 1, 1) := by decide +kernel
theorem dX7_frontCost_64 : decode cX7_frontCost 64 = .ok (.iload_n 3, 1) := by decide +kernel
theorem dX7_frontCost_65 : decode cX7_frontCost 65 = .ok (.istore 4, 2) := by decide +kernel
theorem dX7_frontCost_67 : decode cX7_frontCost 67 = .ok (.iload 4, 2) := by decide +kernel
theorem dX7_frontCost_69 : decode cX7_frontCost 69 = .ok (.ifCond .le 25, 3) := by decide +kernel
theorem dX7_frontCost_72 : decode cX7_frontCost 72 = .ok (.aload_n 0, 1) := by decide +kernel
theorem dX7_frontCost_73 : decode cX7_frontCost 73 = .ok (.getfield 35, 3) := by decide +kernel
theorem dX7_frontCost_76 : decode cX7_frontCost 76 = .ok (.iload 4, 2) := by decide +kernel
theorem dX7_frontCost_78 : decode cX7_frontCost 78 = .ok (.aload_n 0, 1) := by decide +kernel
theorem dX7_frontCost_79 : decode cX7_frontCost 79 = .ok (.getfield 35, 3) := by decide +kernel
theorem dX7_frontCost_82 : decode cX7_frontCost 82 = .ok (.iload 4, 2) := by decide +kernel
theorem dX7_frontCost_84 : decode cX7_frontCost 84 = .ok (.iconst 1, 1) := by decide +kernel
theorem dX7_frontCost_85 : decode cX7_frontCost 85 = .ok (.isub, 1) := by decide +kernel
theorem dX7_frontCost_86 : decode cX7_frontCost 86 = .ok (.iaload, 1) := by decide +kernel
theorem dX7_frontCost_87 : decode cX7_frontCost 87 = .ok (.iastore, 1) := by decide +kernel
theorem dX7_frontCost_88 : decode cX7_frontCost 88 = .ok (.iinc 4 (-1), 3) := by decide +kernel
theorem dX7_frontCost_91 : decode cX7_frontCost 91 = .ok (.goto (-24), 3) := by decide +kernel
theorem dX7_frontCost_94 : decode cX7_frontCost 94 = .ok (.aload_n 0, 1) := by decide +kernel
theorem dX7_frontCost_95 : decode cX7_frontCost 95 = .ok (.getfield 35, 3) := by decide +kernel
theorem dX7_frontCost_98 : decode cX7_frontCost 98 = .ok (.iconst 0, 1) := by decide +kernel
theorem dX7_frontCost_99 : decode cX7_frontCost 99 = .ok (.aload_n 0, 1) := by decide +kernel
theorem dX7_frontCost_100 : decode cX7_frontCost 100 = .ok (.getfield 32, 3) := by decide +kernel
theorem dX7_frontCost_103 : decode cX7_frontCost 103 = .ok (.iload_n 2, 1) := by decide +kernel
theorem dX7_frontCost_104 : decode cX7_frontCost 104 = .ok (.iaload, 1) := by decide +kernel
theorem dX7_frontCost_105 : decode cX7_frontCost 105 = .ok (.iastore, 1) := by decide +kernel
theorem dX7_frontCost_106 : decode cX7_frontCost 106 = .ok (.iinc 2 1, 3) := by decide +kernel
theorem dX7_frontCost_109 : decode cX7_frontCost 109 = .ok (.goto (-82), 3) := by decide +kernel
theorem dX7_frontCost_112 : decode cX7_frontCost 112 = .ok (.iload_n 1, 1) := by decide +kernel
theorem dX7_frontCost_113 : decode cX7_frontCost 113 = .ok (.ireturn, 1) := by decide +kernel
theorem dX7_ordersOf_0 : decode cX7_ordersOf 0 = .ok (.aload_n 0, 1) := by decide +kernel
theorem dX7_ordersOf_1 : decode cX7_ordersOf 1 = .ok (.iconst 0, 1) := by decide +kernel
theorem dX7_ordersOf_2 : decode cX7_ordersOf 2 = .ok (.putfield 135, 3) := by decide +kernel
theorem dX7_ordersOf_5 : decode cX7_ordersOf 5 = .ok (.iconst 0, 1) := by decide +kernel
theorem dX7_ordersOf_6 : decode cX7_ordersOf 6 = .ok (.istore_n 1, 1) := by decide +kernel
theorem dX7_ordersOf_7 : decode cX7_ordersOf 7 = .ok (.iload_n 1, 1) := by decide +kernel
theorem dX7_ordersOf_8 : decode cX7_ordersOf 8 = .ok (.sipush 256, 3) := by decide +kernel
theorem dX7_ordersOf_11 : decode cX7_ordersOf 11 = .ok (.if_icmp .ge 153, 3) := by decide +kernel
theorem dX7_ordersOf_14 : decode cX7_ordersOf 14 = .ok (.iconst 0, 1) := by decide +kernel
theorem dX7_ordersOf_15 : decode cX7_ordersOf 15 = .ok (.istore_n 2, 1) := by decide +kernel
theorem dX7_ordersOf_16 : decode cX7_ordersOf 16 = .ok (.iload_n 1, 1) := by decide +kernel
theorem dX7_ordersOf_17 : decode cX7_ordersOf 17 = .ok (.iconst 2, 1) := by decide +kernel
theorem dX7_ordersOf_18 : decode cX7_ordersOf 18 = .ok (.aload_n 0, 1) := by decide +kernel
theorem dX7_ordersOf_19 : decode cX7_ordersOf 19 = .ok (.getfield 29, 3) := by decide +kernel
theorem dX7_ordersOf_22 : decode cX7_ordersOf 22 = .ok (.imul, 1) := by decide +kernel
theorem dX7_ordersOf_23 : decode cX7_ordersOf 23 = .ok (.ishr, 1) := by decide +kernel
theorem dX7_ordersOf_24 : decode cX7_ordersOf 24 = .ok (.ifCond .ne 7, 3) := by decide +kernel
theorem dX7_ordersOf_27 : decode cX7_ordersOf 27 = .ok (.iconst 1, 1) := by decide +kernel
theorem dX7_ordersOf_28 : decode cX7_ordersOf 28 = .ok (.goto 4, 3) := by decide +kernel
theorem dX7_ordersOf_31 : decode cX7_ordersOf 31 = .ok (.iconst 0, 1) := by decide +kernel
theorem dX7_ordersOf_32 : decode cX7_ordersOf 32 = .ok (.istore_n 3, 1) := by decide +kernel
theorem dX7_ordersOf_33 : decode cX7_ordersOf 33 = .ok (.iconst 0, 1) := by decide +kernel
theorem dX7_ordersOf_34 : decode cX7_ordersOf 34 = .ok (.istore 4, 2) := by decide +kernel
theorem dX7_ordersOf_36 : decode cX7_ordersOf 36 = .ok (.iload 4, 2) := by decide +kernel
theorem dX7_ordersOf_38 : decode cX7_ordersOf 38 = .ok (.aload_n 0, 1) := by decide +kernel
theorem dX7_ordersOf_39 : decode cX7_ordersOf 39 = .ok (.getfield 29, 3) := by decide +kernel
theorem dX7_ordersOf_42 : decode cX7_ordersOf 42 = .ok (.if_icmp .ge 54, 3) := by decide +kernel
theorem dX7_ordersOf_45 : decode cX7_ordersOf 45 = .ok (.iload_n 1, 1) := by decide +kernel
theorem dX7_ordersOf_46 : decode cX7_ordersOf 46 = .ok (.iconst 2, 1) := by decide +kernel
theorem dX7_ordersOf_47 : decode cX7_ordersOf 47 = .ok (.iload 4, 2) := by decide +kernel
theorem dX7_ordersOf_49 : decode cX7_ordersOf 49 = .ok (.imul, 1) := by decide +kernel
theorem dX7_ordersOf_50 : decode cX7_ordersOf 50 = .ok (.ishr, 1) := by decide +kernel
theorem dX7_ordersOf_51 : decode cX7_ordersOf 51 = .ok (.iconst 3, 1) := by decide +kernel
theorem dX7_ordersOf_52 : decode cX7_ordersOf 52 = .ok (.iand, 1) := by decide +kernel
theorem dX7_ordersOf_53 : decode cX7_ordersOf 53 = .ok (.istore 5, 2) := by decide +kernel
theorem dX7_ordersOf_55 : decode cX7_ordersOf 55 = .ok (.iload_n 3, 1) := by decide +kernel
theorem dX7_ordersOf_56 : decode cX7_ordersOf 56 = .ok (.ifCond .eq 25, 3) := by decide +kernel
theorem dX7_ordersOf_59 : decode cX7_ordersOf 59 = .ok (.iload 5, 2) := by decide +kernel
theorem dX7_ordersOf_61 : decode cX7_ordersOf 61 = .ok (.aload_n 0, 1) := by decide +kernel
theorem dX7_ordersOf_62 : decode cX7_ordersOf 62 = .ok (.getfield 29, 3) := by decide +kernel
theorem dX7_ordersOf_65 : decode cX7_ordersOf 65 = .ok (.if_icmp .ge 16, 3) := by decide +kernel
theorem dX7_ordersOf_68 : decode cX7_ordersOf 68 = .ok (.iload_n 2, 1) := by decide +kernel
theorem dX7_ordersOf_69 : decode cX7_ordersOf 69 = .ok (.iload 5, 2) := by decide +kernel
theorem dX7_ordersOf_71 : decode cX7_ordersOf 71 = .ok (.ishr, 1) := by decide +kernel
theorem dX7_ordersOf_72 : decode cX7_ordersOf 72 = .ok (.iconst 1, 1) := by decide +kernel
theorem dX7_ordersOf_73 : decode cX7_ordersOf 73 = .ok (.iand, 1) := by decide +kernel
theorem dX7_ordersOf_74 : decode cX7_ordersOf 74 = .ok (.ifCond .ne 7, 3) := by decide +kernel
theorem dX7_ordersOf_77 : decode cX7_ordersOf 77 = .ok (.iconst 1, 1) := by decide +kernel
theorem dX7_ordersOf_78 : decode cX7_ordersOf 78 = .ok (.goto 4, 3) := by decide +kernel
theorem dX7_ordersOf_81 : decode cX7_ordersOf 81 = .ok (.iconst 0, 1) := by decide +kernel
theorem dX7_ordersOf_82 : decode cX7_ordersOf 82 = .ok (.istore_n 3, 1) := by decide +kernel
theorem dX7_ordersOf_83 : decode cX7_ordersOf 83 = .ok (.iload_n 2, 1) := by decide +kernel
theorem dX7_ordersOf_84 : decode cX7_ordersOf 84 = .ok (.iconst 1, 1) := by decide +kernel
theorem dX7_ordersOf_85 : decode cX7_ordersOf 85 = .ok (.iload 5, 2) := by decide +kernel
theorem dX7_ordersOf_87 : decode cX7_ordersOf 87 = .ok (.ishl, 1) := by decide +kernel
theorem dX7_ordersOf_88 : decode cX7_ordersOf 88 = .ok (.ior, 1) := by decide +kernel
theorem dX7_ordersOf_89 : decode cX7_ordersOf 89 = .ok (.istore_n 2, 1) := by decide +kernel
theorem dX7_ordersOf_90 : decode cX7_ordersOf 90 = .ok (.iinc 4 1, 3) := by decide +kernel
theorem dX7_ordersOf_93 : decode cX7_ordersOf 93 = .ok (.goto (-57), 3) := by decide +kernel
theorem dX7_ordersOf_96 : decode cX7_ordersOf 96 = .ok (.iconst 0, 1) := by decide +kernel
theorem dX7_ordersOf_97 : decode cX7_ordersOf 97 = .ok (.istore 4, 2) := by decide +kernel
theorem dX7_ordersOf_99 : decode cX7_ordersOf 99 = .ok (.iload 4, 2) := by decide +kernel
theorem dX7_ordersOf_101 : decode cX7_ordersOf 101 = .ok (.aload_n 0, 1) := by decide +kernel
theorem dX7_ordersOf_102 : decode cX7_ordersOf 102 = .ok (.getfield 29, 3) := by decide +kernel
theorem dX7_ordersOf_105 : decode cX7_ordersOf 105 = .ok (.if_icmp .ge 35, 3) := by decide +kernel
theorem dX7_ordersOf_108 : decode cX7_ordersOf 108 = .ok (.iload_n 3, 1) := by decide +kernel
theorem dX7_ordersOf_109 : decode cX7_ordersOf 109 = .ok (.ifCond .eq 31, 3) := by decide +kernel
theorem dX7_ordersOf_112 : decode cX7_ordersOf 112 = .ok (.aload_n 0, 1) := by decide +kernel
theorem dX7_ordersOf_113 : decode cX7_ordersOf 113 = .ok (.getfield 38, 3) := by decide +kernel
theorem dX7_ordersOf_116 : decode cX7_ordersOf 116 = .ok (.iconst 4, 1) := by decide +kernel
theorem dX7_ordersOf_117 : decode cX7_ordersOf 117 = .ok (.aload_n 0, 1) := by decide +kernel
theorem dX7_ordersOf_118 : decode cX7_ordersOf 118 = .ok (.getfield 135, 3) := by decide +kernel
theorem dX7_ordersOf_121 : decode cX7_ordersOf 121 = .ok (.imul, 1) := by decide +kernel
theorem dX7_ordersOf_122 : decode cX7_ordersOf 122 = .ok (.iload 4, 2) := by decide +kernel
theorem dX7_ordersOf_124 : decode cX7_ordersOf 124 = .ok (.iadd, 1) := by decide +kernel
theorem dX7_ordersOf_125 : decode cX7_ordersOf 125 = .ok (.iload_n 1, 1) := by decide +kernel
theorem dX7_ordersOf_126 : decode cX7_ordersOf 126 = .ok (.iconst 2, 1) := by decide +kernel
theorem dX7_ordersOf_127 : decode cX7_ordersOf 127 = .ok (.iload 4, 2) := by decide +kernel
theorem dX7_ordersOf_129 : decode cX7_ordersOf 129 = .ok (.imul, 1) := by decide +kernel
theorem dX7_ordersOf_130 : decode cX7_ordersOf 130 = .ok (.ishr, 1) := by decide +kernel
theorem dX7_ordersOf_131 : decode cX7_ordersOf 131 = .ok (.iconst 3, 1) := by decide +kernel
theorem dX7_ordersOf_132 : decode cX7_ordersOf 132 = .ok (.iand, 1) := by decide +kernel
theorem dX7_ordersOf_133 : decode cX7_ordersOf 133 = .ok (.iastore, 1) := by decide +kernel
theorem dX7_ordersOf_134 : decode cX7_ordersOf 134 = .ok (.iinc 4 1, 3) := by decide +kernel
theorem dX7_ordersOf_137 : decode cX7_ordersOf 137 = .ok (.goto (-38), 3) := by decide +kernel
theorem dX7_ordersOf_140 : decode cX7_ordersOf 140 = .ok (.aload_n 0, 1) := by decide +kernel
theorem dX7_ordersOf_141 : decode cX7_ordersOf 141 = .ok (.dup, 1) := by decide +kernel
theorem dX7_ordersOf_142 : decode cX7_ordersOf 142 = .ok (.getfield 135, 3) := by decide +kernel
theorem dX7_ordersOf_145 : decode cX7_ordersOf 145 = .ok (.iload_n 3, 1) := by decide +kernel
theorem dX7_ordersOf_146 : decode cX7_ordersOf 146 = .ok (.ifCond .eq 7, 3) := by decide +kernel
theorem dX7_ordersOf_149 : decode cX7_ordersOf 149 = .ok (.iconst 1, 1) := by decide +kernel
theorem dX7_ordersOf_150 : decode cX7_ordersOf 150 = .ok (.goto 4, 3) := by decide +kernel
theorem dX7_ordersOf_153 : decode cX7_ordersOf 153 = .ok (.iconst 0, 1) := by decide +kernel
theorem dX7_ordersOf_154 : decode cX7_ordersOf 154 = .ok (.iadd, 1) := by decide +kernel
theorem dX7_ordersOf_155 : decode cX7_ordersOf 155 = .ok (.putfield 135, 3) := by decide +kernel
theorem dX7_ordersOf_158 : decode cX7_ordersOf 158 = .ok (.iinc 1 1, 3) := by decide +kernel
theorem dX7_ordersOf_161 : decode cX7_ordersOf 161 = .ok (.goto (-154), 3) := by decide +kernel
theorem dX7_ordersOf_164 : decode cX7_ordersOf 164 = .ok (.return_, 1) := by decide +kernel
theorem dX7_placeIn_0 : decode cX7_placeIn 0 = .ok (.iconst 0, 1) := by decide +kernel
theorem dX7_placeIn_1 : decode cX7_placeIn 1 = .ok (.istore_n 3, 1) := by decide +kernel
theorem dX7_placeIn_2 : decode cX7_placeIn 2 = .ok (.aload_n 0, 1) := by decide +kernel
theorem dX7_placeIn_3 : decode cX7_placeIn 3 = .ok (.getfield 38, 3) := by decide +kernel
theorem dX7_placeIn_6 : decode cX7_placeIn 6 = .ok (.iconst 4, 1) := by decide +kernel
theorem dX7_placeIn_7 : decode cX7_placeIn 7 = .ok (.iload_n 1, 1) := by decide +kernel
theorem dX7_placeIn_8 : decode cX7_placeIn 8 = .ok (.imul, 1) := by decide +kernel
theorem dX7_placeIn_9 : decode cX7_placeIn 9 = .ok (.iload_n 3, 1) := by decide +kernel
theorem dX7_placeIn_10 : decode cX7_placeIn 10 = .ok (.iadd, 1) := by decide +kernel
theorem dX7_placeIn_11 : decode cX7_placeIn 11 = .ok (.iaload, 1) := by decide +kernel
theorem dX7_placeIn_12 : decode cX7_placeIn 12 = .ok (.iload_n 2, 1) := by decide +kernel
theorem dX7_placeIn_13 : decode cX7_placeIn 13 = .ok (.if_icmp .eq 9, 3) := by decide +kernel
theorem dX7_placeIn_16 : decode cX7_placeIn 16 = .ok (.iinc 3 1, 3) := by decide +kernel
theorem dX7_placeIn_19 : decode cX7_placeIn 19 = .ok (.goto (-17), 3) := by decide +kernel
theorem dX7_placeIn_22 : decode cX7_placeIn 22 = .ok (.iload_n 3, 1) := by decide +kernel
theorem dX7_placeIn_23 : decode cX7_placeIn 23 = .ok (.ireturn, 1) := by decide +kernel
set_option maxRecDepth 20000 in
theorem ggX7_staysCost_X7_placeIn : GoodIn wsX7_staysCost wsX7_placeIn := goodIn_r _ [7, 8, 9, 10, 11, 12, 13, 14, 15, 16, 17, 18, 19, 20, 21, 22, 23, 24, 25, 26] (by decide +kernel) (by decide +kernel)
set_option maxRecDepth 20000 in
theorem gX7_staysCost_X7_placeIn : GoodIn wsX7_staysCost (wsV RX7 138 RX7 yX7_placeIn wsX7_placeIn) := goodIn_app (goodIn_of _ (by decide +kernel)) ggX7_staysCost_X7_placeIn
theorem dX7_staysCost_0 : decode cX7_staysCost 0 = .ok (.iconst 0, 1) := by decide +kernel
theorem dX7_staysCost_1 : decode cX7_staysCost 1 = .ok (.istore_n 2, 1) := by decide +kernel
theorem dX7_staysCost_2 : decode cX7_staysCost 2 = .ok (.iconst 0, 1) := by decide +kernel
theorem dX7_staysCost_3 : decode cX7_staysCost 3 = .ok (.istore_n 3, 1) := by decide +kernel
theorem dX7_staysCost_4 : decode cX7_staysCost 4 = .ok (.iload_n 3, 1) := by decide +kernel
theorem dX7_staysCost_5 : decode cX7_staysCost 5 = .ok (.aload_n 0, 1) := by decide +kernel
theorem dX7_staysCost_6 : decode cX7_staysCost 6 = .ok (.getfield 50, 3) := by decide +kernel
theorem dX7_staysCost_9 : decode cX7_staysCost 9 = .ok (.if_icmp .ge 25, 3) := by decide +kernel
theorem dX7_staysCost_12 : decode cX7_staysCost 12 = .ok (.iload_n 2, 1) := by decide +kernel
theorem dX7_staysCost_13 : decode cX7_staysCost 13 = .ok (.aload_n 0, 1) := by decide +kernel
theorem dX7_staysCost_14 : decode cX7_staysCost 14 = .ok (.iload_n 1, 1) := by decide +kernel
theorem dX7_staysCost_15 : decode cX7_staysCost 15 = .ok (.aload_n 0, 1) := by decide +kernel
theorem dX7_staysCost_16 : decode cX7_staysCost 16 = .ok (.getfield 32, 3) := by decide +kernel
theorem dX7_staysCost_19 : decode cX7_staysCost 19 = .ok (.iload_n 3, 1) := by decide +kernel
theorem dX7_staysCost_20 : decode cX7_staysCost 20 = .ok (.iaload, 1) := by decide +kernel
theorem dX7_staysCost_21 : decode cX7_staysCost 21 = .ok (.invokevirtual 138, 3) := by decide +kernel
theorem dX7_staysCost_24 : decode cX7_staysCost 24 = .ok (.iconst 1, 1) := by decide +kernel
theorem dX7_staysCost_25 : decode cX7_staysCost 25 = .ok (.iadd, 1) := by decide +kernel
theorem dX7_staysCost_26 : decode cX7_staysCost 26 = .ok (.iadd, 1) := by decide +kernel
theorem dX7_staysCost_27 : decode cX7_staysCost 27 = .ok (.istore_n 2, 1) := by decide +kernel
theorem dX7_staysCost_28 : decode cX7_staysCost 28 = .ok (.iinc 3 1, 3) := by decide +kernel
theorem dX7_staysCost_31 : decode cX7_staysCost 31 = .ok (.goto (-27), 3) := by decide +kernel
theorem dX7_staysCost_34 : decode cX7_staysCost 34 = .ok (.iload_n 2, 1) := by decide +kernel
theorem dX7_staysCost_35 : decode cX7_staysCost 35 = .ok (.ireturn, 1) := by decide +kernel
set_option maxRecDepth 20000 in
theorem ggX7_apart_X7_placeIn : GoodIn wsX7_apart wsX7_placeIn := goodIn_r _ [6, 7, 8, 9, 10, 11, 12, 13, 14, 15, 16, 17, 18, 19, 20, 21, 22, 23, 24, 25] (by decide +kernel) (by decide +kernel)
set_option maxRecDepth 20000 in
theorem gX7_apart_X7_placeIn : GoodIn wsX7_apart (wsV RX7 138 RX7 yX7_placeIn wsX7_placeIn) := goodIn_app (goodIn_of _ (by decide +kernel)) ggX7_apart_X7_placeIn
theorem dX7_apart_0 : decode cX7_apart 0 = .ok (.iconst 0, 1) := by decide +kernel
theorem dX7_apart_1 : decode cX7_apart 1 = .ok (.istore_n 3, 1) := by decide +kernel
theorem dX7_apart_2 : decode cX7_apart 2 = .ok (.iconst 0, 1) := by decide +kernel
theorem dX7_apart_3 : decode cX7_apart 3 = .ok (.istore 4, 2) := by decide +kernel
theorem dX7_apart_5 : decode cX7_apart 5 = .ok (.iload 4, 2) := by decide +kernel
theorem dX7_apart_7 : decode cX7_apart 7 = .ok (.aload_n 0, 1) := by decide +kernel
theorem dX7_apart_8 : decode cX7_apart 8 = .ok (.getfield 29, 3) := by decide +kernel
theorem dX7_apart_11 : decode cX7_apart 11 = .ok (.if_icmp .ge 80, 3) := by decide +kernel
theorem dX7_apart_14 : decode cX7_apart 14 = .ok (.iconst 0, 1) := by decide +kernel
theorem dX7_apart_15 : decode cX7_apart 15 = .ok (.istore 5, 2) := by decide +kernel
theorem dX7_apart_17 : decode cX7_apart 17 = .ok (.iload 5, 2) := by decide +kernel
theorem dX7_apart_19 : decode cX7_apart 19 = .ok (.iload 4, 2) := by decide +kernel
theorem dX7_apart_21 : decode cX7_apart 21 = .ok (.if_icmp .ge 64, 3) := by decide +kernel
theorem dX7_apart_24 : decode cX7_apart 24 = .ok (.iload_n 3, 1) := by decide +kernel
theorem dX7_apart_25 : decode cX7_apart 25 = .ok (.aload_n 0, 1) := by decide +kernel
theorem dX7_apart_26 : decode cX7_apart 26 = .ok (.iload_n 1, 1) := by decide +kernel
theorem dX7_apart_27 : decode cX7_apart 27 = .ok (.iload 4, 2) := by decide +kernel
theorem dX7_apart_29 : decode cX7_apart 29 = .ok (.invokevirtual 138, 3) := by decide +kernel
theorem dX7_apart_32 : decode cX7_apart 32 = .ok (.aload_n 0, 1) := by decide +kernel
theorem dX7_apart_33 : decode cX7_apart 33 = .ok (.iload_n 1, 1) := by decide +kernel
theorem dX7_apart_34 : decode cX7_apart 34 = .ok (.iload 5, 2) := by decide +kernel
theorem dX7_apart_36 : decode cX7_apart 36 = .ok (.invokevirtual 138, 3) := by decide +kernel
theorem dX7_apart_39 : decode cX7_apart 39 = .ok (.if_icmp .ge 7, 3) := by decide +kernel
theorem dX7_apart_42 : decode cX7_apart 42 = .ok (.iconst 1, 1) := by decide +kernel
theorem dX7_apart_43 : decode cX7_apart 43 = .ok (.goto 4, 3) := by decide +kernel
theorem dX7_apart_46 : decode cX7_apart 46 = .ok (.iconst 0, 1) := by decide +kernel
theorem dX7_apart_47 : decode cX7_apart 47 = .ok (.aload_n 0, 1) := by decide +kernel
theorem dX7_apart_48 : decode cX7_apart 48 = .ok (.iload_n 2, 1) := by decide +kernel
theorem dX7_apart_49 : decode cX7_apart 49 = .ok (.iload 4, 2) := by decide +kernel
theorem dX7_apart_51 : decode cX7_apart 51 = .ok (.invokevirtual 138, 3) := by decide +kernel
theorem dX7_apart_54 : decode cX7_apart 54 = .ok (.aload_n 0, 1) := by decide +kernel
theorem dX7_apart_55 : decode cX7_apart 55 = .ok (.iload_n 2, 1) := by decide +kernel
theorem dX7_apart_56 : decode cX7_apart 56 = .ok (.iload 5, 2) := by decide +kernel
theorem dX7_apart_58 : decode cX7_apart 58 = .ok (.invokevirtual 138, 3) := by decide +kernel
theorem dX7_apart_61 : decode cX7_apart 61 = .ok (.if_icmp .ge 7, 3) := by decide +kernel
theorem dX7_apart_64 : decode cX7_apart 64 = .ok (.iconst 1, 1) := by decide +kernel
theorem dX7_apart_65 : decode cX7_apart 65 = .ok (.goto 4, 3) := by decide +kernel
theorem dX7_apart_68 : decode cX7_apart 68 = .ok (.iconst 0, 1) := by decide +kernel
theorem dX7_apart_69 : decode cX7_apart 69 = .ok (.if_icmp .eq 7, 3) := by decide +kernel
theorem dX7_apart_72 : decode cX7_apart 72 = .ok (.iconst 1, 1) := by decide +kernel
theorem dX7_apart_73 : decode cX7_apart 73 = .ok (.goto 4, 3) := by decide +kernel
theorem dX7_apart_76 : decode cX7_apart 76 = .ok (.iconst 0, 1) := by decide +kernel
theorem dX7_apart_77 : decode cX7_apart 77 = .ok (.iadd, 1) := by decide +kernel
theorem dX7_apart_78 : decode cX7_apart 78 = .ok (.istore_n 3, 1) := by decide +kernel
theorem dX7_apart_79 : decode cX7_apart 79 = .ok (.iinc 5 1, 3) := by decide +kernel
theorem dX7_apart_82 : decode cX7_apart 82 = .ok (.goto (-65), 3) := by decide +kernel
theorem dX7_apart_85 : decode cX7_apart 85 = .ok (.iinc 4 1, 3) := by decide +kernel
theorem dX7_apart_88 : decode cX7_apart 88 = .ok (.goto (-83), 3) := by decide +kernel
theorem dX7_apart_91 : decode cX7_apart 91 = .ok (.iload_n 3, 1) := by decide +kernel
theorem dX7_apart_92 : decode cX7_apart 92 = .ok (.ireturn, 1) := by decide +kernel
set_option maxRecDepth 20000 in
theorem ggX7_comesOf_X7_placeIn : GoodIn wsX7_comesOf wsX7_placeIn := goodIn_r _ [6, 7, 8, 9, 10, 11, 12, 13, 14, 15, 16, 17, 18, 19, 20, 21, 22, 23, 24, 25] (by decide +kernel) (by decide +kernel)
set_option maxRecDepth 20000 in
theorem gX7_comesOf_X7_placeIn : GoodIn wsX7_comesOf (wsV RX7 138 RX7 yX7_placeIn wsX7_placeIn) := goodIn_app (goodIn_of _ (by decide +kernel)) ggX7_comesOf_X7_placeIn
theorem dX7_comesOf_0 : decode cX7_comesOf 0 = .ok (.aload_n 0, 1) := by decide +kernel
theorem dX7_comesOf_1 : decode cX7_comesOf 1 = .ok (.iload_n 2, 1) := by decide +kernel
theorem dX7_comesOf_2 : decode cX7_comesOf 2 = .ok (.iload_n 3, 1) := by decide +kernel
theorem dX7_comesOf_3 : decode cX7_comesOf 3 = .ok (.invokevirtual 138, 3) := by decide +kernel
theorem dX7_comesOf_6 : decode cX7_comesOf 6 = .ok (.aload_n 0, 1) := by decide +kernel
theorem dX7_comesOf_7 : decode cX7_comesOf 7 = .ok (.iload_n 1, 1) := by decide +kernel
theorem dX7_comesOf_8 : decode cX7_comesOf 8 = .ok (.iload_n 3, 1) := by decide +kernel
theorem dX7_comesOf_9 : decode cX7_comesOf 9 = .ok (.invokevirtual 138, 3) := by decide +kernel
theorem dX7_comesOf_12 : decode cX7_comesOf 12 = .ok (.if_icmp .gt 7, 3) := by decide +kernel
theorem dX7_comesOf_15 : decode cX7_comesOf 15 = .ok (.iconst 1, 1) := by decide +kernel
theorem dX7_comesOf_16 : decode cX7_comesOf 16 = .ok (.goto 4, 3) := by decide +kernel
theorem dX7_comesOf_19 : decode cX7_comesOf 19 = .ok (.iconst 0, 1) := by decide +kernel
theorem dX7_comesOf_20 : decode cX7_comesOf 20 = .ok (.istore 4, 2) := by decide +kernel
theorem dX7_comesOf_22 : decode cX7_comesOf 22 = .ok (.iconst 0, 1) := by decide +kernel
theorem dX7_comesOf_23 : decode cX7_comesOf 23 = .ok (.istore 5, 2) := by decide +kernel
theorem dX7_comesOf_25 : decode cX7_comesOf 25 = .ok (.iload 5, 2) := by decide +kernel
theorem dX7_comesOf_27 : decode cX7_comesOf 27 = .ok (.aload_n 0, 1) := by decide +kernel
theorem dX7_comesOf_28 : decode cX7_comesOf 28 = .ok (.getfield 29, 3) := by decide +kernel
theorem dX7_comesOf_31 : decode cX7_comesOf 31 = .ok (.if_icmp .ge 108, 3) := by decide +kernel
theorem dX7_comesOf_34 : decode cX7_comesOf 34 = .ok (.iconst 0, 1) := by decide +kernel
theorem dX7_comesOf_35 : decode cX7_comesOf 35 = .ok (.istore 6, 2) := by decide +kernel
theorem dX7_comesOf_37 : decode cX7_comesOf 37 = .ok (.iload 6, 2) := by decide +kernel
theorem dX7_comesOf_39 : decode cX7_comesOf 39 = .ok (.iload 5, 2) := by decide +kernel
theorem dX7_comesOf_41 : decode cX7_comesOf 41 = .ok (.if_icmp .ge 92, 3) := by decide +kernel
theorem dX7_comesOf_44 : decode cX7_comesOf 44 = .ok (.iload 5, 2) := by decide +kernel
theorem dX7_comesOf_46 : decode cX7_comesOf 46 = .ok (.iload_n 3, 1) := by decide +kernel
theorem dX7_comesOf_47 : decode cX7_comesOf 47 = .ok (.if_icmp .eq 13, 3) := by decide +kernel
theorem dX7_comesOf_50 : decode cX7_comesOf 50 = .ok (.iload 6, 2) := by decide +kernel
theorem dX7_comesOf_52 : decode cX7_comesOf 52 = .ok (.iload_n 3, 1) := by decide +kernel
theorem dX7_comesOf_53 : decode cX7_comesOf 53 = .ok (.if_icmp .eq 7, 3) := by decide +kernel
theorem dX7_comesOf_56 : decode cX7_comesOf 56 = .ok (.iconst 1, 1) := by decide +kernel
theorem dX7_comesOf_57 : decode cX7_comesOf 57 = .ok (.goto 4, 3) := by decide +kernel
theorem dX7_comesOf_60 : decode cX7_comesOf 60 = .ok (.iconst 0, 1) := by decide +kernel
theorem dX7_comesOf_61 : decode cX7_comesOf 61 = .ok (.istore 7, 2) := by decide +kernel
theorem dX7_comesOf_63 : decode cX7_comesOf 63 = .ok (.iload 4, 2) := by decide +kernel
theorem dX7_comesOf_65 : decode cX7_comesOf 65 = .ok (.ifCond .eq 59, 3) := by decide +kernel
theorem dX7_comesOf_68 : decode cX7_comesOf 68 = .ok (.iload 7, 2) := by decide +kernel
theorem dX7_comesOf_70 : decode cX7_comesOf 70 = .ok (.ifCond .eq 50, 3) := by decide +kernel
theorem dX7_comesOf_73 : decode cX7_comesOf 73 = .ok (.aload_n 0, 1) := by decide +kernel
theorem dX7_comesOf_74 : decode cX7_comesOf 74 = .ok (.iload_n 1, 1) := by decide +kernel
theorem dX7_comesOf_75 : decode cX7_comesOf 75 = .ok (.iload 5, 2) := by decide +kernel
theorem dX7_comesOf_77 : decode cX7_comesOf 77 = .ok (.invokevirtual 138, 3) := by decide +kernel
theorem dX7_comesOf_80 : decode cX7_comesOf 80 = .ok (.aload_n 0, 1) := by decide +kernel
theorem dX7_comesOf_81 : decode cX7_comesOf 81 = .ok (.iload_n 1, 1) := by decide +kernel
theorem dX7_comesOf_82 : decode cX7_comesOf 82 = .ok (.iload 6, 2) := by decide +kernel
theorem dX7_comesOf_84 : decode cX7_comesOf 84 = .ok (.invokevirtual 138, 3) := by decide +kernel
theorem dX7_comesOf_87 : decode cX7_comesOf 87 = .ok (.if_icmp .ge 7, 3) := by decide +kernel
theorem dX7_comesOf_90 : decode cX7_comesOf 90 = .ok (.iconst 1, 1) := by decide +kernel
theorem dX7_comesOf_91 : decode cX7_comesOf 91 = .ok (.goto 4, 3) := by decide +kernel
theorem dX7_comesOf_94 : decode cX7_comesOf 94 = .ok (.iconst 0, 1) := by decide +kernel
theorem dX7_comesOf_95 : decode cX7_comesOf 95 = .ok (.aload_n 0, 1) := by decide +kernel
theorem dX7_comesOf_96 : decode cX7_comesOf 96 = .ok (.iload_n 2, 1) := by decide +kernel
theorem dX7_comesOf_97 : decode cX7_comesOf 97 = .ok (.iload 5, 2) := by decide +kernel
theorem dX7_comesOf_99 : decode cX7_comesOf 99 = .ok (.invokevirtual 138, 3) := by decide +kernel
theorem dX7_comesOf_102 : decode cX7_comesOf 102 = .ok (.aload_n 0, 1) := by decide +kernel
theorem dX7_comesOf_103 : decode cX7_comesOf 103 = .ok (.iload_n 2, 1) := by decide +kernel
theorem dX7_comesOf_104 : decode cX7_comesOf 104 = .ok (.iload 6, 2) := by decide +kernel
theorem dX7_comesOf_106 : decode cX7_comesOf 106 = .ok (.invokevirtual 138, 3) := by decide +kernel
theorem dX7_comesOf_109 : decode cX7_comesOf 109 = .ok (.if_icmp .ge 7, 3) := by decide +kernel
theorem dX7_comesOf_112 : decode cX7_comesOf 112 = .ok (.iconst 1, 1) := by decide +kernel
theorem dX7_comesOf_113 : decode cX7_comesOf 113 = .ok (.goto 4, 3) := by decide +kernel
theorem dX7_comesOf_116 : decode cX7_comesOf 116 = .ok (.iconst 0, 1) := by decide +kernel
theorem dX7_comesOf_117 : decode cX7_comesOf 117 = .ok (.if_icmp .ne 7, 3) := by decide +kernel
theorem dX7_comesOf_120 : decode cX7_comesOf 120 = .ok (.iconst 1, 1) := by decide +kernel
theorem dX7_comesOf_121 : decode cX7_comesOf 121 = .ok (.goto 4, 3) := by decide +kernel
theorem dX7_comesOf_124 : decode cX7_comesOf 124 = .ok (.iconst 0, 1) := by decide +kernel
theorem dX7_comesOf_125 : decode cX7_comesOf 125 = .ok (.istore 4, 2) := by decide +kernel
theorem dX7_comesOf_127 : decode cX7_comesOf 127 = .ok (.iinc 6 1, 3) := by decide +kernel
theorem dX7_comesOf_130 : decode cX7_comesOf 130 = .ok (.goto (-93), 3) := by decide +kernel
theorem dX7_comesOf_133 : decode cX7_comesOf 133 = .ok (.iinc 5 1, 3) := by decide +kernel
theorem dX7_comesOf_136 : decode cX7_comesOf 136 = .ok (.goto (-111), 3) := by decide +kernel
theorem dX7_comesOf_139 : decode cX7_comesOf 139 = .ok (.iload 4, 2) := by decide +kernel
theorem dX7_comesOf_141 : decode cX7_comesOf 141 = .ok (.ireturn, 1) := by decide +kernel
set_option maxRecDepth 20000 in
theorem ggX7_bestCost_X7_apart : GoodIn wsX7_bestCost wsX7_apart := goodIn_r _ [14, 2, 15, 16, 17, 13, 18, 3, 23, 24, 25, 26, 27, 28, 29, 30, 31, 32, 33, 34, 35, 36, 37, 38, 39, 40] (by decide +kernel) (by decide +kernel)
set_option maxRecDepth 20000 in
theorem gX7_bestCost_X7_apart : GoodIn wsX7_bestCost (wsV RX7 142 RX7 yX7_apart wsX7_apart) := goodIn_app (goodIn_of _ (by decide +kernel)) ggX7_bestCost_X7_apart
set_option maxRecDepth 20000 in
theorem ggX7_bestCost_X7_placeIn : GoodIn wsX7_bestCost wsX7_placeIn := goodIn_r _ [18, 3, 23, 24, 25, 26, 27, 28, 29, 30, 31, 32, 33, 34, 35, 36, 37, 38, 39, 40] (by decide +kernel) (by decide +kernel)
set_option maxRecDepth 20000 in
theorem gX7_bestCost_X7_placeIn : GoodIn wsX7_bestCost (wsV RX7 138 RX7 yX7_placeIn wsX7_placeIn) := goodIn_app (goodIn_of _ (by decide +kernel)) ggX7_bestCost_X7_placeIn
set_option maxRecDepth 20000 in
theorem ggX7_bestCost_X7_comesOf : GoodIn wsX7_bestCost wsX7_comesOf := goodIn_r _ [22, 2, 15, 16, 17, 13, 18, 3, 23, 24, 25, 26, 27, 28, 29, 30, 31, 32, 33, 34, 35, 36, 37, 38, 39, 40] (by decide +kernel) (by decide +kernel)
set_option maxRecDepth 20000 in
theorem gX7_bestCost_X7_comesOf : GoodIn wsX7_bestCost (wsV RX7 145 RX7 yX7_comesOf wsX7_comesOf) := goodIn_app (goodIn_of _ (by decide +kernel)) ggX7_bestCost_X7_comesOf
theorem dX7_bestCost_0 : decode cX7_bestCost 0 = .ok (.iconst 0, 1) := by decide +kernel
theorem dX7_bestCost_1 : decode cX7_bestCost 1 = .ok (.istore_n 1, 1) := by decide +kernel
theorem dX7_bestCost_2 : decode cX7_bestCost 2 = .ok (.iload_n 1, 1) := by decide +kernel
theorem dX7_bestCost_3 : decode cX7_bestCost 3 = .ok (.aload_n 0, 1) := by decide +kernel
theorem dX7_bestCost_4 : decode cX7_bestCost 4 = .ok (.getfield 135, 3) := by decide +kernel
theorem dX7_bestCost_7 : decode cX7_bestCost 7 = .ok (.if_icmp .ge 100, 3) := by decide +kernel
theorem dX7_bestCost_10 : decode cX7_bestCost 10 = .ok (.iconst 1, 1) := by decide +kernel
theorem dX7_bestCost_11 : decode cX7_bestCost 11 = .ok (.istore_n 2, 1) := by decide +kernel
theorem dX7_bestCost_12 : decode cX7_bestCost 12 = .ok (.iconst 0, 1) := by decide +kernel
theorem dX7_bestCost_13 : decode cX7_bestCost 13 = .ok (.istore_n 3, 1) := by decide +kernel
theorem dX7_bestCost_14 : decode cX7_bestCost 14 = .ok (.iload_n 3, 1) := by decide +kernel
theorem dX7_bestCost_15 : decode cX7_bestCost 15 = .ok (.aload_n 0, 1) := by decide +kernel
theorem dX7_bestCost_16 : decode cX7_bestCost 16 = .ok (.getfield 29, 3) := by decide +kernel
theorem dX7_bestCost_19 : decode cX7_bestCost 19 = .ok (.if_icmp .ge 33, 3) := by decide +kernel
theorem dX7_bestCost_22 : decode cX7_bestCost 22 = .ok (.iload_n 2, 1) := by decide +kernel
theorem dX7_bestCost_23 : decode cX7_bestCost 23 = .ok (.ifCond .eq 21, 3) := by decide +kernel
theorem dX7_bestCost_26 : decode cX7_bestCost 26 = .ok (.aload_n 0, 1) := by decide +kernel
theorem dX7_bestCost_27 : decode cX7_bestCost 27 = .ok (.getfield 38, 3) := by decide +kernel
theorem dX7_bestCost_30 : decode cX7_bestCost 30 = .ok (.iconst 4, 1) := by decide +kernel
theorem dX7_bestCost_31 : decode cX7_bestCost 31 = .ok (.iload_n 1, 1) := by decide +kernel
theorem dX7_bestCost_32 : decode cX7_bestCost 32 = .ok (.imul, 1) := by decide +kernel
theorem dX7_bestCost_33 : decode cX7_bestCost 33 = .ok (.iload_n 3, 1) := by decide +kernel
theorem dX7_bestCost_34 : decode cX7_bestCost 34 = .ok (.iadd, 1) := by decide +kernel
theorem dX7_bestCost_35 : decode cX7_bestCost 35 = .ok (.iaload, 1) := by decide +kernel
theorem dX7_bestCost_36 : decode cX7_bestCost 36 = .ok (.iload_n 3, 1) := by decide +kernel
theorem dX7_bestCost_37 : decode cX7_bestCost 37 = .ok (.if_icmp .ne 7, 3) := by decide +kernel
theorem dX7_bestCost_40 : decode cX7_bestCost 40 = .ok (.iconst 1, 1) := by decide +kernel
theorem dX7_bestCost_41 : decode cX7_bestCost 41 = .ok (.goto 4, 3) := by decide +kernel
theorem dX7_bestCost_44 : decode cX7_bestCost 44 = .ok (.iconst 0, 1) := by decide +kernel
theorem dX7_bestCost_45 : decode cX7_bestCost 45 = .ok (.istore_n 2, 1) := by decide +kernel
theorem dX7_bestCost_46 : decode cX7_bestCost 46 = .ok (.iinc 3 1, 3) := by decide +kernel
theorem dX7_bestCost_49 : decode cX7_bestCost 49 = .ok (.goto (-35), 3) := by decide +kernel
theorem dX7_bestCost_52 : decode cX7_bestCost 52 = .ok (.aload_n 0, 1) := by decide +kernel
theorem dX7_bestCost_53 : decode cX7_bestCost 53 = .ok (.getfield 41, 3) := by decide +kernel
theorem dX7_bestCost_56 : decode cX7_bestCost 56 = .ok (.iload_n 1, 1) := by decide +kernel
theorem dX7_bestCost_57 : decode cX7_bestCost 57 = .ok (.iload_n 2, 1) := by decide +kernel
theorem dX7_bestCost_58 : decode cX7_bestCost 58 = .ok (.ifCond .eq 7, 3) := by decide +kernel
theorem dX7_bestCost_61 : decode cX7_bestCost 61 = .ok (.iconst 0, 1) := by decide +kernel
theorem dX7_bestCost_62 : decode cX7_bestCost 62 = .ok (.goto 5, 3) := by decide +kernel
theorem dX7_bestCost_65 : decode cX7_bestCost 65 = .ok (.ldc 141, 2) := by decide +kernel
theorem dX7_bestCost_67 : decode cX7_bestCost 67 = .ok (.iastore, 1) := by decide +kernel
theorem dX7_bestCost_68 : decode cX7_bestCost 68 = .ok (.iconst 0, 1) := by decide +kernel
theorem dX7_bestCost_69 : decode cX7_bestCost 69 = .ok (.istore_n 3, 1) := by decide +kernel
