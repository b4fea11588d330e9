set_option maxRecDepth 20000 in
theorem ggX0_init_X4_init : GoodIn wsX0_init wsX4_init := goodIn_r _ [5, 6, 7, 8, 9, 10, 11, 12, 13, 14, 15, 16, 17, 18, 19, 20, 21, 22, 23, 24] (by decide +kernel) (by decide +kernel)
set_option maxRecDepth 20000 in
theorem gX0_init_X4_init : GoodIn wsX0_init (wsX4_init) := ggX0_init_X4_init
theorem dX0_init_0 : decode cX0_init 0 = .ok (.aload_n 0, 1) := by decide +kernel
theorem dX0_init_1 : decode cX0_init 1 = .ok (.iload_n 1, 1) := by decide +kernel
theorem dX0_init_2 : decode cX0_init 2 = .ok (.iload_n 2, 1) := by decide +kernel
theorem dX0_init_3 : decode cX0_init 3 = .ok (.iload 4, 2) := by decide +kernel
theorem dX0_init_5 : decode cX0_init 5 = .ok (.invokespecial 3, 3) := by decide +kernel
theorem dX0_init_8 : decode cX0_init 8 = .ok (.aload_n 0, 1) := by decide +kernel
theorem dX0_init_9 : decode cX0_init 9 = .ok (.iload_n 3, 1) := by decide +kernel
theorem dX0_init_10 : decode cX0_init 10 = .ok (.putfield 9, 3) := by decide +kernel
theorem dX0_init_13 : decode cX0_init 13 = .ok (.return_, 1) := by decide +kernel
theorem dX0_kindNumber_0 : decode cX0_kindNumber 0 = .ok (.iconst 2, 1) := by decide +kernel
theorem dX0_kindNumber_1 : decode cX0_kindNumber 1 = .ok (.ireturn, 1) := by decide +kernel
set_option maxRecDepth 20000 in
theorem ggX0_rentOf_X4_rentOf : GoodIn wsX0_rentOf wsX4_rentOf := goodIn_r _ [11, 12, 13, 14, 15, 16, 17, 18, 19, 20, 21, 22, 23, 24, 25, 26, 27, 28] (by decide +kernel) (by decide +kernel)
set_option maxRecDepth 20000 in
theorem gX0_rentOf_X4_rentOf_s15 : GoodIn wsX0_rentOf (va_wsSU RX0 15 yX4_rentOf wsX4_rentOf) := goodIn_app (goodIn_of _ (by decide +kernel)) ggX0_rentOf_X4_rentOf
theorem dX0_rentOf_0 : decode cX0_rentOf 0 = .ok (.aload_n 0, 1) := by decide +kernel
theorem dX0_rentOf_1 : decode cX0_rentOf 1 = .ok (.iload_n 1, 1) := by decide +kernel
theorem dX0_rentOf_2 : decode cX0_rentOf 2 = .ok (.invokespecial 15, 3) := by decide +kernel
theorem dX0_rentOf_5 : decode cX0_rentOf 5 = .ok (.aload_n 0, 1) := by decide +kernel
theorem dX0_rentOf_6 : decode cX0_rentOf 6 = .ok (.getfield 9, 3) := by decide +kernel
theorem dX0_rentOf_9 : decode cX0_rentOf 9 = .ok (.invokestatic 19, 3) := by decide +kernel
theorem dX0_rentOf_12 : decode cX0_rentOf 12 = .ok (.ireturn, 1) := by decide +kernel
set_option maxRecDepth 20000 in
theorem ggX0_bodiesAsked_X4_bodiesAsked : GoodIn wsX0_bodiesAsked wsX4_bodiesAsked := goodIn_r _ [6, 7, 8, 9, 10, 11, 12] (by decide +kernel) (by decide +kernel)
set_option maxRecDepth 20000 in
theorem gX0_bodiesAsked_X4_bodiesAsked_s25 : GoodIn wsX0_bodiesAsked (va_wsSU RX0 25 yX4_bodiesAsked wsX4_bodiesAsked) := goodIn_app (goodIn_of _ (by decide +kernel)) ggX0_bodiesAsked_X4_bodiesAsked
theorem dX0_bodiesAsked_0 : decode cX0_bodiesAsked 0 = .ok (.aload_n 0, 1) := by decide +kernel
theorem dX0_bodiesAsked_1 : decode cX0_bodiesAsked 1 = .ok (.invokespecial 25, 3) := by decide +kernel
theorem dX0_bodiesAsked_4 : decode cX0_bodiesAsked 4 = .ok (.bipush 100, 2) := by decide +kernel
theorem dX0_bodiesAsked_6 : decode cX0_bodiesAsked 6 = .ok (.iadd, 1) := by decide +kernel
theorem dX0_bodiesAsked_7 : decode cX0_bodiesAsked 7 = .ok (.ireturn, 1) := by decide +kernel
theorem dX1_init_0 : decode cX1_init 0 = .ok (.aload_n 0, 1) := by decide +kernel
theorem dX1_init_1 : decode cX1_init 1 = .ok (.invokespecial 3, 3) := by decide +kernel
theorem dX1_init_4 : decode cX1_init 4 = .ok (.aload_n 0, 1) := by decide +kernel
theorem dX1_init_5 : decode cX1_init 5 = .ok (.iload_n 1, 1) := by decide +kernel
theorem dX1_init_6 : decode cX1_init 6 = .ok (.putfield 9, 3) := by decide +kernel
theorem dX1_init_9 : decode cX1_init 9 = .ok (.aload_n 0, 1) := by decide +kernel
theorem dX1_init_10 : decode cX1_init 10 = .ok (.iload_n 2, 1) := by decide +kernel
theorem dX1_init_11 : decode cX1_init 11 = .ok (.putfield 15, 3) := by decide +kernel
theorem dX1_init_14 : decode cX1_init 14 = .ok (.return_, 1) := by decide +kernel
theorem dX1_kindNumber_0 : decode cX1_kindNumber 0 = .ok (.iconst 0, 1) := by decide +kernel
theorem dX1_kindNumber_1 : decode cX1_kindNumber 1 = .ok (.ireturn, 1) := by decide +kernel
theorem dX1_rentOf_0 : decode cX1_rentOf 0 = .ok (.aload_n 0, 1) := by decide +kernel
theorem dX1_rentOf_1 : decode cX1_rentOf 1 = .ok (.getfield 9, 3) := by decide +kernel
theorem dX1_rentOf_4 : decode cX1_rentOf 4 = .ok (.ireturn, 1) := by decide +kernel
theorem dX1_bodiesAsked_0 : decode cX1_bodiesAsked 0 = .ok (.iconst 1, 1) := by decide +kernel
theorem dX1_bodiesAsked_1 : decode cX1_bodiesAsked 1 = .ok (.ireturn, 1) := by decide +kernel
theorem dX2_init_0 : decode cX2_init 0 = .ok (.aload_n 0, 1) := by decide +kernel
theorem dX2_init_1 : decode cX2_init 1 = .ok (.invokespecial 3, 3) := by decide +kernel
theorem dX2_init_4 : decode cX2_init 4 = .ok (.aload_n 0, 1) := by decide +kernel
theorem dX2_init_5 : decode cX2_init 5 = .ok (.bipush 42, 2) := by decide +kernel
theorem dX2_init_7 : decode cX2_init 7 = .ok (.newarray .int, 2) := by decide +kernel
theorem dX2_init_9 : decode cX2_init 9 = .ok (.putfield 9, 3) := by decide +kernel
theorem dX2_init_12 : decode cX2_init 12 = .ok (.aload_n 0, 1) := by decide +kernel
theorem dX2_init_13 : decode cX2_init 13 = .ok (.bipush 42, 2) := by decide +kernel
theorem dX2_init_15 : decode cX2_init 15 = .ok (.newarray .int, 2) := by decide +kernel
theorem dX2_init_17 : decode cX2_init 17 = .ok (.putfield 15, 3) := by decide +kernel
theorem dX2_init_20 : decode cX2_init 20 = .ok (.return_, 1) := by decide +kernel
theorem dX2_clearAll_0 : decode cX2_clearAll 0 = .ok (.iconst 0, 1) := by decide +kernel
theorem dX2_clearAll_1 : decode cX2_clearAll 1 = .ok (.istore_n 1, 1) := by decide +kernel
theorem dX2_clearAll_2 : decode cX2_clearAll 2 = .ok (.iload_n 1, 1) := by decide +kernel
theorem dX2_clearAll_3 : decode cX2_clearAll 3 = .ok (.bipush 42, 2) := by decide +kernel
theorem dX2_clearAll_5 : decode cX2_clearAll 5 = .ok (.if_icmp .ge 23, 3) := by decide +kernel
theorem dX2_clearAll_8 : decode cX2_clearAll 8 = .ok (.aload_n 0, 1) := by decide +kernel
theorem dX2_clearAll_9 : decode cX2_clearAll 9 = .ok (.getfield 9, 3) := by decide +kernel
theorem dX2_clearAll_12 : decode cX2_clearAll 12 = .ok (.iload_n 1, 1) := by decide +kernel
theorem dX2_clearAll_13 : decode cX2_clearAll 13 = .ok (.iconst 0, 1) := by decide +kernel
theorem dX2_clearAll_14 : decode cX2_clearAll 14 = .ok (.iastore, 1) := by decide +kernel
theorem dX2_clearAll_15 : decode cX2_clearAll 15 = .ok (.aload_n 0, 1) := by decide +kernel
theorem dX2_clearAll_16 : decode cX2_clearAll 16 = .ok (.getfield 15, 3) := by decide +kernel
theorem dX2_clearAll_19 : decode cX2_clearAll 19 = .ok (.iload_n 1, 1) := by decide +kernel
theorem dX2_clearAll_20 : decode cX2_clearAll 20 = .ok (.iconst 0, 1) := by decide +kernel
theorem dX2_clearAll_21 : decode cX2_clearAll 21 = .ok (.iastore, 1) := by decide +kernel
theorem dX2_clearAll_22 : decode cX2_clearAll 22 = .ok (.iinc 1 1, 3) := by decide +kernel
theorem dX2_clearAll_25 : decode cX2_clearAll 25 = .ok (.goto (-23), 3) := by decide +kernel
theorem dX2_clearAll_28 : decode cX2_clearAll 28 = .ok (.return_, 1) := by decide +kernel
theorem dX2_replace_0 : decode cX2_replace 0 = .ok (.aload_n 0, 1) := by decide +kernel
theorem dX2_replace_1 : decode cX2_replace 1 = .ok (.iload_n 1, 1) := by decide +kernel
theorem dX2_replace_2 : decode cX2_replace 2 = .ok (.iaload, 1) := by decide +kernel
theorem dX2_replace_3 : decode cX2_replace 3 = .ok (.istore_n 3, 1) := by decide +kernel
theorem dX2_replace_4 : decode cX2_replace 4 = .ok (.aload_n 0, 1) := by decide +kernel
theorem dX2_replace_5 : decode cX2_replace 5 = .ok (.iload_n 1, 1) := by decide +kernel
theorem dX2_replace_6 : decode cX2_replace 6 = .ok (.iload_n 2, 1) := by decide +kernel
theorem dX2_replace_7 : decode cX2_replace 7 = .ok (.iastore, 1) := by decide +kernel
theorem dX2_replace_8 : decode cX2_replace 8 = .ok (.iload_n 3, 1) := by decide +kernel
theorem dX2_replace_9 : decode cX2_replace 9 = .ok (.ireturn, 1) := by decide +kernel
theorem dX2_total_0 : decode cX2_total 0 = .ok (.iconst 0, 1) := by decide +kernel
theorem dX2_total_1 : decode cX2_total 1 = .ok (.istore_n 1, 1) := by decide +kernel
theorem dX2_total_2 : decode cX2_total 2 = .ok (.aload_n 0, 1) := by decide +kernel
theorem dX2_total_3 : decode cX2_total 3 = .ok (.astore_n 2, 1) := by decide +kernel
theorem dX2_total_4 : decode cX2_total 4 = .ok (.aload_n 2, 1) := by decide +kernel
theorem dX2_total_5 : decode cX2_total 5 = .ok (.arraylength, 1) := by decide +kernel
theorem dX2_total_6 : decode cX2_total 6 = .ok (.istore_n 3, 1) := by decide +kernel
theorem dX2_total_7 : decode cX2_total 7 = .ok (.iconst 0, 1) := by decide +kernel
theorem dX2_total_8 : decode cX2_total 8 = .ok (.istore 4, 2) := by decide +kernel
theorem dX2_total_10 : decode cX2_total 10 = .ok (.iload 4, 2) := by decide +kernel
theorem dX2_total_12 : decode cX2_total 12 = .ok (.iload_n 3, 1) := by decide +kernel
theorem dX2_total_13 : decode cX2_total 13 = .ok (.if_icmp .ge 20, 3) := by decide +kernel
theorem dX2_total_16 : decode cX2_total 16 = .ok (.aload_n 2, 1) := by decide +kernel
theorem dX2_total_17 : decode cX2_total 17 = .ok (.iload 4, 2) := by decide +kernel
theorem dX2_total_19 : decode cX2_total 19 = .ok (.iaload, 1) := by decide +kernel
theorem dX2_total_20 : decode cX2_total 20 = .ok (.istore 5, 2) := by decide +kernel
theorem dX2_total_22 : decode cX2_total 22 = .ok (.iload_n 1, 1) := by decide +kernel
theorem dX2_total_23 : decode cX2_total 23 = .ok (.iload 5, 2) := by decide +kernel
theorem dX2_total_25 : decode cX2_total 25 = .ok (.iadd, 1) := by decide +kernel
theorem dX2_total_26 : decode cX2_total 26 = .ok (.istore_n 1, 1) := by decide +kernel
theorem dX2_total_27 : decode cX2_total 27 = .ok (.iinc 4 1, 3) := by decide +kernel
theorem dX2_total_30 : decode cX2_total 30 = .ok (.goto (-20), 3) := by decide +kernel
theorem dX2_total_33 : decode cX2_total 33 = .ok (.iload_n 1, 1) := by decide +kernel
theorem dX2_total_34 : decode cX2_total 34 = .ok (.ireturn, 1) := by decide +kernel
set_option maxRecDepth 20000 in
theorem ggX2_costsBy_X3_costOf : GoodIn wsX2_costsBy wsX3_costOf := goodIn_r _ [6, 7, 8, 9, 10, 11, 14, 15, 16, 17, 18, 19, 20, 21, 22] (by decide +kernel) (by decide +kernel)
set_option maxRecDepth 20000 in
theorem gX2_costsBy_X3_costOf : GoodIn wsX2_costsBy (wsV RX2 24 RX3 yX3_costOf wsX3_costOf) := goodIn_app (goodIn_of _ (by decide +kernel)) ggX2_costsBy_X3_costOf
theorem dX2_costsBy_0 : decode cX2_costsBy 0 = .ok (.lconst 0, 1) := by decide +kernel
theorem dX2_costsBy_1 : decode cX2_costsBy 1 = .ok (.lstore_n 3, 1) := by decide +kernel
theorem dX2_costsBy_2 : decode cX2_costsBy 2 = .ok (.iconst 1, 1) := by decide +kernel
theorem dX2_costsBy_3 : decode cX2_costsBy 3 = .ok (.istore 5, 2) := by decide +kernel
theorem dX2_costsBy_5 : decode cX2_costsBy 5 = .ok (.iload 5, 2) := by decide +kernel
theorem dX2_costsBy_7 : decode cX2_costsBy 7 = .ok (.aload_n 1, 1) := by decide +kernel
theorem dX2_costsBy_8 : decode cX2_costsBy 8 = .ok (.getfield 18, 3) := by decide +kernel
theorem dX2_costsBy_11 : decode cX2_costsBy 11 = .ok (.iconst 1, 1) := by decide +kernel
theorem dX2_costsBy_12 : decode cX2_costsBy 12 = .ok (.iadd, 1) := by decide +kernel
theorem dX2_costsBy_13 : decode cX2_costsBy 13 = .ok (.if_icmp .gt 29, 3) := by decide +kernel
theorem dX2_costsBy_16 : decode cX2_costsBy 16 = .ok (.lload_n 3, 1) := by decide +kernel
theorem dX2_costsBy_17 : decode cX2_costsBy 17 = .ok (.aload_n 0, 1) := by decide +kernel
theorem dX2_costsBy_18 : decode cX2_costsBy 18 = .ok (.getfield 9, 3) := by decide +kernel
theorem dX2_costsBy_21 : decode cX2_costsBy 21 = .ok (.iload 5, 2) := by decide +kernel
theorem dX2_costsBy_23 : decode cX2_costsBy 23 = .ok (.iaload, 1) := by decide +kernel
theorem dX2_costsBy_24 : decode cX2_costsBy 24 = .ok (.i2l, 1) := by decide +kernel
theorem dX2_costsBy_25 : decode cX2_costsBy 25 = .ok (.aload_n 1, 1) := by decide +kernel
theorem dX2_costsBy_26 : decode cX2_costsBy 26 = .ok (.iload 5, 2) := by decide +kernel
theorem dX2_costsBy_28 : decode cX2_costsBy 28 = .ok (.iload_n 2, 1) := by decide +kernel
theorem dX2_costsBy_29 : decode cX2_costsBy 29 = .ok (.invokevirtual 24, 3) := by decide +kernel
theorem dX2_costsBy_32 : decode cX2_costsBy 32 = .ok (.i2l, 1) := by decide +kernel
theorem dX2_costsBy_33 : decode cX2_costsBy 33 = .ok (.lmul, 1) := by decide +kernel
theorem dX2_costsBy_34 : decode cX2_costsBy 34 = .ok (.ladd, 1) := by decide +kernel
theorem dX2_costsBy_35 : decode cX2_costsBy 35 = .ok (.lstore_n 3, 1) := by decide +kernel
theorem dX2_costsBy_36 : decode cX2_costsBy 36 = .ok (.iinc 5 1, 3) := by decide +kernel
theorem dX2_costsBy_39 : decode cX2_costsBy 39 = .ok (.goto (-34), 3) := by decide +kernel
theorem dX2_costsBy_42 : decode cX2_costsBy 42 = .ok (.lload_n 3, 1) := by decide +kernel
theorem dX2_costsBy_43 : decode cX2_costsBy 43 = .ok (.lreturn, 1) := by decide +kernel
set_option maxRecDepth 20000 in
theorem ggX2_upperBound_X2_costsBy : GoodIn wsX2_upperBound wsX2_costsBy := goodIn_r _ [10, 11, 12, 13, 14, 15, 16, 17, 18, 32, 33, 34, 35, 36, 37, 38, 39, 40, 41, 42, 43, 44, 45] (by decide +kernel) (by decide +kernel)
set_option maxRecDepth 20000 in
theorem gX2_upperBound_X2_costsBy : GoodIn wsX2_upperBound (wsV RX2 28 RX2 yX2_costsBy wsX2_costsBy) := goodIn_app (goodIn_of _ (by decide +kernel)) ggX2_upperBound_X2_costsBy
set_option maxRecDepth 20000 in
theorem ggX2_upperBound_X3_knownBy : GoodIn wsX2_upperBound wsX3_knownBy := goodIn_r _ [22, 18, 17, 23, 24, 4, 25, 32, 33, 34, 37, 38, 39, 40, 41, 42, 43, 44, 45] (by decide +kernel) (by decide +kernel)
set_option maxRecDepth 20000 in
theorem gX2_upperBound_X3_knownBy : GoodIn wsX2_upperBound (wsV RX2 34 RX3 yX3_knownBy wsX3_knownBy) := goodIn_app (goodIn_of _ (by decide +kernel)) ggX2_upperBound_X3_knownBy
set_option maxRecDepth 20000 in
theorem ggX2_upperBound_X6_roundedUp : GoodIn wsX2_upperBound wsX6_roundedUp := goodIn_r _ [28, 29, 30, 27, 31] (by decide +kernel) (by decide +kernel)
set_option maxRecDepth 20000 in
theorem gX2_upperBound_X6_roundedUp_n38 : GoodIn wsX2_upperBound (wsX6_roundedUp) := ggX2_upperBound_X6_roundedUp
theorem dX2_upperBound_0 : decode cX2_upperBound 0 = .ok (.lconst 0, 1) := by decide +kernel
theorem dX2_upperBound_1 : decode cX2_upperBound 1 = .ok (.lstore_n 3, 1) := by decide +kernel
theorem dX2_upperBound_2 : decode cX2_upperBound 2 = .ok (.iconst 1, 1) := by decide +kernel
theorem dX2_upperBound_3 : decode cX2_upperBound 3 = .ok (.istore 5, 2) := by decide +kernel
theorem dX2_upperBound_5 : decode cX2_upperBound 5 = .ok (.iload 5, 2) := by decide +kernel
theorem dX2_upperBound_7 : decode cX2_upperBound 7 = .ok (.aload_n 1, 1) := by decide +kernel
theorem dX2_upperBound_8 : decode cX2_upperBound 8 = .ok (.getfield 18, 3) := by decide +kernel
theorem dX2_upperBound_11 : decode cX2_upperBound 11 = .ok (.if_icmp .gt 42, 3) := by decide +kernel
theorem dX2_upperBound_14 : decode cX2_upperBound 14 = .ok (.aload_n 0, 1) := by decide +kernel
theorem dX2_upperBound_15 : decode cX2_upperBound 15 = .ok (.aload_n 1, 1) := by decide +kernel
theorem dX2_upperBound_16 : decode cX2_upperBound 16 = .ok (.iload 5, 2) := by decide +kernel
theorem dX2_upperBound_18 : decode cX2_upperBound 18 = .ok (.invokevirtual 28, 3) := by decide +kernel
theorem dX2_upperBound_21 : decode cX2_upperBound 21 = .ok (.ldc2_w 32, 3) := by decide +kernel
theorem dX2_upperBound_24 : decode cX2_upperBound 24 = .ok (.lmul, 1) := by decide +kernel
theorem dX2_upperBound_25 : decode cX2_upperBound 25 = .ok (.aload_n 1, 1) := by decide +kernel
theorem dX2_upperBound_26 : decode cX2_upperBound 26 = .ok (.iload 5, 2) := by decide +kernel
theorem dX2_upperBound_28 : decode cX2_upperBound 28 = .ok (.invokevirtual 34, 3) := by decide +kernel
theorem dX2_upperBound_31 : decode cX2_upperBound 31 = .ok (.i2l, 1) := by decide +kernel
theorem dX2_upperBound_32 : decode cX2_upperBound 32 = .ok (.iload_n 2, 1) := by decide +kernel
theorem dX2_upperBound_33 : decode cX2_upperBound 33 = .ok (.i2l, 1) := by decide +kernel
theorem dX2_upperBound_34 : decode cX2_upperBound 34 = .ok (.lmul, 1) := by decide +kernel
theorem dX2_upperBound_35 : decode cX2_upperBound 35 = .ok (.invokestatic 38, 3) := by decide +kernel
theorem dX2_upperBound_38 : decode cX2_upperBound 38 = .ok (.lstore 6, 2) := by decide +kernel
theorem dX2_upperBound_40 : decode cX2_upperBound 40 = .ok (.lload_n 3, 1) := by decide +kernel
theorem dX2_upperBound_41 : decode cX2_upperBound 41 = .ok (.lload 6, 2) := by decide +kernel
theorem dX2_upperBound_43 : decode cX2_upperBound 43 = .ok (.invokestatic 42, 3) := by decide +kernel
theorem dX2_upperBound_46 : decode cX2_upperBound 46 = .ok (.lstore_n 3, 1) := by decide +kernel
theorem dX2_upperBound_47 : decode cX2_upperBound 47 = .ok (.iinc 5 1, 3) := by decide +kernel
theorem dX2_upperBound_50 : decode cX2_upperBound 50 = .ok (.goto (-45), 3) := by decide +kernel
theorem dX2_upperBound_53 : decode cX2_upperBound 53 = .ok (.lload_n 3, 1) := by decide +kernel
theorem dX2_upperBound_54 : decode cX2_upperBound 54 = .ok (.lreturn, 1) := by decide +kernel
set_option maxRecDepth 20000 in
theorem ggX2_lowerBound_X2_millionthsOf : GoodIn wsX2_lowerBound wsX2_millionthsOf := goodIn_r _ [10, 11, 12, 13, 14, 15, 16, 17, 18, 19, 20, 21, 22, 23, 24, 25, 3, 26, 27, 28, 29, 30, 31, 32, 33, 34, 35, 36, 37, 38, 39, 40, 41, 42, 43] (by decide +kernel) (by decide +kernel)
set_option maxRecDepth 20000 in
theorem gX2_lowerBound_X2_millionthsOf : GoodIn wsX2_lowerBound (wsV RX2 47 RX2 yX2_millionthsOf wsX2_millionthsOf) := goodIn_app (goodIn_of _ (by decide +kernel)) ggX2_lowerBound_X2_millionthsOf
set_option maxRecDepth 20000 in
theorem ggX2_lowerBound_X6_roundedDown : GoodIn wsX2_lowerBound wsX6_roundedDown := goodIn_r _ [29] (by decide +kernel) (by decide +kernel)
set_option maxRecDepth 20000 in
theorem gX2_lowerBound_X6_roundedDown_n53 : GoodIn wsX2_lowerBound (wsX6_roundedDown) := ggX2_lowerBound_X6_roundedDown
theorem dX2_lowerBound_0 : decode cX2_lowerBound 0 = .ok (.aload_n 0, 1) := by decide +kernel
theorem dX2_lowerBound_1 : decode cX2_lowerBound 1 = .ok (.aload_n 1, 1) := by decide +kernel
theorem dX2_lowerBound_2 : decode cX2_lowerBound 2 = .ok (.iconst 1, 1) := by decide +kernel
theorem dX2_lowerBound_3 : decode cX2_lowerBound 3 = .ok (.invokevirtual 47, 3) := by decide +kernel
theorem dX2_lowerBound_6 : decode cX2_lowerBound 6 = .ok (.lstore_n 3, 1) := by decide +kernel
theorem dX2_lowerBound_7 : decode cX2_lowerBound 7 = .ok (.iconst 2, 1) := by decide +kernel
theorem dX2_lowerBound_8 : decode cX2_lowerBound 8 = .ok (.istore 5, 2) := by decide +kernel
theorem dX2_lowerBound_10 : decode cX2_lowerBound 10 = .ok (.iload 5, 2) := by decide +kernel
theorem dX2_lowerBound_12 : decode cX2_lowerBound 12 = .ok (.aload_n 1, 1) := by decide +kernel
theorem dX2_lowerBound_13 : decode cX2_lowerBound 13 = .ok (.getfield 18, 3) := by decide +kernel
theorem dX2_lowerBound_16 : decode cX2_lowerBound 16 = .ok (.iconst 1, 1) := by decide +kernel
theorem dX2_lowerBound_17 : decode cX2_lowerBound 17 = .ok (.iadd, 1) := by decide +kernel
theorem dX2_lowerBound_18 : decode cX2_lowerBound 18 = .ok (.if_icmp .gt 21, 3) := by decide +kernel
theorem dX2_lowerBound_21 : decode cX2_lowerBound 21 = .ok (.lload_n 3, 1) := by decide +kernel
theorem dX2_lowerBound_22 : decode cX2_lowerBound 22 = .ok (.aload_n 0, 1) := by decide +kernel
theorem dX2_lowerBound_23 : decode cX2_lowerBound 23 = .ok (.aload_n 1, 1) := by decide +kernel
theorem dX2_lowerBound_24 : decode cX2_lowerBound 24 = .ok (.iload 5, 2) := by decide +kernel
theorem dX2_lowerBound_26 : decode cX2_lowerBound 26 = .ok (.invokevirtual 47, 3) := by decide +kernel
theorem dX2_lowerBound_29 : decode cX2_lowerBound 29 = .ok (.invokestatic 50, 3) := by decide +kernel
theorem dX2_lowerBound_32 : decode cX2_lowerBound 32 = .ok (.lstore_n 3, 1) := by decide +kernel
theorem dX2_lowerBound_33 : decode cX2_lowerBound 33 = .ok (.iinc 5 1, 3) := by decide +kernel
theorem dX2_lowerBound_36 : decode cX2_lowerBound 36 = .ok (.goto (-26), 3) := by decide +kernel
theorem dX2_lowerBound_39 : decode cX2_lowerBound 39 = .ok (.lload_n 3, 1) := by decide +kernel
theorem dX2_lowerBound_40 : decode cX2_lowerBound 40 = .ok (.iload_n 2, 1) := by decide +kernel
theorem dX2_lowerBound_41 : decode cX2_lowerBound 41 = .ok (.i2l, 1) := by decide +kernel
theorem dX2_lowerBound_42 : decode cX2_lowerBound 42 = .ok (.ldc2_w 32, 3) := by decide +kernel
theorem dX2_lowerBound_45 : decode cX2_lowerBound 45 = .ok (.lmul, 1) := by decide +kernel
theorem dX2_lowerBound_46 : decode cX2_lowerBound 46 = .ok (.invokestatic 53, 3) := by decide +kernel
theorem dX2_lowerBound_49 : decode cX2_lowerBound 49 = .ok (.lreturn, 1) := by decide +kernel
set_option maxRecDepth 20000 in
theorem ggX2_millionthsOf_X3_costOf : GoodIn wsX2_millionthsOf wsX3_costOf := goodIn_r _ [7, 8, 9, 21, 22, 23, 26, 27, 28, 29, 30, 31, 32, 33, 34] (by decide +kernel) (by decide +kernel)
set_option maxRecDepth 20000 in
theorem gX2_millionthsOf_X3_costOf : GoodIn wsX2_millionthsOf (wsV RX2 24 RX3 yX3_costOf wsX3_costOf) := goodIn_app (goodIn_of _ (by decide +kernel)) ggX2_millionthsOf_X3_costOf
set_option maxRecDepth 20000 in
theorem ggX2_millionthsOf_X3_knownBy : GoodIn wsX2_millionthsOf wsX3_knownBy := goodIn_r _ [13, 9, 8, 14, 15, 16, 17, 21, 22, 23, 26, 27, 28, 29, 30, 31, 32, 33, 34] (by decide +kernel) (by decide +kernel)
set_option maxRecDepth 20000 in
theorem gX2_millionthsOf_X3_knownBy : GoodIn wsX2_millionthsOf (wsV RX2 34 RX3 yX3_knownBy wsX3_knownBy) := goodIn_app (goodIn_of _ (by decide +kernel)) ggX2_millionthsOf_X3_knownBy
set_option maxRecDepth 20000 in
theorem ggX2_millionthsOf_X6_roundedDown : GoodIn wsX2_millionthsOf wsX6_roundedDown := goodIn_r _ [20] (by decide +kernel) (by decide +kernel)
set_option maxRecDepth 20000 in
theorem gX2_millionthsOf_X6_roundedDown_n53 : GoodIn wsX2_millionthsOf (wsX6_roundedDown) := ggX2_millionthsOf_X6_roundedDown
theorem dX2_millionthsOf_0 : decode cX2_millionthsOf 0 = .ok (.lconst 0, 1) := by decide +kernel
theorem dX2_millionthsOf_1 : decode cX2_millionthsOf 1 = .ok (.lstore_n 3, 1) := by decide +kernel
theorem dX2_millionthsOf_2 : decode cX2_millionthsOf 2 = .ok (.iconst 1, 1) := by decide +kernel
theorem dX2_millionthsOf_3 : decode cX2_millionthsOf 3 = .ok (.istore 5, 2) := by decide +kernel
theorem dX2_millionthsOf_5 : decode cX2_millionthsOf 5 = .ok (.iload 5, 2) := by decide +kernel
theorem dX2_millionthsOf_7 : decode cX2_millionthsOf 7 = .ok (.aload_n 1, 1) := by decide +kernel
theorem dX2_millionthsOf_8 : decode cX2_millionthsOf 8 = .ok (.getfield 18, 3) := by decide +kernel
theorem dX2_millionthsOf_11 : decode cX2_millionthsOf 11 = .ok (.if_icmp .gt 43, 3) := by decide +kernel
theorem dX2_millionthsOf_14 : decode cX2_millionthsOf 14 = .ok (.lload_n 3, 1) := by decide +kernel
theorem dX2_millionthsOf_15 : decode cX2_millionthsOf 15 = .ok (.aload_n 0, 1) := by decide +kernel
theorem dX2_millionthsOf_16 : decode cX2_millionthsOf 16 = .ok (.getfield 15, 3) := by decide +kernel
theorem dX2_millionthsOf_19 : decode cX2_millionthsOf 19 = .ok (.iload 5, 2) := by decide +kernel
theorem dX2_millionthsOf_21 : decode cX2_millionthsOf 21 = .ok (.iaload, 1) := by decide +kernel
theorem dX2_millionthsOf_22 : decode cX2_millionthsOf 22 = .ok (.i2l, 1) := by decide +kernel
theorem dX2_millionthsOf_23 : decode cX2_millionthsOf 23 = .ok (.aload_n 1, 1) := by decide +kernel
theorem dX2_millionthsOf_24 : decode cX2_millionthsOf 24 = .ok (.iload_n 2, 1) := by decide +kernel
theorem dX2_millionthsOf_25 : decode cX2_millionthsOf 25 = .ok (.iload 5, 2) := by decide +kernel
theorem dX2_millionthsOf_27 : decode cX2_millionthsOf 27 = .ok (.invokevirtual 24, 3) := by decide +kernel
theorem dX2_millionthsOf_30 : decode cX2_millionthsOf 30 = .ok (.i2l, 1) := by decide +kernel
theorem dX2_millionthsOf_31 : decode cX2_millionthsOf 31 = .ok (.ldc2_w 56, 3) := by decide +kernel
theorem dX2_millionthsOf_34 : decode cX2_millionthsOf 34 = .ok (.lmul, 1) := by decide +kernel
theorem dX2_millionthsOf_35 : decode cX2_millionthsOf 35 = .ok (.aload_n 1, 1) := by decide +kernel
theorem dX2_millionthsOf_36 : decode cX2_millionthsOf 36 = .ok (.iload 5, 2) := by decide +kernel
theorem dX2_millionthsOf_38 : decode cX2_millionthsOf 38 = .ok (.invokevirtual 34, 3) := by decide +kernel
theorem dX2_millionthsOf_41 : decode cX2_millionthsOf 41 = .ok (.i2l, 1) := by decide +kernel
theorem dX2_millionthsOf_42 : decode cX2_millionthsOf 42 = .ok (.invokestatic 53, 3) := by decide +kernel
theorem dX2_millionthsOf_45 : decode cX2_millionthsOf 45 = .ok (.lmul, 1) := by decide +kernel
theorem dX2_millionthsOf_46 : decode cX2_millionthsOf 46 = .ok (.ladd, 1) := by decide +kernel
theorem dX2_millionthsOf_47 : decode cX2_millionthsOf 47 = .ok (.lstore_n 3, 1) := by decide +kernel
theorem dX2_millionthsOf_48 : decode cX2_millionthsOf 48 = .ok (.iinc 5 1, 3) := by decide +kernel
theorem dX2_millionthsOf_51 : decode cX2_millionthsOf 51 = .ok (.goto (-46), 3) := by decide +kernel
theorem dX2_millionthsOf_54 : decode cX2_millionthsOf 54 = .ok (.lload_n 3, 1) := by decide +kernel
theorem dX2_millionthsOf_55 : decode cX2_millionthsOf 55 = .ok (.lreturn, 1) := by decide +kernel
set_option maxRecDepth 20000 in
theorem ggX3_init_X1_init : GoodIn wsX3_init wsX1_init := goodIn_r _ [13, 14, 2, 3, 15, 16, 22, 23, 24, 25, 20, 21, 26, 27, 28] (by decide +kernel) (by decide +kernel)
set_option maxRecDepth 20000 in
theorem gX3_init_X1_init : GoodIn wsX3_init (wsX1_init) := ggX3_init_X1_init
theorem dX3_init_0 : decode cX3_init 0 = .ok (.aload_n 0, 1) := by decide +kernel
theorem dX3_init_1 : decode cX3_init 1 = .ok (.invokespecial 3, 3) := by decide +kernel
theorem dX3_init_4 : decode cX3_init 4 = .ok (.aload_n 0, 1) := by decide +kernel
theorem dX3_init_5 : decode cX3_init 5 = .ok (.bipush 20, 2) := by decide +kernel
theorem dX3_init_7 : decode cX3_init 7 = .ok (.putfield 9, 3) := by decide +kernel
theorem dX3_init_10 : decode cX3_init 10 = .ok (.aload_n 0, 1) := by decide +kernel
theorem dX3_init_11 : decode cX3_init 11 = .ok (.new 15, 3) := by decide +kernel
theorem dX3_init_14 : decode cX3_init 14 = .ok (.dup, 1) := by decide +kernel
theorem dX3_init_15 : decode cX3_init 15 = .ok (.iconst 1, 1) := by decide +kernel
theorem dX3_init_16 : decode cX3_init 16 = .ok (.bipush 10, 2) := by decide +kernel
theorem dX3_init_18 : decode cX3_init 18 = .ok (.invokespecial 17, 3) := by decide +kernel
theorem dX3_init_21 : decode cX3_init 21 = .ok (.putfield 20, 3) := by decide +kernel
theorem dX3_init_24 : decode cX3_init 24 = .ok (.aload_n 0, 1) := by decide +kernel
theorem dX3_init_25 : decode cX3_init 25 = .ok (.bipush 41, 2) := by decide +kernel
theorem dX3_init_27 : decode cX3_init 27 = .ok (.newarray .int, 2) := by decide +kernel
theorem dX3_init_29 : decode cX3_init 29 = .ok (.putfield 24, 3) := by decide +kernel
theorem dX3_init_32 : decode cX3_init 32 = .ok (.iconst 1, 1) := by decide +kernel
theorem dX3_init_33 : decode cX3_init 33 = .ok (.istore_n 1, 1) := by decide +kernel
theorem dX3_init_34 : decode cX3_init 34 = .ok (.iload_n 1, 1) := by decide +kernel
theorem dX3_init_35 : decode cX3_init 35 = .ok (.bipush 40, 2) := by decide +kernel
theorem dX3_init_37 : decode cX3_init 37 = .ok (.if_icmp .gt 25, 3) := by decide +kernel
theorem dX3_init_40 : decode cX3_init 40 = .ok (.aload_n 0, 1) := by decide +kernel
theorem dX3_init_41 : decode cX3_init 41 = .ok (.getfield 24, 3) := by decide +kernel
theorem dX3_init_44 : decode cX3_init 44 = .ok (.iload_n 1, 1) := by decide +kernel
theorem dX3_init_45 : decode cX3_init 45 = .ok (.aload_n 0, 1) := by decide +kernel
theorem dX3_init_46 : decode cX3_init 46 = .ok (.getfield 24, 3) := by decide +kernel
theorem dX3_init_49 : decode cX3_init 49 = .ok (.iload_n 1, 1) := by decide +kernel
theorem dX3_init_50 : decode cX3_init 50 = .ok (.iconst 1, 1) := by decide +kernel
theorem dX3_init_51 : decode cX3_init 51 = .ok (.isub, 1) := by decide +kernel
theorem dX3_init_52 : decode cX3_init 52 = .ok (.iaload, 1) := by decide +kernel
theorem dX3_init_53 : decode cX3_init 53 = .ok (.iconst 1, 1) := by decide +kernel
theorem dX3_init_54 : decode cX3_init 54 = .ok (.iadd, 1) := by decide +kernel
theorem dX3_init_55 : decode cX3_init 55 = .ok (.iastore, 1) := by decide +kernel
theorem dX3_init_56 : decode cX3_init 56 = .ok (.iinc 1 1, 3) := by decide +kernel
theorem dX3_init_59 : decode cX3_init 59 = .ok (.goto (-25), 3) := by decide +kernel
theorem dX3_init_62 : decode cX3_init 62 = .ok (.return_, 1) := by decide +kernel
set_option maxRecDepth 20000 in
theorem ggX3_take_X0_rentOf : GoodIn wsX3_take wsX0_rentOf := goodIn_r _ [9, 10, 11, 12, 13, 14, 15, 16, 17, 18, 19, 20, 21, 22, 4, 23, 24, 25, 26, 27, 34, 35, 36, 37, 38, 39, 40, 41, 42] (by decide +kernel) (by decide +kernel)
set_option maxRecDepth 20000 in
theorem gX3_take_X0_rentOf_u28X0 : GoodIn wsX3_take (va_wsO RX3 28 RX0 "RentOrBuy$Flat" ⟨"RentOrBuy$Flat", "rentOf", "(I)I"⟩ yX0_rentOf wsX0_rentOf) := goodIn_app (goodIn_of _ (by decide +kernel)) ggX3_take_X0_rentOf
set_option maxRecDepth 20000 in
theorem ggX3_take_X1_rentOf : GoodIn wsX3_take wsX1_rentOf := goodIn_r _ [26, 27, 34, 35, 36, 37, 41, 42, 38, 39, 40] (by decide +kernel) (by decide +kernel)
set_option maxRecDepth 20000 in
theorem gX3_take_X1_rentOf : GoodIn wsX3_take (wsV RX3 28 RX1 yX1_rentOf wsX1_rentOf) := goodIn_app (goodIn_of _ (by decide +kernel)) ggX3_take_X1_rentOf
set_option maxRecDepth 20000 in
theorem ggX3_take_X4_rentOf : GoodIn wsX3_take wsX4_rentOf := goodIn_r _ [20, 21, 22, 4, 23, 24, 25, 26, 27, 34, 35, 36, 37, 38, 39, 40, 41, 42] (by decide +kernel) (by decide +kernel)
set_option maxRecDepth 20000 in
theorem gX3_take_X4_rentOf_u28X4 : GoodIn wsX3_take (va_wsO RX3 28 RX4 "RentOrBuy$Flat" ⟨"RentOrBuy$Flat", "rentOf", "(I)I"⟩ yX4_rentOf wsX4_rentOf) := goodIn_app (goodIn_of _ (by decide +kernel)) ggX3_take_X4_rentOf
theorem dX3_take_0 : decode cX3_take 0 = .ok (.aload_n 0, 1) := by decide +kernel
theorem dX3_take_1 : decode cX3_take 1 = .ok (.aload_n 1, 1) := by decide +kernel
theorem dX3_take_2 : decode cX3_take 2 = .ok (.putfield 20, 3) := by decide +kernel
theorem dX3_take_5 : decode cX3_take 5 = .ok (.iconst 1, 1) := by decide +kernel
theorem dX3_take_6 : decode cX3_take 6 = .ok (.istore_n 2, 1) := by decide +kernel
theorem dX3_take_7 : decode cX3_take 7 = .ok (.iload_n 2, 1) := by decide +kernel
theorem dX3_take_8 : decode cX3_take 8 = .ok (.bipush 40, 2) := by decide +kernel
theorem dX3_take_10 : decode cX3_take 10 = .ok (.if_icmp .gt 29, 3) := by decide +kernel
theorem dX3_take_13 : decode cX3_take 13 = .ok (.aload_n 0, 1) := by decide +kernel
theorem dX3_take_14 : decode cX3_take 14 = .ok (.getfield 24, 3) := by decide +kernel
theorem dX3_take_17 : decode cX3_take 17 = .ok (.iload_n 2, 1) := by decide +kernel
theorem dX3_take_18 : decode cX3_take 18 = .ok (.aload_n 0, 1) := by decide +kernel
theorem dX3_take_19 : decode cX3_take 19 = .ok (.getfield 24, 3) := by decide +kernel
theorem dX3_take_22 : decode cX3_take 22 = .ok (.iload_n 2, 1) := by decide +kernel
theorem dX3_take_23 : decode cX3_take 23 = .ok (.iconst 1, 1) := by decide +kernel
theorem dX3_take_24 : decode cX3_take 24 = .ok (.isub, 1) := by decide +kernel
theorem dX3_take_25 : decode cX3_take 25 = .ok (.iaload, 1) := by decide +kernel
theorem dX3_take_26 : decode cX3_take 26 = .ok (.aload_n 1, 1) := by decide +kernel
theorem dX3_take_27 : decode cX3_take 27 = .ok (.iload_n 2, 1) := by decide +kernel
theorem dX3_take_28 : decode cX3_take 28 = .ok (.invokevirtual 28, 3) := by decide +kernel
theorem dX3_take_31 : decode cX3_take 31 = .ok (.iadd, 1) := by decide +kernel
theorem dX3_take_32 : decode cX3_take 32 = .ok (.iastore, 1) := by decide +kernel
theorem dX3_take_33 : decode cX3_take 33 = .ok (.iinc 2 1, 3) := by decide +kernel
theorem dX3_take_36 : decode cX3_take 36 = .ok (.goto (-29), 3) := by decide +kernel
theorem dX3_take_39 : decode cX3_take 39 = .ok (.return_, 1) := by decide +kernel
set_option maxRecDepth 20000 in
theorem ggX3_isPlan_X6_isWithin : GoodIn wsX3_isPlan wsX6_isWithin := goodIn_r _ [4] (by decide +kernel) (by decide +kernel)
set_option maxRecDepth 20000 in
theorem gX3_isPlan_X6_isWithin_n32 : GoodIn wsX3_isPlan (wsX6_isWithin) := ggX3_isPlan_X6_isWithin
theorem dX3_isPlan_0 : decode cX3_isPlan 0 = .ok (.iload_n 1, 1) := by decide +kernel
theorem dX3_isPlan_1 : decode cX3_isPlan 1 = .ok (.iconst 1, 1) := by decide +kernel
theorem dX3_isPlan_2 : decode cX3_isPlan 2 = .ok (.aload_n 0, 1) := by decide +kernel
theorem dX3_isPlan_3 : decode cX3_isPlan 3 = .ok (.getfield 9, 3) := by decide +kernel
theorem dX3_isPlan_6 : decode cX3_isPlan 6 = .ok (.iconst 1, 1) := by decide +kernel
theorem dX3_isPlan_7 : decode cX3_isPlan 7 = .ok (.iadd, 1) := by decide +kernel
theorem dX3_isPlan_8 : decode cX3_isPlan 8 = .ok (.invokestatic 32, 3) := by decide +kernel
theorem dX3_isPlan_11 : decode cX3_isPlan 11 = .ok (.ireturn, 1) := by decide +kernel
set_option maxRecDepth 20000 in
theorem ggX3_isEnd_X6_isWithin : GoodIn wsX3_isEnd wsX6_isWithin := goodIn_r _ [4] (by decide +kernel) (by decide +kernel)
set_option maxRecDepth 20000 in
theorem gX3_isEnd_X6_isWithin_n32 : GoodIn wsX3_isEnd (wsX6_isWithin) := ggX3_isEnd_X6_isWithin
theorem dX3_isEnd_0 : decode cX3_isEnd 0 = .ok (.iload_n 1, 1) := by decide +kernel
theorem dX3_isEnd_1 : decode cX3_isEnd 1 = .ok (.iconst 1, 1) := by decide +kernel
theorem dX3_isEnd_2 : decode cX3_isEnd 2 = .ok (.aload_n 0, 1) := by decide +kernel
theorem dX3_isEnd_3 : decode cX3_isEnd 3 = .ok (.getfield 9, 3) := by decide +kernel
theorem dX3_isEnd_6 : decode cX3_isEnd 6 = .ok (.invokestatic 32, 3) := by decide +kernel
theorem dX3_isEnd_9 : decode cX3_isEnd 9 = .ok (.ireturn, 1) := by decide +kernel
theorem dX3_costOf_0 : decode cX3_costOf 0 = .ok (.iload_n 1, 1) := by decide +kernel
theorem dX3_costOf_1 : decode cX3_costOf 1 = .ok (.iload_n 2, 1) := by decide +kernel
theorem dX3_costOf_2 : decode cX3_costOf 2 = .ok (.if_icmp .gt 22, 3) := by decide +kernel
theorem dX3_costOf_5 : decode cX3_costOf 5 = .ok (.aload_n 0, 1) := by decide +kernel
theorem dX3_costOf_6 : decode cX3_costOf 6 = .ok (.getfield 24, 3) := by decide +kernel
theorem dX3_costOf_9 : decode cX3_costOf 9 = .ok (.iload_n 1, 1) := by decide +kernel
theorem dX3_costOf_10 : decode cX3_costOf 10 = .ok (.iconst 1, 1) := by decide +kernel
theorem dX3_costOf_11 : decode cX3_costOf 11 = .ok (.isub, 1) := by decide +kernel
theorem dX3_costOf_12 : decode cX3_costOf 12 = .ok (.iaload, 1) := by decide +kernel
theorem dX3_costOf_13 : decode cX3_costOf 13 = .ok (.aload_n 0, 1) := by decide +kernel
theorem dX3_costOf_14 : decode cX3_costOf 14 = .ok (.getfield 20, 3) := by decide +kernel
theorem dX3_costOf_17 : decode cX3_costOf 17 = .ok (.getfield 36, 3) := by decide +kernel
theorem dX3_costOf_20 : decode cX3_costOf 20 = .ok (.iadd, 1) := by decide +kernel
theorem dX3_costOf_21 : decode cX3_costOf 21 = .ok (.goto 9, 3) := by decide +kernel
theorem dX3_costOf_24 : decode cX3_costOf 24 = .ok (.aload_n 0, 1) := by decide +kernel
theorem dX3_costOf_25 : decode cX3_costOf 25 = .ok (.getfield 24, 3) := by decide +kernel
theorem dX3_costOf_28 : decode cX3_costOf 28 = .ok (.iload_n 2, 1) := by decide +kernel
theorem dX3_costOf_29 : decode cX3_costOf 29 = .ok (.iaload, 1) := by decide +kernel
theorem dX3_costOf_30 : decode cX3_costOf 30 = .ok (.ireturn, 1) := by decide +kernel
theorem dX3_knownBy_0 : decode cX3_knownBy 0 = .ok (.aload_n 0, 1) := by decide +kernel
theorem dX3_knownBy_1 : decode cX3_knownBy 1 = .ok (.getfield 20, 3) := by decide +kernel
theorem dX3_knownBy_4 : decode cX3_knownBy 4 = .ok (.getfield 36, 3) := by decide +kernel
theorem dX3_knownBy_7 : decode cX3_knownBy 7 = .ok (.aload_n 0, 1) := by decide +kernel
theorem dX3_knownBy_8 : decode cX3_knownBy 8 = .ok (.getfield 24, 3) := by decide +kernel
theorem dX3_knownBy_11 : decode cX3_knownBy 11 = .ok (.iload_n 1, 1) := by decide +kernel
theorem dX3_knownBy_12 : decode cX3_knownBy 12 = .ok (.iaload, 1) := by decide +kernel
theorem dX3_knownBy_13 : decode cX3_knownBy 13 = .ok (.invokestatic 39, 3) := by decide +kernel
theorem dX3_knownBy_16 : decode cX3_knownBy 16 = .ok (.ireturn, 1) := by decide +kernel
set_option maxRecDepth 20000 in
theorem ggX3_ratioPart_X3_costOf : GoodIn wsX3_ratioPart wsX3_costOf := goodIn_r _ [5, 6, 7, 25, 26, 27, 28, 29, 30, 31, 32, 33, 34, 35, 36] (by decide +kernel) (by decide +kernel)
set_option maxRecDepth 20000 in
theorem gX3_ratioPart_X3_costOf : GoodIn wsX3_ratioPart (wsV RX3 45 RX3 yX3_costOf wsX3_costOf) := goodIn_app (goodIn_of _ (by decide +kernel)) ggX3_ratioPart_X3_costOf
set_option maxRecDepth 20000 in
theorem ggX3_ratioPart_X3_knownBy : GoodIn wsX3_ratioPart wsX3_knownBy := goodIn_r _ [11, 7, 6, 12, 13, 14, 15, 25, 26, 27, 28, 29, 30, 31, 32, 33, 34, 35, 36] (by decide +kernel) (by decide +kernel)
set_option maxRecDepth 20000 in
theorem gX3_ratioPart_X3_knownBy : GoodIn wsX3_ratioPart (wsV RX3 48 RX3 yX3_knownBy wsX3_knownBy) := goodIn_app (goodIn_of _ (by decide +kernel)) ggX3_ratioPart_X3_knownBy
set_option maxRecDepth 20000 in
theorem ggX3_ratioPart_X6_leastForm : GoodIn wsX3_ratioPart wsX6_leastForm := goodIn_r _ [18, 19, 20, 17, 21, 22, 23, 24] (by decide +kernel) (by decide +kernel)
set_option maxRecDepth 20000 in
theorem gX3_ratioPart_X6_leastForm_n51 : GoodIn wsX3_ratioPart (wsX6_leastForm) := ggX3_ratioPart_X6_leastForm
theorem dX3_ratioPart_0 : decode cX3_ratioPart 0 = .ok (.aload_n 0, 1) := by decide +kernel
theorem dX3_ratioPart_1 : decode cX3_ratioPart 1 = .ok (.iload_n 1, 1) := by decide +kernel
theorem dX3_ratioPart_2 : decode cX3_ratioPart 2 = .ok (.iload_n 2, 1) := by decide +kernel
theorem dX3_ratioPart_3 : decode cX3_ratioPart 3 = .ok (.invokevirtual 45, 3) := by decide +kernel
theorem dX3_ratioPart_6 : decode cX3_ratioPart 6 = .ok (.i2l, 1) := by decide +kernel
theorem dX3_ratioPart_7 : decode cX3_ratioPart 7 = .ok (.aload_n 0, 1) := by decide +kernel
theorem dX3_ratioPart_8 : decode cX3_ratioPart 8 = .ok (.iload_n 2, 1) := by decide +kernel
theorem dX3_ratioPart_9 : decode cX3_ratioPart 9 = .ok (.invokevirtual 48, 3) := by decide +kernel
theorem dX3_ratioPart_12 : decode cX3_ratioPart 12 = .ok (.i2l, 1) := by decide +kernel
theorem dX3_ratioPart_13 : decode cX3_ratioPart 13 = .ok (.iload_n 3, 1) := by decide +kernel
theorem dX3_ratioPart_14 : decode cX3_ratioPart 14 = .ok (.invokestatic 51, 3) := by decide +kernel
theorem dX3_ratioPart_17 : decode cX3_ratioPart 17 = .ok (.l2i, 1) := by decide +kernel
theorem dX3_ratioPart_18 : decode cX3_ratioPart 18 = .ok (.ireturn, 1) := by decide +kernel
set_option maxRecDepth 20000 in
theorem ggX3_isRatioGreater_X3_costOf : GoodIn wsX3_isRatioGreater wsX3_costOf := goodIn_r _ [5, 6, 7, 16, 17, 18, 19, 20, 21, 22, 23, 24, 25, 26, 27] (by decide +kernel) (by decide +kernel)
set_option maxRecDepth 20000 in
theorem gX3_isRatioGreater_X3_costOf : GoodIn wsX3_isRatioGreater (wsV RX3 45 RX3 yX3_costOf wsX3_costOf) := goodIn_app (goodIn_of _ (by decide +kernel)) ggX3_isRatioGreater_X3_costOf
set_option maxRecDepth 20000 in
theorem ggX3_isRatioGreater_X3_knownBy : GoodIn wsX3_isRatioGreater wsX3_knownBy := goodIn_r _ [11, 7, 6, 12, 13, 14, 15, 16, 17, 18, 19, 20, 21, 22, 23, 24, 25, 26, 27] (by decide +kernel) (by decide +kernel)
set_option maxRecDepth 20000 in
theorem gX3_isRatioGreater_X3_knownBy : GoodIn wsX3_isRatioGreater (wsV RX3 48 RX3 yX3_knownBy wsX3_knownBy) := goodIn_app (goodIn_of _ (by decide +kernel)) ggX3_isRatioGreater_X3_knownBy
theorem dX3_isRatioGreater_0 : decode cX3_isRatioGreater 0 = .ok (.aload_n 0, 1) := by decide +kernel
theorem dX3_isRatioGreater_1 : decode cX3_isRatioGreater 1 = .ok (.iload_n 1, 1) := by decide +kernel
theorem dX3_isRatioGreater_2 : decode cX3_isRatioGreater 2 = .ok (.iload_n 2, 1) := by decide +kernel
theorem dX3_isRatioGreater_3 : decode cX3_isRatioGreater 3 = .ok (.invokevirtual 45, 3) := by decide +kernel
theorem dX3_isRatioGreater_6 : decode cX3_isRatioGreater 6 = .ok (.i2l, 1) := by decide +kernel
theorem dX3_isRatioGreater_7 : decode cX3_isRatioGreater 7 = .ok (.aload_n 0, 1) := by decide +kernel
theorem dX3_isRatioGreater_8 : decode cX3_isRatioGreater 8 = .ok (.iload 4, 2) := by decide +kernel
theorem dX3_isRatioGreater_10 : decode cX3_isRatioGreater 10 = .ok (.invokevirtual 48, 3) := by decide +kernel
theorem dX3_isRatioGreater_13 : decode cX3_isRatioGreater 13 = .ok (.i2l, 1) := by decide +kernel
theorem dX3_isRatioGreater_14 : decode cX3_isRatioGreater 14 = .ok (.lmul, 1) := by decide +kernel
theorem dX3_isRatioGreater_15 : decode cX3_isRatioGreater 15 = .ok (.aload_n 0, 1) := by decide +kernel
theorem dX3_isRatioGreater_16 : decode cX3_isRatioGreater 16 = .ok (.iload_n 3, 1) := by decide +kernel
theorem dX3_isRatioGreater_17 : decode cX3_isRatioGreater 17 = .ok (.iload 4, 2) := by decide +kernel
theorem dX3_isRatioGreater_19 : decode cX3_isRatioGreater 19 = .ok (.invokevirtual 45, 3) := by decide +kernel
theorem dX3_isRatioGreater_22 : decode cX3_isRatioGreater 22 = .ok (.i2l, 1) := by decide +kernel
theorem dX3_isRatioGreater_23 : decode cX3_isRatioGreater 23 = .ok (.aload_n 0, 1) := by decide +kernel
theorem dX3_isRatioGreater_24 : decode cX3_isRatioGreater 24 = .ok (.iload_n 2, 1) := by decide +kernel
theorem dX3_isRatioGreater_25 : decode cX3_isRatioGreater 25 = .ok (.invokevirtual 48, 3) := by decide +kernel
theorem dX3_isRatioGreater_28 : decode cX3_isRatioGreater 28 = .ok (.i2l, 1) := by decide +kernel
theorem dX3_isRatioGreater_29 : decode cX3_isRatioGreater 29 = .ok (.lmul, 1) := by decide +kernel
theorem dX3_isRatioGreater_30 : decode cX3_isRatioGreater 30 = .ok (.lcmp, 1) := by decide +kernel
theorem dX3_isRatioGreater_31 : decode cX3_isRatioGreater 31 = .ok (.ifCond .le 7, 3) := by decide +kernel
theorem dX3_isRatioGreater_34 : decode cX3_isRatioGreater 34 = .ok (.iconst 1, 1) := by decide +kernel
theorem dX3_isRatioGreater_35 : decode cX3_isRatioGreater 35 = .ok (.goto 4, 3) := by decide +kernel
theorem dX3_isRatioGreater_38 : decode cX3_isRatioGreater 38 = .ok (.iconst 0, 1) := by decide +kernel
theorem dX3_isRatioGreater_39 : decode cX3_isRatioGreater 39 = .ok (.ireturn, 1) := by decide +kernel
set_option maxRecDepth 20000 in
theorem ggX3_worstEnd_X3_isRatioGreater : GoodIn wsX3_worstEnd wsX3_isRatioGreater := goodIn_r _ [6, 7, 8, 9, 5, 10, 11, 12, 13, 14, 15, 16, 17, 18, 19, 20, 21, 22, 23, 24, 25, 26, 27, 28, 29, 30, 31, 32] (by decide +kernel) (by decide +kernel)
set_option maxRecDepth 20000 in
theorem gX3_worstEnd_X3_isRatioGreater : GoodIn wsX3_worstEnd (wsV RX3 55 RX3 yX3_isRatioGreater wsX3_isRatioGreater) := goodIn_app (goodIn_of _ (by decide +kernel)) ggX3_worstEnd_X3_isRatioGreater
theorem dX3_worstEnd_0 : decode cX3_worstEnd 0 = .ok (.iconst 1, 1) := by decide +kernel
theorem dX3_worstEnd_1 : decode cX3_worstEnd 1 = .ok (.istore_n 2, 1) := by decide +kernel
theorem dX3_worstEnd_2 : decode cX3_worstEnd 2 = .ok (.iconst 2, 1) := by decide +kernel
theorem dX3_worstEnd_3 : decode cX3_worstEnd 3 = .ok (.istore_n 3, 1) := by decide +kernel
theorem dX3_worstEnd_4 : decode cX3_worstEnd 4 = .ok (.iload_n 3, 1) := by decide +kernel
theorem dX3_worstEnd_5 : decode cX3_worstEnd 5 = .ok (.aload_n 0, 1) := by decide +kernel
theorem dX3_worstEnd_6 : decode cX3_worstEnd 6 = .ok (.getfield 9, 3) := by decide +kernel
theorem dX3_worstEnd_9 : decode cX3_worstEnd 9 = .ok (.if_icmp .gt 22, 3) := by decide +kernel
theorem dX3_worstEnd_12 : decode cX3_worstEnd 12 = .ok (.aload_n 0, 1) := by decide +kernel
theorem dX3_worstEnd_13 : decode cX3_worstEnd 13 = .ok (.iload_n 1, 1) := by decide +kernel
theorem dX3_worstEnd_14 : decode cX3_worstEnd 14 = .ok (.iload_n 3, 1) := by decide +kernel
theorem dX3_worstEnd_15 : decode cX3_worstEnd 15 = .ok (.iload_n 1, 1) := by decide +kernel
theorem dX3_worstEnd_16 : decode cX3_worstEnd 16 = .ok (.iload_n 2, 1) := by decide +kernel
theorem dX3_worstEnd_17 : decode cX3_worstEnd 17 = .ok (.invokevirtual 55, 3) := by decide +kernel
theorem dX3_worstEnd_20 : decode cX3_worstEnd 20 = .ok (.ifCond .eq 5, 3) := by decide +kernel
theorem dX3_worstEnd_23 : decode cX3_worstEnd 23 = .ok (.iload_n 3, 1) := by decide +kernel
theorem dX3_worstEnd_24 : decode cX3_worstEnd 24 = .ok (.istore_n 2, 1) := by decide +kernel
theorem dX3_worstEnd_25 : decode cX3_worstEnd 25 = .ok (.iinc 3 1, 3) := by decide +kernel
theorem dX3_worstEnd_28 : decode cX3_worstEnd 28 = .ok (.goto (-24), 3) := by decide +kernel
theorem dX3_worstEnd_31 : decode cX3_worstEnd 31 = .ok (.iload_n 2, 1) := by decide +kernel
theorem dX3_worstEnd_32 : decode cX3_worstEnd 32 = .ok (.ireturn, 1) := by decide +kernel
set_option maxRecDepth 20000 in
theorem ggX3_surePlan_X3_worstEnd : GoodIn wsX3_surePlan wsX3_worstEnd := goodIn_r _ [6, 1, 7, 8, 9, 5, 10, 11, 12, 13, 14, 15, 16, 17, 18, 19, 20, 21, 22, 23, 24, 25, 26, 27, 28, 29, 30, 31, 32, 33, 34, 35, 36] (by decide +kernel) (by decide +kernel)
set_option maxRecDepth 20000 in
theorem gX3_surePlan_X3_worstEnd : GoodIn wsX3_surePlan (wsV RX3 59 RX3 yX3_worstEnd wsX3_worstEnd) := goodIn_app (goodIn_of _ (by decide +kernel)) ggX3_surePlan_X3_worstEnd
set_option maxRecDepth 20000 in
theorem ggX3_surePlan_X3_isRatioGreater : GoodIn wsX3_surePlan wsX3_isRatioGreater := goodIn_r _ [10, 11, 12, 13, 5, 14, 15, 16, 17, 18, 19, 20, 21, 22, 23, 24, 25, 26, 27, 28, 29, 30, 31, 32, 33, 34, 35, 36] (by decide +kernel) (by decide +kernel)
set_option maxRecDepth 20000 in
theorem gX3_surePlan_X3_isRatioGreater : GoodIn wsX3_surePlan (wsV RX3 55 RX3 yX3_isRatioGreater wsX3_isRatioGreater) := goodIn_app (goodIn_of _ (by decide +kernel)) ggX3_surePlan_X3_isRatioGreater
theorem dX3_surePlan_0 : decode cX3_surePlan 0 = .ok (.iconst 1, 1) := by decide +kernel
theorem dX3_surePlan_1 : decode cX3_surePlan 1 = .ok (.istore_n 1, 1) := by decide +kernel
theorem dX3_surePlan_2 : decode cX3_surePlan 2 = .ok (.aload_n 0, 1) := by decide +kernel
theorem dX3_surePlan_3 : decode cX3_surePlan 3 = .ok (.iconst 1, 1) := by decide +kernel
theorem dX3_surePlan_4 : decode cX3_surePlan 4 = .ok (.invokevirtual 59, 3) := by decide +kernel
theorem dX3_surePlan_7 : decode cX3_surePlan 7 = .ok (.istore_n 2, 1) := by decide +kernel
theorem dX3_surePlan_8 : decode cX3_surePlan 8 = .ok (.iconst 2, 1) := by decide +kernel
theorem dX3_surePlan_9 : decode cX3_surePlan 9 = .ok (.istore_n 3, 1) := by decide +kernel
theorem dX3_surePlan_10 : decode cX3_surePlan 10 = .ok (.iload_n 3, 1) := by decide +kernel
theorem dX3_surePlan_11 : decode cX3_surePlan 11 = .ok (.aload_n 0, 1) := by decide +kernel
theorem dX3_surePlan_12 : decode cX3_surePlan 12 = .ok (.getfield 9, 3) := by decide +kernel
theorem dX3_surePlan_15 : decode cX3_surePlan 15 = .ok (.iconst 1, 1) := by decide +kernel
theorem dX3_surePlan_16 : decode cX3_surePlan 16 = .ok (.iadd, 1) := by decide +kernel
theorem dX3_surePlan_17 : decode cX3_surePlan 17 = .ok (.if_icmp .gt 33, 3) := by decide +kernel
theorem dX3_surePlan_20 : decode cX3_surePlan 20 = .ok (.aload_n 0, 1) := by decide +kernel
theorem dX3_surePlan_21 : decode cX3_surePlan 21 = .ok (.iload_n 3, 1) := by decide +kernel
theorem dX3_surePlan_22 : decode cX3_surePlan 22 = .ok (.invokevirtual 59, 3) := by decide +kernel
theorem dX3_surePlan_25 : decode cX3_surePlan 25 = .ok (.istore 4, 2) := by decide +kernel
theorem dX3_surePlan_27 : decode cX3_surePlan 27 = .ok (.aload_n 0, 1) := by decide +kernel
theorem dX3_surePlan_28 : decode cX3_surePlan 28 = .ok (.iload_n 1, 1) := by decide +kernel
theorem dX3_surePlan_29 : decode cX3_surePlan 29 = .ok (.iload_n 2, 1) := by decide +kernel
theorem dX3_surePlan_30 : decode cX3_surePlan 30 = .ok (.iload_n 3, 1) := by decide +kernel
theorem dX3_surePlan_31 : decode cX3_surePlan 31 = .ok (.iload 4, 2) := by decide +kernel
theorem dX3_surePlan_33 : decode cX3_surePlan 33 = .ok (.invokevirtual 55, 3) := by decide +kernel
theorem dX3_surePlan_36 : decode cX3_surePlan 36 = .ok (.ifCond .eq 8, 3) := by decide +kernel
theorem dX3_surePlan_39 : decode cX3_surePlan 39 = .ok (.iload_n 3, 1) := by decide +kernel
theorem dX3_surePlan_40 : decode cX3_surePlan 40 = .ok (.istore_n 1, 1) := by decide +kernel
theorem dX3_surePlan_41 : decode cX3_surePlan 41 = .ok (.iload 4, 2) := by decide +kernel
theorem dX3_surePlan_43 : decode cX3_surePlan 43 = .ok (.istore_n 2, 1) := by decide +kernel
theorem dX3_surePlan_44 : decode cX3_surePlan 44 = .ok (.iinc 3 1, 3) := by decide +kernel
theorem dX3_surePlan_47 : decode cX3_surePlan 47 = .ok (.goto (-37), 3) := by decide +kernel
theorem dX3_surePlan_50 : decode cX3_surePlan 50 = .ok (.iload_n 1, 1) := by decide +kernel
theorem dX3_surePlan_51 : decode cX3_surePlan 51 = .ok (.ireturn, 1) := by decide +kernel
set_option maxRecDepth 20000 in
theorem ggX3_planByGuess_X3_surePlan : GoodIn wsX3_planByGuess wsX3_surePlan := goodIn_r _ [12, 3, 13, 14, 15, 11, 16, 17, 18, 19, 20, 21, 22, 23, 24, 1, 25, 26, 27, 28, 29, 30, 31, 6, 32, 39, 40, 41, 42, 43, 44, 45, 46, 47, 48, 49, 50] (by decide +kernel) (by decide +kernel)
set_option maxRecDepth 20000 in
theorem gX3_planByGuess_X3_surePlan : GoodIn wsX3_planByGuess (wsV RX3 62 RX3 yX3_surePlan wsX3_surePlan) := goodIn_app (goodIn_of _ (by decide +kernel)) ggX3_planByGuess_X3_surePlan
set_option maxRecDepth 20000 in
theorem ggX3_planByGuess_X3_costOf : GoodIn wsX3_planByGuess wsX3_costOf := goodIn_r _ [24, 1, 25, 39, 40, 41, 42, 43, 44, 45, 46, 47, 48, 49, 50] (by decide +kernel) (by decide +kernel)
set_option maxRecDepth 20000 in
theorem gX3_planByGuess_X3_costOf : GoodIn wsX3_planByGuess (wsV RX3 45 RX3 yX3_costOf wsX3_costOf) := goodIn_app (goodIn_of _ (by decide +kernel)) ggX3_planByGuess_X3_costOf
set_option maxRecDepth 20000 in
theorem ggX3_planByGuess_X6_roundedUp : GoodIn wsX3_planByGuess wsX6_roundedUp := goodIn_r _ [35, 36, 37, 34, 38] (by decide +kernel) (by decide +kernel)
set_option maxRecDepth 20000 in
theorem gX3_planByGuess_X6_roundedUp_n68 : GoodIn wsX3_planByGuess (wsX6_roundedUp) := ggX3_planByGuess_X6_roundedUp
set_option maxRecDepth 20000 in
theorem ggX3_planByGuess_X6_roundedDown : GoodIn wsX3_planByGuess wsX6_roundedDown := goodIn_r _ [38] (by decide +kernel) (by decide +kernel)
set_option maxRecDepth 20000 in
theorem gX3_planByGuess_X6_roundedDown_n72 : GoodIn wsX3_planByGuess (wsX6_roundedDown) := ggX3_planByGuess_X6_roundedDown
theorem dX3_planByGuess_0 : decode cX3_planByGuess 0 = .ok (.aload_n 0, 1) := by decide +kernel
theorem dX3_planByGuess_1 : decode cX3_planByGuess 1 = .ok (.invokevirtual 62, 3) := by decide +kernel
theorem dX3_planByGuess_4 : decode cX3_planByGuess 4 = .ok (.istore_n 3, 1) := by decide +kernel
theorem dX3_planByGuess_5 : decode cX3_planByGuess 5 = .ok (.aload_n 0, 1) := by decide +kernel
theorem dX3_planByGuess_6 : decode cX3_planByGuess 6 = .ok (.iconst 1, 1) := by decide +kernel
theorem dX3_planByGuess_7 : decode cX3_planByGuess 7 = .ok (.iload_n 1, 1) := by decide +kernel
theorem dX3_planByGuess_8 : decode cX3_planByGuess 8 = .ok (.invokevirtual 45, 3) := by decide +kernel
theorem dX3_planByGuess_11 : decode cX3_planByGuess 11 = .ok (.aload_n 0, 1) := by decide +kernel
theorem dX3_planByGuess_12 : decode cX3_planByGuess 12 = .ok (.getfield 24, 3) := by decide +kernel
theorem dX3_planByGuess_15 : decode cX3_planByGuess 15 = .ok (.iload_n 1, 1) := by decide +kernel
theorem dX3_planByGuess_16 : decode cX3_planByGuess 16 = .ok (.iaload, 1) := by decide +kernel
theorem dX3_planByGuess_17 : decode cX3_planByGuess 17 = .ok (.if_icmp .ge 16, 3) := by decide +kernel
theorem dX3_planByGuess_20 : decode cX3_planByGuess 20 = .ok (.iload_n 3, 1) := by decide +kernel
theorem dX3_planByGuess_21 : decode cX3_planByGuess 21 = .ok (.i2l, 1) := by decide +kernel
theorem dX3_planByGuess_22 : decode cX3_planByGuess 22 = .ok (.iload_n 2, 1) := by decide +kernel
theorem dX3_planByGuess_23 : decode cX3_planByGuess 23 = .ok (.i2l, 1) := by decide +kernel
theorem dX3_planByGuess_24 : decode cX3_planByGuess 24 = .ok (.lmul, 1) := by decide +kernel
theorem dX3_planByGuess_25 : decode cX3_planByGuess 25 = .ok (.ldc2_w 66, 3) := by decide +kernel
theorem dX3_planByGuess_28 : decode cX3_planByGuess 28 = .ok (.invokestatic 68, 3) := by decide +kernel
theorem dX3_planByGuess_31 : decode cX3_planByGuess 31 = .ok (.l2i, 1) := by decide +kernel
theorem dX3_planByGuess_32 : decode cX3_planByGuess 32 = .ok (.ireturn, 1) := by decide +kernel
theorem dX3_planByGuess_33 : decode cX3_planByGuess 33 = .ok (.iload_n 3, 1) := by decide +kernel
theorem dX3_planByGuess_34 : decode cX3_planByGuess 34 = .ok (.i2l, 1) := by decide +kernel
theorem dX3_planByGuess_35 : decode cX3_planByGuess 35 = .ok (.ldc2_w 66, 3) := by decide +kernel
theorem dX3_planByGuess_38 : decode cX3_planByGuess 38 = .ok (.lmul, 1) := by decide +kernel
theorem dX3_planByGuess_39 : decode cX3_planByGuess 39 = .ok (.iload_n 2, 1) := by decide +kernel
theorem dX3_planByGuess_40 : decode cX3_planByGuess 40 = .ok (.i2l, 1) := by decide +kernel
theorem dX3_planByGuess_41 : decode cX3_planByGuess 41 = .ok (.invokestatic 72, 3) := by decide +kernel
theorem dX3_planByGuess_44 : decode cX3_planByGuess 44 = .ok (.aload_n 0, 1) := by decide +kernel
theorem dX3_planByGuess_45 : decode cX3_planByGuess 45 = .ok (.getfield 9, 3) := by decide +kernel
theorem dX3_planByGuess_48 : decode cX3_planByGuess 48 = .ok (.iconst 1, 1) := by decide +kernel
theorem dX3_planByGuess_49 : decode cX3_planByGuess 49 = .ok (.iadd, 1) := by decide +kernel
theorem dX3_planByGuess_50 : decode cX3_planByGuess 50 = .ok (.i2l, 1) := by decide +kernel
theorem dX3_planByGuess_51 : decode cX3_planByGuess 51 = .ok (.invokestatic 75, 3) := by decide +kernel
theorem dX3_planByGuess_54 : decode cX3_planByGuess 54 = .ok (.l2i, 1) := by decide +kernel
theorem dX3_planByGuess_55 : decode cX3_planByGuess 55 = .ok (.ireturn, 1) := by decide +kernel
set_option maxRecDepth 20000 in
theorem ggX4_init_X1_init : GoodIn wsX4_init wsX1_init := goodIn_r _ [5, 6, 7, 8, 9, 10, 11, 12, 13, 14, 18, 19, 15, 16, 17] (by decide +kernel) (by decide +kernel)
set_option maxRecDepth 20000 in
theorem gX4_init_X1_init : GoodIn wsX4_init (wsX1_init) := ggX4_init_X1_init
theorem dX4_init_0 : decode cX4_init 0 = .ok (.aload_n 0, 1) := by decide +kernel
theorem dX4_init_1 : decode cX4_init 1 = .ok (.iload_n 1, 1) := by decide +kernel
theorem dX4_init_2 : decode cX4_init 2 = .ok (.iload_n 3, 1) := by decide +kernel
theorem dX4_init_3 : decode cX4_init 3 = .ok (.invokespecial 3, 3) := by decide +kernel
theorem dX4_init_6 : decode cX4_init 6 = .ok (.aload_n 0, 1) := by decide +kernel
theorem dX4_init_7 : decode cX4_init 7 = .ok (.iload_n 2, 1) := by decide +kernel
theorem dX4_init_8 : decode cX4_init 8 = .ok (.putfield 9, 3) := by decide +kernel
theorem dX4_init_11 : decode cX4_init 11 = .ok (.return_, 1) := by decide +kernel
theorem dX4_kindNumber_0 : decode cX4_kindNumber 0 = .ok (.iconst 1, 1) := by decide +kernel
theorem dX4_kindNumber_1 : decode cX4_kindNumber 1 = .ok (.ireturn, 1) := by decide +kernel
set_option maxRecDepth 20000 in
theorem ggX4_rentOf_X1_rentOf : GoodIn wsX4_rentOf wsX1_rentOf := goodIn_r _ [7, 8, 9, 10, 11, 12, 16, 17, 13, 14, 15] (by decide +kernel) (by decide +kernel)
set_option maxRecDepth 20000 in
theorem gX4_rentOf_X1_rentOf_s15 : GoodIn wsX4_rentOf (va_wsSU RX4 15 yX1_rentOf wsX1_rentOf) := goodIn_app (goodIn_of _ (by decide +kernel)) ggX4_rentOf_X1_rentOf
theorem dX4_rentOf_0 : decode cX4_rentOf 0 = .ok (.aload_n 0, 1) := by decide +kernel
theorem dX4_rentOf_1 : decode cX4_rentOf 1 = .ok (.iload_n 1, 1) := by decide +kernel
theorem dX4_rentOf_2 : decode cX4_rentOf 2 = .ok (.invokespecial 15, 3) := by decide +kernel
theorem dX4_rentOf_5 : decode cX4_rentOf 5 = .ok (.aload_n 0, 1) := by decide +kernel
theorem dX4_rentOf_6 : decode cX4_rentOf 6 = .ok (.getfield 9, 3) := by decide +kernel
theorem dX4_rentOf_9 : decode cX4_rentOf 9 = .ok (.iload_n 1, 1) := by decide +kernel
theorem dX4_rentOf_10 : decode cX4_rentOf 10 = .ok (.iconst 1, 1) := by decide +kernel
theorem dX4_rentOf_11 : decode cX4_rentOf 11 = .ok (.isub, 1) := by decide +kernel
theorem dX4_rentOf_12 : decode cX4_rentOf 12 = .ok (.imul, 1) := by decide +kernel
theorem dX4_rentOf_13 : decode cX4_rentOf 13 = .ok (.iadd, 1) := by decide +kernel
theorem dX4_rentOf_14 : decode cX4_rentOf 14 = .ok (.ireturn, 1) := by decide +kernel
set_option maxRecDepth 20000 in
theorem ggX4_bodiesAsked_X1_bodiesAsked : GoodIn wsX4_bodiesAsked wsX1_bodiesAsked := goodIn_r _ [6] (by decide +kernel) (by decide +kernel)
set_option maxRecDepth 20000 in
theorem gX4_bodiesAsked_X1_bodiesAsked_s19 : GoodIn wsX4_bodiesAsked (va_wsSU RX4 19 yX1_bodiesAsked wsX1_bodiesAsked) := goodIn_app (goodIn_of _ (by decide +kernel)) ggX4_bodiesAsked_X1_bodiesAsked
theorem dX4_bodiesAsked_0 : decode cX4_bodiesAsked 0 = .ok (.aload_n 0, 1) := by decide +kernel
theorem dX4_bodiesAsked_1 : decode cX4_bodiesAsked 1 = .ok (.invokespecial 19, 3) := by decide +kernel
theorem dX4_bodiesAsked_4 : decode cX4_bodiesAsked 4 = .ok (.bipush 10, 2) := by decide +kernel
theorem dX4_bodiesAsked_6 : decode cX4_bodiesAsked 6 = .ok (.iadd, 1) := by decide +kernel
theorem dX4_bodiesAsked_7 : decode cX4_bodiesAsked 7 = .ok (.ireturn, 1) := by decide +kernel
set_option maxRecDepth 20000 in
theorem ggX5_init_X5_findOrders : GoodIn wsX5_init wsX5_findOrders := goodIn_r _ [14, 15, 6, 16, 17, 18, 13, 19, 8, 20, 21, 22, 23, 24, 25, 26, 27, 28] (by decide +kernel) (by decide +kernel)
set_option maxRecDepth 20000 in
theorem gX5_init_X5_findOrders : GoodIn wsX5_init (wsV RX5 28 RX5 yX5_findOrders wsX5_findOrders) := goodIn_app (goodIn_of _ (by decide +kernel)) ggX5_init_X5_findOrders
theorem dX5_init_0 : decode cX5_init 0 = .ok (.aload_n 0, 1) := by decide +kernel
theorem dX5_init_1 : decode cX5_init 1 = .ok (.invokespecial 3, 3) := by decide +kernel
theorem dX5_init_4 : decode cX5_init 4 = .ok (.aload_n 0, 1) := by decide +kernel
theorem dX5_init_5 : decode cX5_init 5 = .ok (.bipush 16, 2) := by decide +kernel
theorem dX5_init_7 : decode cX5_init 7 = .ok (.newarray .int, 2) := by decide +kernel
theorem dX5_init_9 : decode cX5_init 9 = .ok (.putfield 9, 3) := by decide +kernel
theorem dX5_init_12 : decode cX5_init 12 = .ok (.aload_n 0, 1) := by decide +kernel
theorem dX5_init_13 : decode cX5_init 13 = .ok (.bipush 24, 2) := by decide +kernel
theorem dX5_init_15 : decode cX5_init 15 = .ok (.newarray .int, 2) := by decide +kernel
theorem dX5_init_17 : decode cX5_init 17 = .ok (.putfield 15, 3) := by decide +kernel
theorem dX5_init_20 : decode cX5_init 20 = .ok (.aload_n 0, 1) := by decide +kernel
theorem dX5_init_21 : decode cX5_init 21 = .ok (.sipush 256, 3) := by decide +kernel
theorem dX5_init_24 : decode cX5_init 24 = .ok (.newarray .int, 2) := by decide +kernel
theorem dX5_init_26 : decode cX5_init 26 = .ok (.putfield 18, 3) := by decide +kernel
theorem dX5_init_29 : decode cX5_init 29 = .ok (.aload_n 0, 1) := by decide +kernel
theorem dX5_init_30 : decode cX5_init 30 = .ok (.iconst 3, 1) := by decide +kernel
theorem dX5_init_31 : decode cX5_init 31 = .ok (.putfield 21, 3) := by decide +kernel
theorem dX5_init_34 : decode cX5_init 34 = .ok (.aload_n 0, 1) := by decide +kernel
theorem dX5_init_35 : decode cX5_init 35 = .ok (.iconst 0, 1) := by decide +kernel
theorem dX5_init_36 : decode cX5_init 36 = .ok (.putfield 25, 3) := by decide +kernel
theorem dX5_init_39 : decode cX5_init 39 = .ok (.aload_n 0, 1) := by decide +kernel
theorem dX5_init_40 : decode cX5_init 40 = .ok (.invokevirtual 28, 3) := by decide +kernel
theorem dX5_init_43 : decode cX5_init 43 = .ok (.return_, 1) := by decide +kernel
set_option maxRecDepth 20000 in
theorem ggX5_restart_X5_findOrders : GoodIn wsX5_restart wsX5_findOrders := goodIn_r _ [7, 8, 9, 10, 11, 12, 6, 13, 1, 14, 15, 16, 17, 18, 19, 20, 21, 22] (by decide +kernel) (by decide +kernel)
set_option maxRecDepth 20000 in
theorem gX5_restart_X5_findOrders : GoodIn wsX5_restart (wsV RX5 28 RX5 yX5_findOrders wsX5_findOrders) := goodIn_app (goodIn_of _ (by decide +kernel)) ggX5_restart_X5_findOrders
theorem dX5_restart_0 : decode cX5_restart 0 = .ok (.aload_n 0, 1) := by decide +kernel
theorem dX5_restart_1 : decode cX5_restart 1 = .ok (.iload_n 1, 1) := by decide +kernel
theorem dX5_restart_2 : decode cX5_restart 2 = .ok (.putfield 21, 3) := by decide +kernel
theorem dX5_restart_5 : decode cX5_restart 5 = .ok (.aload_n 0, 1) := by decide +kernel
theorem dX5_restart_6 : decode cX5_restart 6 = .ok (.iconst 0, 1) := by decide +kernel
theorem dX5_restart_7 : decode cX5_restart 7 = .ok (.putfield 25, 3) := by decide +kernel
theorem dX5_restart_10 : decode cX5_restart 10 = .ok (.aload_n 0, 1) := by decide +kernel
theorem dX5_restart_11 : decode cX5_restart 11 = .ok (.invokevirtual 28, 3) := by decide +kernel
theorem dX5_restart_14 : decode cX5_restart 14 = .ok (.return_, 1) := by decide +kernel
set_option maxRecDepth 20000 in
theorem ggX5_findOrders_X5_isOrder : GoodIn wsX5_findOrders wsX5_isOrder := goodIn_r _ [7, 8, 9, 10, 6, 11, 12, 13, 14, 15, 16, 17] (by decide +kernel) (by decide +kernel)
set_option maxRecDepth 20000 in
theorem gX5_findOrders_X5_isOrder : GoodIn wsX5_findOrders (wsV RX5 34 RX5 yX5_isOrder wsX5_isOrder) := goodIn_app (goodIn_of _ (by decide +kernel)) ggX5_findOrders_X5_isOrder
theorem dX5_findOrders_0 : decode cX5_findOrders 0 = .ok (.aload_n 0, 1) := by decide +kernel
theorem dX5_findOrders_1 : decode cX5_findOrders 1 = .ok (.iconst 0, 1) := by decide +kernel
theorem dX5_findOrders_2 : decode cX5_findOrders 2 = .ok (.putfield 31, 3) := by decide +kernel
theorem dX5_findOrders_5 : decode cX5_findOrders 5 = .ok (.iconst 0, 1) := by decide +kernel
theorem dX5_findOrders_6 : decode cX5_findOrders 6 = .ok (.istore_n 1, 1) := by decide +kernel
theorem dX5_findOrders_7 : decode cX5_findOrders 7 = .ok (.iload_n 1, 1) := by decide +kernel
theorem dX5_findOrders_8 : decode cX5_findOrders 8 = .ok (.sipush 256, 3) := by decide +kernel
theorem dX5_findOrders_11 : decode cX5_findOrders 11 = .ok (.if_icmp .ge 46, 3) := by decide +kernel
theorem dX5_findOrders_14 : decode cX5_findOrders 14 = .ok (.aload_n 0, 1) := by decide +kernel
theorem dX5_findOrders_15 : decode cX5_findOrders 15 = .ok (.getfield 31, 3) := by decide +kernel
theorem dX5_findOrders_18 : decode cX5_findOrders 18 = .ok (.bipush 24, 2) := by decide +kernel
theorem dX5_findOrders_20 : decode cX5_findOrders 20 = .ok (.if_icmp .ge 37, 3) := by decide +kernel
theorem dX5_findOrders_23 : decode cX5_findOrders 23 = .ok (.aload_n 0, 1) := by decide +kernel
theorem dX5_findOrders_24 : decode cX5_findOrders 24 = .ok (.iload_n 1, 1) := by decide +kernel
theorem dX5_findOrders_25 : decode cX5_findOrders 25 = .ok (.invokevirtual 34, 3) := by decide +kernel
theorem dX5_findOrders_28 : decode cX5_findOrders 28 = .ok (.ifCond .eq 23, 3) := by decide +kernel
theorem dX5_findOrders_31 : decode cX5_findOrders 31 = .ok (.aload_n 0, 1) := by decide +kernel
theorem dX5_findOrders_32 : decode cX5_findOrders 32 = .ok (.getfield 15, 3) := by decide +kernel
theorem dX5_findOrders_35 : decode cX5_findOrders 35 = .ok (.aload_n 0, 1) := by decide +kernel
theorem dX5_findOrders_36 : decode cX5_findOrders 36 = .ok (.getfield 31, 3) := by decide +kernel
theorem dX5_findOrders_39 : decode cX5_findOrders 39 = .ok (.iload_n 1, 1) := by decide +kernel
theorem dX5_findOrders_40 : decode cX5_findOrders 40 = .ok (.iastore, 1) := by decide +kernel
theorem dX5_findOrders_41 : decode cX5_findOrders 41 = .ok (.aload_n 0, 1) := by decide +kernel
theorem dX5_findOrders_42 : decode cX5_findOrders 42 = .ok (.dup, 1) := by decide +kernel
theorem dX5_findOrders_43 : decode cX5_findOrders 43 = .ok (.getfield 31, 3) := by decide +kernel
theorem dX5_findOrders_46 : decode cX5_findOrders 46 = .ok (.iconst 1, 1) := by decide +kernel
theorem dX5_findOrders_47 : decode cX5_findOrders 47 = .ok (.iadd, 1) := by decide +kernel
theorem dX5_findOrders_48 : decode cX5_findOrders 48 = .ok (.putfield 31, 3) := by decide +kernel
theorem dX5_findOrders_51 : decode cX5_findOrders 51 = .ok (.iinc 1 1, 3) := by decide +kernel
theorem dX5_findOrders_54 : decode cX5_findOrders 54 = .ok (.goto (-47), 3) := by decide +kernel
theorem dX5_findOrders_57 : decode cX5_findOrders 57 = .ok (.return_, 1) := by decide +kernel
set_option maxRecDepth 20000 in
theorem ggX5_isOrder_X5_thingAt : GoodIn wsX5_isOrder wsX5_thingAt := goodIn_r _ [5] (by decide +kernel) (by decide +kernel)
set_option maxRecDepth 20000 in
theorem gX5_isOrder_X5_thingAt : GoodIn wsX5_isOrder (va_wsS RX5 38 yX5_thingAt wsX5_thingAt) := goodIn_app (goodIn_of _ (by decide +kernel)) ggX5_isOrder_X5_thingAt
theorem dX5_isOrder_0 : decode cX5_isOrder 0 = .ok (.iconst 0, 1) := by decide +kernel
theorem dX5_isOrder_1 : decode cX5_isOrder 1 = .ok (.istore_n 2, 1) := by decide +kernel
theorem dX5_isOrder_2 : decode cX5_isOrder 2 = .ok (.iconst 0, 1) := by decide +kernel
theorem dX5_isOrder_3 : decode cX5_isOrder 3 = .ok (.istore_n 3, 1) := by decide +kernel
theorem dX5_isOrder_4 : decode cX5_isOrder 4 = .ok (.iload_n 3, 1) := by decide +kernel
theorem dX5_isOrder_5 : decode cX5_isOrder 5 = .ok (.aload_n 0, 1) := by decide +kernel
theorem dX5_isOrder_6 : decode cX5_isOrder 6 = .ok (.getfield 21, 3) := by decide +kernel
theorem dX5_isOrder_9 : decode cX5_isOrder 9 = .ok (.if_icmp .ge 19, 3) := by decide +kernel
theorem dX5_isOrder_12 : decode cX5_isOrder 12 = .ok (.iload_n 2, 1) := by decide +kernel
theorem dX5_isOrder_13 : decode cX5_isOrder 13 = .ok (.iconst 1, 1) := by decide +kernel
theorem dX5_isOrder_14 : decode cX5_isOrder 14 = .ok (.iload_n 1, 1) := by decide +kernel
theorem dX5_isOrder_15 : decode cX5_isOrder 15 = .ok (.iload_n 3, 1) := by decide +kernel
theorem dX5_isOrder_16 : decode cX5_isOrder 16 = .ok (.invokestatic 38, 3) := by decide +kernel
theorem dX5_isOrder_19 : decode cX5_isOrder 19 = .ok (.ishl, 1) := by decide +kernel
theorem dX5_isOrder_20 : decode cX5_isOrder 20 = .ok (.ior, 1) := by decide +kernel
theorem dX5_isOrder_21 : decode cX5_isOrder 21 = .ok (.istore_n 2, 1) := by decide +kernel
theorem dX5_isOrder_22 : decode cX5_isOrder 22 = .ok (.iinc 3 1, 3) := by decide +kernel
theorem dX5_isOrder_25 : decode cX5_isOrder 25 = .ok (.goto (-21), 3) := by decide +kernel
theorem dX5_isOrder_28 : decode cX5_isOrder 28 = .ok (.iload_n 2, 1) := by decide +kernel
theorem dX5_isOrder_29 : decode cX5_isOrder 29 = .ok (.iconst 1, 1) := by decide +kernel
theorem dX5_isOrder_30 : decode cX5_isOrder 30 = .ok (.aload_n 0, 1) := by decide +kernel
theorem dX5_isOrder_31 : decode cX5_isOrder 31 = .ok (.getfield 21, 3) := by decide +kernel
theorem dX5_isOrder_34 : decode cX5_isOrder 34 = .ok (.ishl, 1) := by decide +kernel
theorem dX5_isOrder_35 : decode cX5_isOrder 35 = .ok (.iconst 1, 1) := by decide +kernel
theorem dX5_isOrder_36 : decode cX5_isOrder 36 = .ok (.isub, 1) := by decide +kernel
theorem dX5_isOrder_37 : decode cX5_isOrder 37 = .ok (.if_icmp .ne 18, 3) := by decide +kernel
theorem dX5_isOrder_40 : decode cX5_isOrder 40 = .ok (.iload_n 1, 1) := by decide +kernel
theorem dX5_isOrder_41 : decode cX5_isOrder 41 = .ok (.iconst 2, 1) := by decide +kernel
theorem dX5_isOrder_42 : decode cX5_isOrder 42 = .ok (.aload_n 0, 1) := by decide +kernel
theorem dX5_isOrder_43 : decode cX5_isOrder 43 = .ok (.getfield 21, 3) := by decide +kernel
theorem dX5_isOrder_46 : decode cX5_isOrder 46 = .ok (.imul, 1) := by decide +kernel
theorem dX5_isOrder_47 : decode cX5_isOrder 47 = .ok (.ishr, 1) := by decide +kernel
theorem dX5_isOrder_48 : decode cX5_isOrder 48 = .ok (.ifCond .ne 7, 3) := by decide +kernel
theorem dX5_isOrder_51 : decode cX5_isOrder 51 = .ok (.iconst 1, 1) := by decide +kernel
theorem dX5_isOrder_52 : decode cX5_isOrder 52 = .ok (.goto 4, 3) := by decide +kernel
theorem dX5_isOrder_55 : decode cX5_isOrder 55 = .ok (.iconst 0, 1) := by decide +kernel
theorem dX5_isOrder_56 : decode cX5_isOrder 56 = .ok (.ireturn, 1) := by decide +kernel
theorem dX5_firstOrder_0 : decode cX5_firstOrder 0 = .ok (.iconst 0, 1) := by decide +kernel
theorem dX5_firstOrder_1 : decode cX5_firstOrder 1 = .ok (.istore_n 1, 1) := by decide +kernel
theorem dX5_firstOrder_2 : decode cX5_firstOrder 2 = .ok (.iconst 0, 1) := by decide +kernel
theorem dX5_firstOrder_3 : decode cX5_firstOrder 3 = .ok (.istore_n 2, 1) := by decide +kernel
theorem dX5_firstOrder_4 : decode cX5_firstOrder 4 = .ok (.iload_n 2, 1) := by decide +kernel
theorem dX5_firstOrder_5 : decode cX5_firstOrder 5 = .ok (.aload_n 0, 1) := by decide +kernel
theorem dX5_firstOrder_6 : decode cX5_firstOrder 6 = .ok (.getfield 21, 3) := by decide +kernel
theorem dX5_firstOrder_9 : decode cX5_firstOrder 9 = .ok (.if_icmp .ge 17, 3) := by decide +kernel
theorem dX5_firstOrder_12 : decode cX5_firstOrder 12 = .ok (.iload_n 1, 1) := by decide +kernel
theorem dX5_firstOrder_13 : decode cX5_firstOrder 13 = .ok (.iload_n 2, 1) := by decide +kernel
theorem dX5_firstOrder_14 : decode cX5_firstOrder 14 = .ok (.iconst 2, 1) := by decide +kernel
theorem dX5_firstOrder_15 : decode cX5_firstOrder 15 = .ok (.iload_n 2, 1) := by decide +kernel
theorem dX5_firstOrder_16 : decode cX5_firstOrder 16 = .ok (.imul, 1) := by decide +kernel
theorem dX5_firstOrder_17 : decode cX5_firstOrder 17 = .ok (.ishl, 1) := by decide +kernel
theorem dX5_firstOrder_18 : decode cX5_firstOrder 18 = .ok (.ior, 1) := by decide +kernel
theorem dX5_firstOrder_19 : decode cX5_firstOrder 19 = .ok (.istore_n 1, 1) := by decide +kernel
theorem dX5_firstOrder_20 : decode cX5_firstOrder 20 = .ok (.iinc 2 1, 3) := by decide +kernel
theorem dX5_firstOrder_23 : decode cX5_firstOrder 23 = .ok (.goto (-19), 3) := by decide +kernel
theorem dX5_firstOrder_26 : decode cX5_firstOrder 26 = .ok (.iload_n 1, 1) := by decide +kernel
theorem dX5_firstOrder_27 : decode cX5_firstOrder 27 = .ok (.ireturn, 1) := by decide +kernel
theorem dX5_thingAt_0 : decode cX5_thingAt 0 = .ok (.iload_n 0, 1) := by decide +kernel
theorem dX5_thingAt_1 : decode cX5_thingAt 1 = .ok (.iconst 2, 1) := by decide +kernel
theorem dX5_thingAt_2 : decode cX5_thingAt 2 = .ok (.iload_n 1, 1) := by decide +kernel
theorem dX5_thingAt_3 : decode cX5_thingAt 3 = .ok (.imul, 1) := by decide +kernel
theorem dX5_thingAt_4 : decode cX5_thingAt 4 = .ok (.ishr, 1) := by decide +kernel
theorem dX5_thingAt_5 : decode cX5_thingAt 5 = .ok (.iconst 3, 1) := by decide +kernel
theorem dX5_thingAt_6 : decode cX5_thingAt 6 = .ok (.iand, 1) := by decide +kernel
theorem dX5_thingAt_7 : decode cX5_thingAt 7 = .ok (.ireturn, 1) := by decide +kernel
set_option maxRecDepth 20000 in
theorem ggX5_placeOf_X5_thingAt : GoodIn wsX5_placeOf wsX5_thingAt := goodIn_r _ [5] (by decide +kernel) (by decide +kernel)
set_option maxRecDepth 20000 in
theorem gX5_placeOf_X5_thingAt : GoodIn wsX5_placeOf (va_wsS RX5 38 yX5_thingAt wsX5_thingAt) := goodIn_app (goodIn_of _ (by decide +kernel)) ggX5_placeOf_X5_thingAt
theorem dX5_placeOf_0 : decode cX5_placeOf 0 = .ok (.iconst 0, 1) := by decide +kernel
theorem dX5_placeOf_1 : decode cX5_placeOf 1 = .ok (.istore_n 3, 1) := by decide +kernel
theorem dX5_placeOf_2 : decode cX5_placeOf 2 = .ok (.iload_n 3, 1) := by decide +kernel
theorem dX5_placeOf_3 : decode cX5_placeOf 3 = .ok (.aload_n 0, 1) := by decide +kernel
theorem dX5_placeOf_4 : decode cX5_placeOf 4 = .ok (.getfield 21, 3) := by decide +kernel
theorem dX5_placeOf_7 : decode cX5_placeOf 7 = .ok (.iconst 1, 1) := by decide +kernel
theorem dX5_placeOf_8 : decode cX5_placeOf 8 = .ok (.isub, 1) := by decide +kernel
theorem dX5_placeOf_9 : decode cX5_placeOf 9 = .ok (.if_icmp .ge 18, 3) := by decide +kernel
theorem dX5_placeOf_12 : decode cX5_placeOf 12 = .ok (.iload_n 1, 1) := by decide +kernel
theorem dX5_placeOf_13 : decode cX5_placeOf 13 = .ok (.iload_n 3, 1) := by decide +kernel
theorem dX5_placeOf_14 : decode cX5_placeOf 14 = .ok (.invokestatic 38, 3) := by decide +kernel
theorem dX5_placeOf_17 : decode cX5_placeOf 17 = .ok (.iload_n 2, 1) := by decide +kernel
theorem dX5_placeOf_18 : decode cX5_placeOf 18 = .ok (.if_icmp .eq 9, 3) := by decide +kernel
theorem dX5_placeOf_21 : decode cX5_placeOf 21 = .ok (.iinc 3 1, 3) := by decide +kernel
theorem dX5_placeOf_24 : decode cX5_placeOf 24 = .ok (.goto (-22), 3) := by decide +kernel
theorem dX5_placeOf_27 : decode cX5_placeOf 27 = .ok (.iload_n 3, 1) := by decide +kernel
theorem dX5_placeOf_28 : decode cX5_placeOf 28 = .ok (.ireturn, 1) := by decide +kernel
set_option maxRecDepth 20000 in
theorem ggX5_exchanged_X5_thingAt : GoodIn wsX5_exchanged wsX5_thingAt := goodIn_r _ [4] (by decide +kernel) (by decide +kernel)
set_option maxRecDepth 20000 in
theorem gX5_exchanged_X5_thingAt : GoodIn wsX5_exchanged (va_wsS RX5 38 yX5_thingAt wsX5_thingAt) := goodIn_app (goodIn_of _ (by decide +kernel)) ggX5_exchanged_X5_thingAt
theorem dX5_exchanged_0 : decode cX5_exchanged 0 = .ok (.iload_n 0, 1) := by decide +kernel
theorem dX5_exchanged_1 : decode cX5_exchanged 1 = .ok (.iload_n 1, 1) := by decide +kernel
theorem dX5_exchanged_2 : decode cX5_exchanged 2 = .ok (.invokestatic 38, 3) := by decide +kernel
theorem dX5_exchanged_5 : decode cX5_exchanged 5 = .ok (.iload_n 0, 1) := by decide +kernel
theorem dX5_exchanged_6 : decode cX5_exchanged 6 = .ok (.iload_n 1, 1) := by decide +kernel
theorem dX5_exchanged_7 : decode cX5_exchanged 7 = .ok (.iconst 1, 1) := by decide +kernel
theorem dX5_exchanged_8 : decode cX5_exchanged 8 = .ok (.iadd, 1) := by decide +kernel
theorem dX5_exchanged_9 : decode cX5_exchanged 9 = .ok (.invokestatic 38, 3) := by decide +kernel
theorem dX5_exchanged_12 : decode cX5_exchanged 12 = .ok (.ixor, 1) := by decide +kernel
theorem dX5_exchanged_13 : decode cX5_exchanged 13 = .ok (.istore_n 2, 1) := by decide +kernel
theorem dX5_exchanged_14 : decode cX5_exchanged 14 = .ok (.iload_n 0, 1) := by decide +kernel
theorem dX5_exchanged_15 : decode cX5_exchanged 15 = .ok (.iload_n 2, 1) := by decide +kernel
theorem dX5_exchanged_16 : decode cX5_exchanged 16 = .ok (.iconst 2, 1) := by decide +kernel
theorem dX5_exchanged_17 : decode cX5_exchanged 17 = .ok (.iload_n 1, 1) := by decide +kernel
theorem dX5_exchanged_18 : decode cX5_exchanged 18 = .ok (.imul, 1) := by decide +kernel
theorem dX5_exchanged_19 : decode cX5_exchanged 19 = .ok (.ishl, 1) := by decide +kernel
theorem dX5_exchanged_20 : decode cX5_exchanged 20 = .ok (.ixor, 1) := by decide +kernel
theorem dX5_exchanged_21 : decode cX5_exchanged 21 = .ok (.iload_n 2, 1) := by decide +kernel
theorem dX5_exchanged_22 : decode cX5_exchanged 22 = .ok (.iconst 2, 1) := by decide +kernel
theorem dX5_exchanged_23 : decode cX5_exchanged 23 = .ok (.iload_n 1, 1) := by decide +kernel
theorem dX5_exchanged_24 : decode cX5_exchanged 24 = .ok (.iconst 1, 1) := by decide +kernel
theorem dX5_exchanged_25 : decode cX5_exchanged 25 = .ok (.iadd, 1) := by decide +kernel
theorem dX5_exchanged_26 : decode cX5_exchanged 26 = .ok (.imul, 1) := by decide +kernel
theorem dX5_exchanged_27 : decode cX5_exchanged 27 = .ok (.ishl, 1) := by decide +kernel
theorem dX5_exchanged_28 : decode cX5_exchanged 28 = .ok (.ixor, 1) := by decide +kernel
theorem dX5_exchanged_29 : decode cX5_exchanged 29 = .ok (.ireturn, 1) := by decide +kernel
set_option maxRecDepth 20000 in
theorem ggX5_movedToFront_X5_placeOf : GoodIn wsX5_movedToFront wsX5_placeOf := goodIn_r _ [5, 6, 7, 8, 4, 9, 13, 14, 15, 16, 17, 18] (by decide +kernel) (by decide +kernel)
set_option maxRecDepth 20000 in
theorem gX5_movedToFront_X5_placeOf : GoodIn wsX5_movedToFront (wsV RX5 42 RX5 yX5_placeOf wsX5_placeOf) := goodIn_app (goodIn_of _ (by decide +kernel)) ggX5_movedToFront_X5_placeOf
set_option maxRecDepth 20000 in
theorem ggX5_movedToFront_X5_exchanged : GoodIn wsX5_movedToFront wsX5_exchanged := goodIn_r _ [12, 7, 8, 4, 9] (by decide +kernel) (by decide +kernel)
set_option maxRecDepth 20000 in
theorem gX5_movedToFront_X5_exchanged : GoodIn wsX5_movedToFront (va_wsS RX5 45 yX5_exchanged wsX5_exchanged) := goodIn_app (goodIn_of _ (by decide +kernel)) ggX5_movedToFront_X5_exchanged
theorem dX5_movedToFront_0 : decode cX5_movedToFront 0 = .ok (.iload_n 1, 1) := by decide +kernel
theorem dX5_movedToFront_1 : decode cX5_movedToFront 1 = .ok (.istore_n 3, 1) := by decide +kernel
theorem dX5_movedToFront_2 : decode cX5_movedToFront 2 = .ok (.aload_n 0, 1) := by decide +kernel
theorem dX5_movedToFront_3 : decode cX5_movedToFront 3 = .ok (.iload_n 1, 1) := by decide +kernel
theorem dX5_movedToFront_4 : decode cX5_movedToFront 4 = .ok (.iload_n 2, 1) := by decide +kernel
theorem dX5_movedToFront_5 : decode cX5_movedToFront 5 = .ok (.invokevirtual 42, 3) := by decide +kernel
theorem dX5_movedToFront_8 : decode cX5_movedToFront 8 = .ok (.istore 4, 2) := by decide +kernel
theorem dX5_movedToFront_10 : decode cX5_movedToFront 10 = .ok (.iload 4, 2) := by decide +kernel
theorem dX5_movedToFront_12 : decode cX5_movedToFront 12 = .ok (.ifCond .le 18, 3) := by decide +kernel
theorem dX5_movedToFront_15 : decode cX5_movedToFront 15 = .ok (.iload_n 3, 1) := by decide +kernel
theorem dX5_movedToFront_16 : decode cX5_movedToFront 16 = .ok (.iload 4, 2) := by decide +kernel
theorem dX5_movedToFront_18 : decode cX5_movedToFront 18 = .ok (.iconst 1, 1) := by decide +kernel
theorem dX5_movedToFront_19 : decode cX5_movedToFront 19 = .ok (.isub, 1) := by decide +kernel
theorem dX5_movedToFront_20 : decode cX5_movedToFront 20 = .ok (.invokestatic 45, 3) := by decide +kernel
theorem dX5_movedToFront_23 : decode cX5_movedToFront 23 = .ok (.istore_n 3, 1) := by decide +kernel
theorem dX5_movedToFront_24 : decode cX5_movedToFront 24 = .ok (.iinc 4 (-1), 3) := by decide +kernel
theorem dX5_movedToFront_27 : decode cX5_movedToFront 27 = .ok (.goto (-17), 3) := by decide +kernel
theorem dX5_movedToFront_30 : decode cX5_movedToFront 30 = .ok (.iload_n 3, 1) := by decide +kernel
theorem dX5_movedToFront_31 : decode cX5_movedToFront 31 = .ok (.ireturn, 1) := by decide +kernel
set_option maxRecDepth 20000 in
theorem ggX5_frontOrder_X5_firstOrder : GoodIn wsX5_frontOrder wsX5_firstOrder := goodIn_r _ [7, 8, 23, 24, 25, 26, 27, 28] (by decide +kernel) (by decide +kernel)
set_option maxRecDepth 20000 in
theorem gX5_frontOrder_X5_firstOrder : GoodIn wsX5_frontOrder (wsV RX5 48 RX5 yX5_firstOrder wsX5_firstOrder) := goodIn_app (goodIn_of _ (by decide +kernel)) ggX5_frontOrder_X5_firstOrder
set_option maxRecDepth 20000 in
theorem ggX5_frontOrder_X5_movedToFront : GoodIn wsX5_frontOrder wsX5_movedToFront := goodIn_r _ [12, 13, 14, 15, 6, 16, 8, 17, 18, 19, 20, 21, 22, 23, 24, 25, 26, 27, 28] (by decide +kernel) (by decide +kernel)
set_option maxRecDepth 20000 in
theorem gX5_frontOrder_X5_movedToFront : GoodIn wsX5_frontOrder (wsV RX5 52 RX5 yX5_movedToFront wsX5_movedToFront) := goodIn_app (goodIn_of _ (by decide +kernel)) ggX5_frontOrder_X5_movedToFront
theorem dX5_frontOrder_0 : decode cX5_frontOrder 0 = .ok (.aload_n 0, 1) := by decide +kernel
theorem dX5_frontOrder_1 : decode cX5_frontOrder 1 = .ok (.invokevirtual 48, 3) := by decide +kernel
theorem dX5_frontOrder_4 : decode cX5_frontOrder 4 = .ok (.istore_n 1, 1) := by decide +kernel
theorem dX5_frontOrder_5 : decode cX5_frontOrder 5 = .ok (.iconst 0, 1) := by decide +kernel
theorem dX5_frontOrder_6 : decode cX5_frontOrder 6 = .ok (.istore_n 2, 1) := by decide +kernel
theorem dX5_frontOrder_7 : decode cX5_frontOrder 7 = .ok (.iload_n 2, 1) := by decide +kernel
theorem dX5_frontOrder_8 : decode cX5_frontOrder 8 = .ok (.aload_n 0, 1) := by decide +kernel
theorem dX5_frontOrder_9 : decode cX5_frontOrder 9 = .ok (.getfield 25, 3) := by decide +kernel
theorem dX5_frontOrder_12 : decode cX5_frontOrder 12 = .ok (.if_icmp .ge 21, 3) := by decide +kernel
theorem dX5_frontOrder_15 : decode cX5_frontOrder 15 = .ok (.aload_n 0, 1) := by decide +kernel
theorem dX5_frontOrder_16 : decode cX5_frontOrder 16 = .ok (.iload_n 1, 1) := by decide +kernel
theorem dX5_frontOrder_17 : decode cX5_frontOrder 17 = .ok (.aload_n 0, 1) := by decide +kernel
theorem dX5_frontOrder_18 : decode cX5_frontOrder 18 = .ok (.getfield 9, 3) := by decide +kernel
theorem dX5_frontOrder_21 : decode cX5_frontOrder 21 = .ok (.iload_n 2, 1) := by decide +kernel
theorem dX5_frontOrder_22 : decode cX5_frontOrder 22 = .ok (.iaload, 1) := by decide +kernel
theorem dX5_frontOrder_23 : decode cX5_frontOrder 23 = .ok (.invokevirtual 52, 3) := by decide +kernel
theorem dX5_frontOrder_26 : decode cX5_frontOrder 26 = .ok (.istore_n 1, 1) := by decide +kernel
theorem dX5_frontOrder_27 : decode cX5_frontOrder 27 = .ok (.iinc 2 1, 3) := by decide +kernel
theorem dX5_frontOrder_30 : decode cX5_frontOrder 30 = .ok (.goto (-23), 3) := by decide +kernel
theorem dX5_frontOrder_33 : decode cX5_frontOrder 33 = .ok (.iload_n 1, 1) := by decide +kernel
theorem dX5_frontOrder_34 : decode cX5_frontOrder 34 = .ok (.ireturn, 1) := by decide +kernel
set_option maxRecDepth 20000 in
theorem ggX5_frontCost_X5_firstOrder : GoodIn wsX5_frontCost wsX5_firstOrder := goodIn_r _ [7, 8, 23, 24, 25, 26, 27, 28] (by decide +kernel) (by decide +kernel)
set_option maxRecDepth 20000 in
theorem gX5_frontCost_X5_firstOrder : GoodIn wsX5_frontCost (wsV RX5 48 RX5 yX5_firstOrder wsX5_firstOrder) := goodIn_app (goodIn_of _ (by decide +kernel)) ggX5_frontCost_X5_firstOrder
set_option maxRecDepth 20000 in
theorem ggX5_frontCost_X5_placeOf : GoodIn wsX5_frontCost wsX5_placeOf := goodIn_r _ [12, 8, 13, 14, 6, 15, 23, 24, 25, 26, 27, 28] (by decide +kernel) (by decide +kernel)
set_option maxRecDepth 20000 in
theorem gX5_frontCost_X5_placeOf : GoodIn wsX5_frontCost (wsV RX5 42 RX5 yX5_placeOf wsX5_placeOf) := goodIn_app (goodIn_of _ (by decide +kernel)) ggX5_frontCost_X5_placeOf
set_option maxRecDepth 20000 in
theorem ggX5_frontCost_X5_movedToFront : GoodIn wsX5_frontCost wsX5_movedToFront := goodIn_r _ [19, 9, 10, 11, 6, 12, 8, 13, 14, 15, 20, 21, 22, 23, 24, 25, 26, 27, 28] (by decide +kernel) (by decide +kernel)
set_option maxRecDepth 20000 in
theorem gX5_frontCost_X5_movedToFront : GoodIn wsX5_frontCost (wsV RX5 52 RX5 yX5_movedToFront wsX5_movedToFront) := goodIn_app (goodIn_of _ (by decide +kernel)) ggX5_frontCost_X5_movedToFront
theorem dX5_frontCost_0 : decode cX5_frontCost 0 = .ok (.aload_n 0, 1) := by decide +kernel
theorem dX5_frontCost_1 : decode cX5_frontCost 1 = .ok (.invokevirtual 48, 3) := by decide +kernel
theorem dX5_frontCost_4 : decode cX5_frontCost 4 = .ok (.istore_n 1, 1) := by decide +kernel
theorem dX5_frontCost_5 : decode cX5_frontCost 5 = .ok (.iconst 0, 1) := by decide +kernel
theorem dX5_frontCost_6 : decode cX5_frontCost 6 = .ok (.istore_n 2, 1) := by decide +kernel
theorem dX5_frontCost_7 : decode cX5_frontCost 7 = .ok (.iconst 0, 1) := by decide +kernel
theorem dX5_frontCost_8 : decode cX5_frontCost 8 = .ok (.istore_n 3, 1) := by decide +kernel
theorem dX5_frontCost_9 : decode cX5_frontCost 9 = .ok (.iload_n 3, 1) := by decide +kernel
theorem dX5_frontCost_10 : decode cX5_frontCost 10 = .ok (.aload_n 0, 1) := by decide +kernel
theorem dX5_frontCost_11 : decode cX5_frontCost 11 = .ok (.getfield 25, 3) := by decide +kernel
theorem dX5_frontCost_14 : decode cX5_frontCost 14 = .ok (.if_icmp .ge 37, 3) := by decide +kernel
theorem dX5_frontCost_17 : decode cX5_frontCost 17 = .ok (.iload_n 2, 1) := by decide +kernel
theorem dX5_frontCost_18 : decode cX5_frontCost 18 = .ok (.aload_n 0, 1) := by decide +kernel
theorem dX5_frontCost_19 : decode cX5_frontCost 19 = .ok (.iload_n 1, 1) := by decide +kernel
theorem dX5_frontCost_20 : decode cX5_frontCost 20 = .ok (.aload_n 0, 1) := by decide +kernel
theorem dX5_frontCost_21 : decode cX5_frontCost 21 = .ok (.getfield 9, 3) := by decide +kernel
theorem dX5_frontCost_24 : decode cX5_frontCost 24 = .ok (.iload_n 3, 1) := by decide +kernel
theorem dX5_frontCost_25 : decode cX5_frontCost 25 = .ok (.iaload, 1) := by decide +kernel
theorem dX5_frontCost_26 : decode cX5_frontCost 26 = .ok (.invokevirtual 42, 3) := by decide +kernel
theorem dX5_frontCost_29 : decode cX5_frontCost 29 = .ok (.iconst 1, 1) := by decide +kernel
theorem dX5_frontCost_30 : decode cX5_frontCost 30 = .ok (.iadd, 1) := by decide +kernel
theorem dX5_frontCost_31 : decode cX5_frontCost 31 = .ok (.iadd, 1) := by decide +kernel
theorem dX5_frontCost_32 : decode cX5_frontCost 32 = .ok (.istore_n 2, 1) := by decide +kernel
theorem dX5_frontCost_33 : decode cX5_frontCost 33 = .ok (.aload_n 0, 1) := by decide +kernel
