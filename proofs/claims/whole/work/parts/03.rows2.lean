theorem dX6_trust_62 : decode cX6_trust 62 = .ok (.ifCond .ne 7, 3) := by decide +kernel
theorem dX6_trust_65 : decode cX6_trust 65 = .ok (.iload_n 1, 1) := by decide +kernel
theorem dX6_trust_66 : decode cX6_trust 66 = .ok (.goto 12, 3) := by decide +kernel
theorem dX6_trust_69 : decode cX6_trust 69 = .ok (.aload_n 0, 1) := by decide +kernel
theorem dX6_trust_70 : decode cX6_trust 70 = .ok (.getfield 10, 3) := by decide +kernel
theorem dX6_trust_73 : decode cX6_trust 73 = .ok (.iload 5, 2) := by decide +kernel
theorem dX6_trust_75 : decode cX6_trust 75 = .ok (.invokevirtual 90, 3) := by decide +kernel
theorem dX6_trust_78 : decode cX6_trust 78 = .ok (.iload 4, 2) := by decide +kernel
theorem dX6_trust_80 : decode cX6_trust 80 = .ok (.invokevirtual 93, 3) := by decide +kernel
theorem dX6_trust_83 : decode cX6_trust 83 = .ok (.ireturn, 1) := by decide +kernel
set_option maxRecDepth 20000 in
theorem ggX6_list_X6_isWithin : GoodIn wsX6_list wsX6_isWithin := goodIn_r _ [5] (by decide +kernel) (by decide +kernel)
set_option maxRecDepth 20000 in
theorem gX6_list_X6_isWithin : GoodIn wsX6_list (va_wsS RX6 34 yX6_isWithin wsX6_isWithin) := goodIn_app (goodIn_of _ (by decide +kernel)) ggX6_list_X6_isWithin
set_option maxRecDepth 20000 in
theorem ggX6_list_X5_restart : GoodIn wsX6_list wsX5_restart := goodIn_r _ [10, 11, 12, 13, 14, 15, 9, 16, 17, 18, 19, 20, 21, 22, 23, 24, 25, 30, 31, 32, 33, 34, 35] (by decide +kernel) (by decide +kernel)
set_option maxRecDepth 20000 in
theorem gX6_list_X5_restart : GoodIn wsX6_list (wsV RX6 139 RX5 yX5_restart wsX5_restart) := goodIn_app (goodIn_of _ (by decide +kernel)) ggX6_list_X5_restart
theorem dX6_list_0 : decode cX6_list 0 = .ok (.iload_n 1, 1) := by decide +kernel
theorem dX6_list_1 : decode cX6_list 1 = .ok (.iconst 1, 1) := by decide +kernel
theorem dX6_list_2 : decode cX6_list 2 = .ok (.iconst 4, 1) := by decide +kernel
theorem dX6_list_3 : decode cX6_list 3 = .ok (.invokestatic 34, 3) := by decide +kernel
theorem dX6_list_6 : decode cX6_list 6 = .ok (.ifCond .ne 5, 3) := by decide +kernel
theorem dX6_list_9 : decode cX6_list 9 = .ok (.iconst (-1), 1) := by decide +kernel
theorem dX6_list_10 : decode cX6_list 10 = .ok (.ireturn, 1) := by decide +kernel
theorem dX6_list_11 : decode cX6_list 11 = .ok (.aload_n 0, 1) := by decide +kernel
theorem dX6_list_12 : decode cX6_list 12 = .ok (.getfield 26, 3) := by decide +kernel
theorem dX6_list_15 : decode cX6_list 15 = .ok (.getfield 136, 3) := by decide +kernel
theorem dX6_list_18 : decode cX6_list 18 = .ok (.istore_n 2, 1) := by decide +kernel
theorem dX6_list_19 : decode cX6_list 19 = .ok (.aload_n 0, 1) := by decide +kernel
theorem dX6_list_20 : decode cX6_list 20 = .ok (.getfield 26, 3) := by decide +kernel
theorem dX6_list_23 : decode cX6_list 23 = .ok (.iload_n 1, 1) := by decide +kernel
theorem dX6_list_24 : decode cX6_list 24 = .ok (.invokevirtual 139, 3) := by decide +kernel
theorem dX6_list_27 : decode cX6_list 27 = .ok (.iload_n 2, 1) := by decide +kernel
theorem dX6_list_28 : decode cX6_list 28 = .ok (.ireturn, 1) := by decide +kernel
set_option maxRecDepth 20000 in
theorem ggX6_request_X6_isWithin : GoodIn wsX6_request wsX6_isWithin := goodIn_r _ [5] (by decide +kernel) (by decide +kernel)
set_option maxRecDepth 20000 in
theorem gX6_request_X6_isWithin : GoodIn wsX6_request (va_wsS RX6 34 yX6_isWithin wsX6_isWithin) := goodIn_app (goodIn_of _ (by decide +kernel)) ggX6_request_X6_isWithin
theorem dX6_request_0 : decode cX6_request 0 = .ok (.iload_n 1, 1) := by decide +kernel
theorem dX6_request_1 : decode cX6_request 1 = .ok (.iconst 0, 1) := by decide +kernel
theorem dX6_request_2 : decode cX6_request 2 = .ok (.aload_n 0, 1) := by decide +kernel
theorem dX6_request_3 : decode cX6_request 3 = .ok (.getfield 26, 3) := by decide +kernel
theorem dX6_request_6 : decode cX6_request 6 = .ok (.getfield 136, 3) := by decide +kernel
theorem dX6_request_9 : decode cX6_request 9 = .ok (.iconst 1, 1) := by decide +kernel
theorem dX6_request_10 : decode cX6_request 10 = .ok (.isub, 1) := by decide +kernel
theorem dX6_request_11 : decode cX6_request 11 = .ok (.invokestatic 34, 3) := by decide +kernel
theorem dX6_request_14 : decode cX6_request 14 = .ok (.ifCond .ne 5, 3) := by decide +kernel
theorem dX6_request_17 : decode cX6_request 17 = .ok (.iconst (-1), 1) := by decide +kernel
theorem dX6_request_18 : decode cX6_request 18 = .ok (.ireturn, 1) := by decide +kernel
theorem dX6_request_19 : decode cX6_request 19 = .ok (.aload_n 0, 1) := by decide +kernel
theorem dX6_request_20 : decode cX6_request 20 = .ok (.getfield 26, 3) := by decide +kernel
theorem dX6_request_23 : decode cX6_request 23 = .ok (.getfield 143, 3) := by decide +kernel
theorem dX6_request_26 : decode cX6_request 26 = .ok (.bipush 16, 2) := by decide +kernel
theorem dX6_request_28 : decode cX6_request 28 = .ok (.if_icmp .lt 6, 3) := by decide +kernel
theorem dX6_request_31 : decode cX6_request 31 = .ok (.bipush (-3), 2) := by decide +kernel
theorem dX6_request_33 : decode cX6_request 33 = .ok (.ireturn, 1) := by decide +kernel
theorem dX6_request_34 : decode cX6_request 34 = .ok (.aload_n 0, 1) := by decide +kernel
theorem dX6_request_35 : decode cX6_request 35 = .ok (.getfield 26, 3) := by decide +kernel
theorem dX6_request_38 : decode cX6_request 38 = .ok (.getfield 146, 3) := by decide +kernel
theorem dX6_request_41 : decode cX6_request 41 = .ok (.aload_n 0, 1) := by decide +kernel
theorem dX6_request_42 : decode cX6_request 42 = .ok (.getfield 26, 3) := by decide +kernel
theorem dX6_request_45 : decode cX6_request 45 = .ok (.getfield 143, 3) := by decide +kernel
theorem dX6_request_48 : decode cX6_request 48 = .ok (.iload_n 1, 1) := by decide +kernel
theorem dX6_request_49 : decode cX6_request 49 = .ok (.iastore, 1) := by decide +kernel
theorem dX6_request_50 : decode cX6_request 50 = .ok (.aload_n 0, 1) := by decide +kernel
theorem dX6_request_51 : decode cX6_request 51 = .ok (.getfield 26, 3) := by decide +kernel
theorem dX6_request_54 : decode cX6_request 54 = .ok (.dup, 1) := by decide +kernel
theorem dX6_request_55 : decode cX6_request 55 = .ok (.getfield 143, 3) := by decide +kernel
theorem dX6_request_58 : decode cX6_request 58 = .ok (.iconst 1, 1) := by decide +kernel
theorem dX6_request_59 : decode cX6_request 59 = .ok (.iadd, 1) := by decide +kernel
theorem dX6_request_60 : decode cX6_request 60 = .ok (.putfield 143, 3) := by decide +kernel
theorem dX6_request_63 : decode cX6_request 63 = .ok (.aload_n 0, 1) := by decide +kernel
theorem dX6_request_64 : decode cX6_request 64 = .ok (.getfield 26, 3) := by decide +kernel
theorem dX6_request_67 : decode cX6_request 67 = .ok (.getfield 143, 3) := by decide +kernel
theorem dX6_request_70 : decode cX6_request 70 = .ok (.ireturn, 1) := by decide +kernel
theorem dX6_drop_0 : decode cX6_drop 0 = .ok (.aload_n 0, 1) := by decide +kernel
theorem dX6_drop_1 : decode cX6_drop 1 = .ok (.getfield 26, 3) := by decide +kernel
theorem dX6_drop_4 : decode cX6_drop 4 = .ok (.getfield 143, 3) := by decide +kernel
theorem dX6_drop_7 : decode cX6_drop 7 = .ok (.ifCond .ne 6, 3) := by decide +kernel
theorem dX6_drop_10 : decode cX6_drop 10 = .ok (.bipush (-2), 2) := by decide +kernel
theorem dX6_drop_12 : decode cX6_drop 12 = .ok (.ireturn, 1) := by decide +kernel
theorem dX6_drop_13 : decode cX6_drop 13 = .ok (.aload_n 0, 1) := by decide +kernel
theorem dX6_drop_14 : decode cX6_drop 14 = .ok (.getfield 26, 3) := by decide +kernel
theorem dX6_drop_17 : decode cX6_drop 17 = .ok (.dup, 1) := by decide +kernel
theorem dX6_drop_18 : decode cX6_drop 18 = .ok (.getfield 143, 3) := by decide +kernel
theorem dX6_drop_21 : decode cX6_drop 21 = .ok (.iconst 1, 1) := by decide +kernel
theorem dX6_drop_22 : decode cX6_drop 22 = .ok (.isub, 1) := by decide +kernel
theorem dX6_drop_23 : decode cX6_drop 23 = .ok (.putfield 143, 3) := by decide +kernel
theorem dX6_drop_26 : decode cX6_drop 26 = .ok (.aload_n 0, 1) := by decide +kernel
theorem dX6_drop_27 : decode cX6_drop 27 = .ok (.getfield 26, 3) := by decide +kernel
theorem dX6_drop_30 : decode cX6_drop 30 = .ok (.getfield 143, 3) := by decide +kernel
theorem dX6_drop_33 : decode cX6_drop 33 = .ok (.ireturn, 1) := by decide +kernel
set_option maxRecDepth 20000 in
theorem ggX6_serve_X5_frontCost : GoodIn wsX6_serve wsX5_frontCost := goodIn_r _ [6, 7, 8, 9, 10, 11, 5, 12, 13, 14, 15, 16, 17, 18, 19, 20, 21, 22, 23, 24, 25, 26, 27, 70, 71, 72, 73, 74, 75] (by decide +kernel) (by decide +kernel)
set_option maxRecDepth 20000 in
theorem gX6_serve_X5_frontCost : GoodIn wsX6_serve (wsV RX6 149 RX5 yX5_frontCost wsX5_frontCost) := goodIn_app (goodIn_of _ (by decide +kernel)) ggX6_serve_X5_frontCost
set_option maxRecDepth 20000 in
theorem ggX6_serve_X5_firstOrder : GoodIn wsX6_serve wsX5_firstOrder := goodIn_r _ [12, 13, 70, 71, 72, 73, 74, 75] (by decide +kernel) (by decide +kernel)
set_option maxRecDepth 20000 in
theorem gX6_serve_X5_firstOrder : GoodIn wsX6_serve (wsV RX6 152 RX5 yX5_firstOrder wsX5_firstOrder) := goodIn_app (goodIn_of _ (by decide +kernel)) ggX6_serve_X5_firstOrder
set_option maxRecDepth 20000 in
theorem ggX6_serve_X5_stayCost : GoodIn wsX6_serve wsX5_stayCost := goodIn_r _ [32, 7, 8, 14, 15, 16, 5, 17, 13, 18, 19, 20, 70, 71, 72, 73, 74, 75] (by decide +kernel) (by decide +kernel)
set_option maxRecDepth 20000 in
theorem gX6_serve_X5_stayCost : GoodIn wsX6_serve (wsV RX6 155 RX5 yX5_stayCost wsX5_stayCost) := goodIn_app (goodIn_of _ (by decide +kernel)) ggX6_serve_X5_stayCost
set_option maxRecDepth 20000 in
theorem ggX6_serve_X5_bestStayCost : GoodIn wsX6_serve wsX5_bestStayCost := goodIn_r _ [36, 37, 38, 39, 40, 41, 42, 43, 44, 30, 31, 5, 32, 7, 8, 14, 15, 16, 17, 13, 18, 19, 20, 70, 71, 72, 73, 74, 75] (by decide +kernel) (by decide +kernel)
set_option maxRecDepth 20000 in
theorem gX6_serve_X5_bestStayCost : GoodIn wsX6_serve (wsV RX6 158 RX5 yX5_bestStayCost wsX5_bestStayCost) := goodIn_app (goodIn_of _ (by decide +kernel)) ggX6_serve_X5_bestStayCost
set_option maxRecDepth 20000 in
theorem ggX6_serve_X5_bestCost : GoodIn wsX6_serve wsX5_bestCost := goodIn_r _ [48, 38, 49, 39, 37, 7, 8, 40, 41, 42, 43, 9, 10, 11, 5, 12, 13, 50, 51, 52, 53, 54, 55, 56, 57, 25, 26, 27, 18, 19, 20, 58, 59, 60, 61, 14, 15, 16, 17, 62, 63, 64, 65, 70, 71, 72, 73, 74, 75] (by decide +kernel) (by decide +kernel)
set_option maxRecDepth 20000 in
theorem gX6_serve_X5_bestCost : GoodIn wsX6_serve (wsV RX6 161 RX5 yX5_bestCost wsX5_bestCost) := goodIn_app (goodIn_of _ (by decide +kernel)) ggX6_serve_X5_bestCost
theorem dX6_serve_0 : decode cX6_serve 0 = .ok (.iload_n 1, 1) := by decide +kernel
theorem dX6_serve_1 : decode cX6_serve 1 = .ok (.tableswitch 70 0 3 #[31, 39, 54, 62], 31) := by decide +kernel
theorem dX6_serve_32 : decode cX6_serve 32 = .ok (.aload_n 0, 1) := by decide +kernel
theorem dX6_serve_33 : decode cX6_serve 33 = .ok (.getfield 26, 3) := by decide +kernel
theorem dX6_serve_36 : decode cX6_serve 36 = .ok (.invokevirtual 149, 3) := by decide +kernel
theorem dX6_serve_39 : decode cX6_serve 39 = .ok (.ireturn, 1) := by decide +kernel
theorem dX6_serve_40 : decode cX6_serve 40 = .ok (.aload_n 0, 1) := by decide +kernel
theorem dX6_serve_41 : decode cX6_serve 41 = .ok (.getfield 26, 3) := by decide +kernel
theorem dX6_serve_44 : decode cX6_serve 44 = .ok (.aload_n 0, 1) := by decide +kernel
theorem dX6_serve_45 : decode cX6_serve 45 = .ok (.getfield 26, 3) := by decide +kernel
theorem dX6_serve_48 : decode cX6_serve 48 = .ok (.invokevirtual 152, 3) := by decide +kernel
theorem dX6_serve_51 : decode cX6_serve 51 = .ok (.invokevirtual 155, 3) := by decide +kernel
theorem dX6_serve_54 : decode cX6_serve 54 = .ok (.ireturn, 1) := by decide +kernel
theorem dX6_serve_55 : decode cX6_serve 55 = .ok (.aload_n 0, 1) := by decide +kernel
theorem dX6_serve_56 : decode cX6_serve 56 = .ok (.getfield 26, 3) := by decide +kernel
theorem dX6_serve_59 : decode cX6_serve 59 = .ok (.invokevirtual 158, 3) := by decide +kernel
theorem dX6_serve_62 : decode cX6_serve 62 = .ok (.ireturn, 1) := by decide +kernel
theorem dX6_serve_63 : decode cX6_serve 63 = .ok (.aload_n 0, 1) := by decide +kernel
theorem dX6_serve_64 : decode cX6_serve 64 = .ok (.getfield 26, 3) := by decide +kernel
theorem dX6_serve_67 : decode cX6_serve 67 = .ok (.invokevirtual 161, 3) := by decide +kernel
theorem dX6_serve_70 : decode cX6_serve 70 = .ok (.ireturn, 1) := by decide +kernel
theorem dX6_serve_71 : decode cX6_serve 71 = .ok (.iconst (-1), 1) := by decide +kernel
theorem dX6_serve_72 : decode cX6_serve 72 = .ok (.ireturn, 1) := by decide +kernel
set_option maxRecDepth 20000 in
theorem ggX6_at_X6_isWithin : GoodIn wsX6_at wsX6_isWithin := goodIn_r _ [5] (by decide +kernel) (by decide +kernel)
set_option maxRecDepth 20000 in
theorem gX6_at_X6_isWithin : GoodIn wsX6_at (va_wsS RX6 34 yX6_isWithin wsX6_isWithin) := goodIn_app (goodIn_of _ (by decide +kernel)) ggX6_at_X6_isWithin
set_option maxRecDepth 20000 in
theorem ggX6_at_X5_frontOrder : GoodIn wsX6_at wsX5_frontOrder := goodIn_r _ [10, 11, 12, 13, 14, 15, 9, 16, 17, 18, 19, 20, 21, 22, 23, 24, 25, 26, 27, 28, 29, 30, 31, 37, 38, 39, 40, 41, 42] (by decide +kernel) (by decide +kernel)
set_option maxRecDepth 20000 in
theorem gX6_at_X5_frontOrder : GoodIn wsX6_at (wsV RX6 164 RX5 yX5_frontOrder wsX5_frontOrder) := goodIn_app (goodIn_of _ (by decide +kernel)) ggX6_at_X5_frontOrder
set_option maxRecDepth 20000 in
theorem ggX6_at_X5_thingAt : GoodIn wsX6_at wsX5_thingAt := goodIn_r _ [28] (by decide +kernel) (by decide +kernel)
set_option maxRecDepth 20000 in
theorem gX6_at_X5_thingAt : GoodIn wsX6_at (va_wsS RX6 167 yX5_thingAt wsX5_thingAt) := goodIn_app (goodIn_of _ (by decide +kernel)) ggX6_at_X5_thingAt
theorem dX6_at_0 : decode cX6_at 0 = .ok (.iload_n 1, 1) := by decide +kernel
theorem dX6_at_1 : decode cX6_at 1 = .ok (.iconst 1, 1) := by decide +kernel
theorem dX6_at_2 : decode cX6_at 2 = .ok (.aload_n 0, 1) := by decide +kernel
theorem dX6_at_3 : decode cX6_at 3 = .ok (.getfield 26, 3) := by decide +kernel
theorem dX6_at_6 : decode cX6_at 6 = .ok (.getfield 136, 3) := by decide +kernel
theorem dX6_at_9 : decode cX6_at 9 = .ok (.invokestatic 34, 3) := by decide +kernel
theorem dX6_at_12 : decode cX6_at 12 = .ok (.ifCond .ne 5, 3) := by decide +kernel
theorem dX6_at_15 : decode cX6_at 15 = .ok (.iconst (-1), 1) := by decide +kernel
theorem dX6_at_16 : decode cX6_at 16 = .ok (.ireturn, 1) := by decide +kernel
theorem dX6_at_17 : decode cX6_at 17 = .ok (.aload_n 0, 1) := by decide +kernel
theorem dX6_at_18 : decode cX6_at 18 = .ok (.getfield 26, 3) := by decide +kernel
theorem dX6_at_21 : decode cX6_at 21 = .ok (.invokevirtual 164, 3) := by decide +kernel
theorem dX6_at_24 : decode cX6_at 24 = .ok (.iload_n 1, 1) := by decide +kernel
theorem dX6_at_25 : decode cX6_at 25 = .ok (.iconst 1, 1) := by decide +kernel
theorem dX6_at_26 : decode cX6_at 26 = .ok (.isub, 1) := by decide +kernel
theorem dX6_at_27 : decode cX6_at 27 = .ok (.invokestatic 167, 3) := by decide +kernel
theorem dX6_at_30 : decode cX6_at 30 = .ok (.ireturn, 1) := by decide +kernel
set_option maxRecDepth 20000 in
theorem ggX6_count_X0_kindNumber : GoodIn wsX6_count wsX0_kindNumber := goodIn_r _ [9] (by decide +kernel) (by decide +kernel)
set_option maxRecDepth 20000 in
theorem gX6_count_X0_kindNumber_u170X0 : GoodIn wsX6_count (va_wsO RX6 170 RX0 "RentOrBuy$Flat" ⟨"RentOrBuy$Flat", "kindNumber", "()I"⟩ yX0_kindNumber wsX0_kindNumber) := goodIn_app (goodIn_of _ (by decide +kernel)) ggX6_count_X0_kindNumber
set_option maxRecDepth 20000 in
theorem ggX6_count_X1_kindNumber : GoodIn wsX6_count wsX1_kindNumber := goodIn_r _ [10] (by decide +kernel) (by decide +kernel)
set_option maxRecDepth 20000 in
theorem gX6_count_X1_kindNumber : GoodIn wsX6_count (wsV RX6 170 RX1 yX1_kindNumber wsX1_kindNumber) := goodIn_app (goodIn_of _ (by decide +kernel)) ggX6_count_X1_kindNumber
set_option maxRecDepth 20000 in
theorem ggX6_count_X4_kindNumber : GoodIn wsX6_count wsX4_kindNumber := goodIn_r _ [18] (by decide +kernel) (by decide +kernel)
set_option maxRecDepth 20000 in
theorem gX6_count_X4_kindNumber_u170X4 : GoodIn wsX6_count (va_wsO RX6 170 RX4 "RentOrBuy$Flat" ⟨"RentOrBuy$Flat", "kindNumber", "()I"⟩ yX4_kindNumber wsX4_kindNumber) := goodIn_app (goodIn_of _ (by decide +kernel)) ggX6_count_X4_kindNumber
theorem dX6_count_0 : decode cX6_count 0 = .ok (.iload_n 1, 1) := by decide +kernel
theorem dX6_count_1 : decode cX6_count 1 = .ok (.tableswitch 66 0 3 #[31, 39, 50, 58], 31) := by decide +kernel
theorem dX6_count_32 : decode cX6_count 32 = .ok (.aload_n 0, 1) := by decide +kernel
theorem dX6_count_33 : decode cX6_count 33 = .ok (.getfield 10, 3) := by decide +kernel
theorem dX6_count_36 : decode cX6_count 36 = .ok (.getfield 57, 3) := by decide +kernel
theorem dX6_count_39 : decode cX6_count 39 = .ok (.ireturn, 1) := by decide +kernel
theorem dX6_count_40 : decode cX6_count 40 = .ok (.aload_n 0, 1) := by decide +kernel
theorem dX6_count_41 : decode cX6_count 41 = .ok (.getfield 10, 3) := by decide +kernel
theorem dX6_count_44 : decode cX6_count 44 = .ok (.getfield 68, 3) := by decide +kernel
theorem dX6_count_47 : decode cX6_count 47 = .ok (.invokevirtual 170, 3) := by decide +kernel
theorem dX6_count_50 : decode cX6_count 50 = .ok (.ireturn, 1) := by decide +kernel
theorem dX6_count_51 : decode cX6_count 51 = .ok (.aload_n 0, 1) := by decide +kernel
theorem dX6_count_52 : decode cX6_count 52 = .ok (.getfield 26, 3) := by decide +kernel
theorem dX6_count_55 : decode cX6_count 55 = .ok (.getfield 136, 3) := by decide +kernel
theorem dX6_count_58 : decode cX6_count 58 = .ok (.ireturn, 1) := by decide +kernel
theorem dX6_count_59 : decode cX6_count 59 = .ok (.aload_n 0, 1) := by decide +kernel
theorem dX6_count_60 : decode cX6_count 60 = .ok (.getfield 26, 3) := by decide +kernel
theorem dX6_count_63 : decode cX6_count 63 = .ok (.getfield 143, 3) := by decide +kernel
theorem dX6_count_66 : decode cX6_count 66 = .ok (.ireturn, 1) := by decide +kernel
theorem dX6_count_67 : decode cX6_count 67 = .ok (.iconst (-1), 1) := by decide +kernel
theorem dX6_count_68 : decode cX6_count 68 = .ok (.ireturn, 1) := by decide +kernel
theorem dX6_trace_0 : decode cX6_trace 0 = .ok (.aload_n 0, 1) := by decide +kernel
theorem dX6_trace_1 : decode cX6_trace 1 = .ok (.getfield 30, 3) := by decide +kernel
theorem dX6_trace_4 : decode cX6_trace 4 = .ok (.lreturn, 1) := by decide +kernel
theorem dX6_isWithin_0 : decode cX6_isWithin 0 = .ok (.iload_n 1, 1) := by decide +kernel
theorem dX6_isWithin_1 : decode cX6_isWithin 1 = .ok (.iload_n 0, 1) := by decide +kernel
theorem dX6_isWithin_2 : decode cX6_isWithin 2 = .ok (.if_icmp .gt 12, 3) := by decide +kernel
theorem dX6_isWithin_5 : decode cX6_isWithin 5 = .ok (.iload_n 0, 1) := by decide +kernel
theorem dX6_isWithin_6 : decode cX6_isWithin 6 = .ok (.iload_n 2, 1) := by decide +kernel
theorem dX6_isWithin_7 : decode cX6_isWithin 7 = .ok (.if_icmp .gt 7, 3) := by decide +kernel
theorem dX6_isWithin_10 : decode cX6_isWithin 10 = .ok (.iconst 1, 1) := by decide +kernel
theorem dX6_isWithin_11 : decode cX6_isWithin 11 = .ok (.goto 4, 3) := by decide +kernel
theorem dX6_isWithin_14 : decode cX6_isWithin 14 = .ok (.iconst 0, 1) := by decide +kernel
theorem dX6_isWithin_15 : decode cX6_isWithin 15 = .ok (.ireturn, 1) := by decide +kernel
set_option maxRecDepth 20000 in
theorem ggX6_leastForm_X6_commonDivisor : GoodIn wsX6_leastForm wsX6_commonDivisor := goodIn_r _ [4] (by decide +kernel) (by decide +kernel)
set_option maxRecDepth 20000 in
theorem gX6_leastForm_X6_commonDivisor : GoodIn wsX6_leastForm (va_wsS RX6 173 yX6_commonDivisor wsX6_commonDivisor) := goodIn_app (goodIn_of _ (by decide +kernel)) ggX6_leastForm_X6_commonDivisor
set_option maxRecDepth 20000 in
theorem ggX6_leastForm_X6_roundedDown : GoodIn wsX6_leastForm wsX6_roundedDown := goodIn_r _ [7] (by decide +kernel) (by decide +kernel)
set_option maxRecDepth 20000 in
theorem gX6_leastForm_X6_roundedDown : GoodIn wsX6_leastForm (va_wsS RX6 177 yX6_roundedDown wsX6_roundedDown) := goodIn_app (goodIn_of _ (by decide +kernel)) ggX6_leastForm_X6_roundedDown
theorem dX6_leastForm_0 : decode cX6_leastForm 0 = .ok (.iload 4, 2) := by decide +kernel
theorem dX6_leastForm_2 : decode cX6_leastForm 2 = .ok (.ifCond .ne 7, 3) := by decide +kernel
theorem dX6_leastForm_5 : decode cX6_leastForm 5 = .ok (.lload_n 0, 1) := by decide +kernel
theorem dX6_leastForm_6 : decode cX6_leastForm 6 = .ok (.goto 4, 3) := by decide +kernel
theorem dX6_leastForm_9 : decode cX6_leastForm 9 = .ok (.lload_n 2, 1) := by decide +kernel
theorem dX6_leastForm_10 : decode cX6_leastForm 10 = .ok (.lload_n 0, 1) := by decide +kernel
theorem dX6_leastForm_11 : decode cX6_leastForm 11 = .ok (.lload_n 2, 1) := by decide +kernel
theorem dX6_leastForm_12 : decode cX6_leastForm 12 = .ok (.invokestatic 173, 3) := by decide +kernel
theorem dX6_leastForm_15 : decode cX6_leastForm 15 = .ok (.invokestatic 177, 3) := by decide +kernel
theorem dX6_leastForm_18 : decode cX6_leastForm 18 = .ok (.lreturn, 1) := by decide +kernel
theorem dX6_commonDivisor_0 : decode cX6_commonDivisor 0 = .ok (.lload_n 0, 1) := by decide +kernel
theorem dX6_commonDivisor_1 : decode cX6_commonDivisor 1 = .ok (.lstore 4, 2) := by decide +kernel
theorem dX6_commonDivisor_3 : decode cX6_commonDivisor 3 = .ok (.lload_n 2, 1) := by decide +kernel
theorem dX6_commonDivisor_4 : decode cX6_commonDivisor 4 = .ok (.lstore 6, 2) := by decide +kernel
theorem dX6_commonDivisor_6 : decode cX6_commonDivisor 6 = .ok (.iconst 0, 1) := by decide +kernel
theorem dX6_commonDivisor_7 : decode cX6_commonDivisor 7 = .ok (.istore 8, 2) := by decide +kernel
theorem dX6_commonDivisor_9 : decode cX6_commonDivisor 9 = .ok (.iload 8, 2) := by decide +kernel
theorem dX6_commonDivisor_11 : decode cX6_commonDivisor 11 = .ok (.bipush 100, 2) := by decide +kernel
theorem dX6_commonDivisor_13 : decode cX6_commonDivisor 13 = .ok (.if_icmp .ge 31, 3) := by decide +kernel
theorem dX6_commonDivisor_16 : decode cX6_commonDivisor 16 = .ok (.lload 6, 2) := by decide +kernel
theorem dX6_commonDivisor_18 : decode cX6_commonDivisor 18 = .ok (.lconst 0, 1) := by decide +kernel
theorem dX6_commonDivisor_19 : decode cX6_commonDivisor 19 = .ok (.lcmp, 1) := by decide +kernel
theorem dX6_commonDivisor_20 : decode cX6_commonDivisor 20 = .ok (.ifCond .eq 24, 3) := by decide +kernel
theorem dX6_commonDivisor_23 : decode cX6_commonDivisor 23 = .ok (.lload 4, 2) := by decide +kernel
theorem dX6_commonDivisor_25 : decode cX6_commonDivisor 25 = .ok (.lload 6, 2) := by decide +kernel
theorem dX6_commonDivisor_27 : decode cX6_commonDivisor 27 = .ok (.lrem, 1) := by decide +kernel
theorem dX6_commonDivisor_28 : decode cX6_commonDivisor 28 = .ok (.lstore 9, 2) := by decide +kernel
theorem dX6_commonDivisor_30 : decode cX6_commonDivisor 30 = .ok (.lload 6, 2) := by decide +kernel
theorem dX6_commonDivisor_32 : decode cX6_commonDivisor 32 = .ok (.lstore 4, 2) := by decide +kernel
theorem dX6_commonDivisor_34 : decode cX6_commonDivisor 34 = .ok (.lload 9, 2) := by decide +kernel
theorem dX6_commonDivisor_36 : decode cX6_commonDivisor 36 = .ok (.lstore 6, 2) := by decide +kernel
theorem dX6_commonDivisor_38 : decode cX6_commonDivisor 38 = .ok (.iinc 8 1, 3) := by decide +kernel
theorem dX6_commonDivisor_41 : decode cX6_commonDivisor 41 = .ok (.goto (-32), 3) := by decide +kernel
theorem dX6_commonDivisor_44 : decode cX6_commonDivisor 44 = .ok (.lload 4, 2) := by decide +kernel
theorem dX6_commonDivisor_46 : decode cX6_commonDivisor 46 = .ok (.lreturn, 1) := by decide +kernel
theorem dX6_roundedDown_0 : decode cX6_roundedDown 0 = .ok (.lload_n 2, 1) := by decide +kernel
theorem dX6_roundedDown_1 : decode cX6_roundedDown 1 = .ok (.lconst 0, 1) := by decide +kernel
theorem dX6_roundedDown_2 : decode cX6_roundedDown 2 = .ok (.lcmp, 1) := by decide +kernel
theorem dX6_roundedDown_3 : decode cX6_roundedDown 3 = .ok (.ifCond .le 9, 3) := by decide +kernel
theorem dX6_roundedDown_6 : decode cX6_roundedDown 6 = .ok (.lload_n 0, 1) := by decide +kernel
theorem dX6_roundedDown_7 : decode cX6_roundedDown 7 = .ok (.lload_n 2, 1) := by decide +kernel
theorem dX6_roundedDown_8 : decode cX6_roundedDown 8 = .ok (.ldiv, 1) := by decide +kernel
theorem dX6_roundedDown_9 : decode cX6_roundedDown 9 = .ok (.goto 4, 3) := by decide +kernel
theorem dX6_roundedDown_12 : decode cX6_roundedDown 12 = .ok (.lconst 0, 1) := by decide +kernel
theorem dX6_roundedDown_13 : decode cX6_roundedDown 13 = .ok (.lreturn, 1) := by decide +kernel
set_option maxRecDepth 20000 in
theorem ggX6_roundedUp_X6_roundedDown : GoodIn wsX6_roundedUp wsX6_roundedDown := goodIn_r _ [4] (by decide +kernel) (by decide +kernel)
set_option maxRecDepth 20000 in
theorem gX6_roundedUp_X6_roundedDown : GoodIn wsX6_roundedUp (va_wsS RX6 177 yX6_roundedDown wsX6_roundedDown) := goodIn_app (goodIn_of _ (by decide +kernel)) ggX6_roundedUp_X6_roundedDown
theorem dX6_roundedUp_0 : decode cX6_roundedUp 0 = .ok (.lload_n 0, 1) := by decide +kernel
theorem dX6_roundedUp_1 : decode cX6_roundedUp 1 = .ok (.lload_n 2, 1) := by decide +kernel
theorem dX6_roundedUp_2 : decode cX6_roundedUp 2 = .ok (.ladd, 1) := by decide +kernel
theorem dX6_roundedUp_3 : decode cX6_roundedUp 3 = .ok (.lconst 1, 1) := by decide +kernel
theorem dX6_roundedUp_4 : decode cX6_roundedUp 4 = .ok (.lsub, 1) := by decide +kernel
theorem dX6_roundedUp_5 : decode cX6_roundedUp 5 = .ok (.lload_n 2, 1) := by decide +kernel
theorem dX6_roundedUp_6 : decode cX6_roundedUp 6 = .ok (.invokestatic 177, 3) := by decide +kernel
theorem dX6_roundedUp_9 : decode cX6_roundedUp 9 = .ok (.lreturn, 1) := by decide +kernel
theorem dX7_init_0 : decode cX7_init 0 = .ok (.aload_n 0, 1) := by decide +kernel
theorem dX7_init_1 : decode cX7_init 1 = .ok (.invokespecial 1, 3) := by decide +kernel
theorem dX7_init_4 : decode cX7_init 4 = .ok (.aload_n 0, 1) := by decide +kernel
theorem dX7_init_5 : decode cX7_init 5 = .ok (.iconst 1, 1) := by decide +kernel
theorem dX7_init_6 : decode cX7_init 6 = .ok (.putfield 7, 3) := by decide +kernel
theorem dX7_init_9 : decode cX7_init 9 = .ok (.aload_n 0, 1) := by decide +kernel
theorem dX7_init_10 : decode cX7_init 10 = .ok (.sipush 200, 3) := by decide +kernel
theorem dX7_init_13 : decode cX7_init 13 = .ok (.putfield 13, 3) := by decide +kernel
theorem dX7_init_16 : decode cX7_init 16 = .ok (.aload_n 0, 1) := by decide +kernel
theorem dX7_init_17 : decode cX7_init 17 = .ok (.bipush 10, 2) := by decide +kernel
theorem dX7_init_19 : decode cX7_init 19 = .ok (.putfield 16, 3) := by decide +kernel
theorem dX7_init_22 : decode cX7_init 22 = .ok (.aload_n 0, 1) := by decide +kernel
theorem dX7_init_23 : decode cX7_init 23 = .ok (.bipush 20, 2) := by decide +kernel
theorem dX7_init_25 : decode cX7_init 25 = .ok (.putfield 19, 3) := by decide +kernel
theorem dX7_init_28 : decode cX7_init 28 = .ok (.aload_n 0, 1) := by decide +kernel
theorem dX7_init_29 : decode cX7_init 29 = .ok (.bipush 42, 2) := by decide +kernel
theorem dX7_init_31 : decode cX7_init 31 = .ok (.newarray .int, 2) := by decide +kernel
theorem dX7_init_33 : decode cX7_init 33 = .ok (.putfield 22, 3) := by decide +kernel
theorem dX7_init_36 : decode cX7_init 36 = .ok (.aload_n 0, 1) := by decide +kernel
theorem dX7_init_37 : decode cX7_init 37 = .ok (.bipush 42, 2) := by decide +kernel
theorem dX7_init_39 : decode cX7_init 39 = .ok (.newarray .int, 2) := by decide +kernel
theorem dX7_init_41 : decode cX7_init 41 = .ok (.putfield 26, 3) := by decide +kernel
theorem dX7_init_44 : decode cX7_init 44 = .ok (.aload_n 0, 1) := by decide +kernel
theorem dX7_init_45 : decode cX7_init 45 = .ok (.iconst 3, 1) := by decide +kernel
theorem dX7_init_46 : decode cX7_init 46 = .ok (.putfield 29, 3) := by decide +kernel
theorem dX7_init_49 : decode cX7_init 49 = .ok (.aload_n 0, 1) := by decide +kernel
theorem dX7_init_50 : decode cX7_init 50 = .ok (.bipush 16, 2) := by decide +kernel
theorem dX7_init_52 : decode cX7_init 52 = .ok (.newarray .int, 2) := by decide +kernel
theorem dX7_init_54 : decode cX7_init 54 = .ok (.putfield 32, 3) := by decide +kernel
theorem dX7_init_57 : decode cX7_init 57 = .ok (.aload_n 0, 1) := by decide +kernel
theorem dX7_init_58 : decode cX7_init 58 = .ok (.iconst 4, 1) := by decide +kernel
theorem dX7_init_59 : decode cX7_init 59 = .ok (.newarray .int, 2) := by decide +kernel
theorem dX7_init_61 : decode cX7_init 61 = .ok (.putfield 35, 3) := by decide +kernel
theorem dX7_init_64 : decode cX7_init 64 = .ok (.aload_n 0, 1) := by decide +kernel
theorem dX7_init_65 : decode cX7_init 65 = .ok (.bipush 96, 2) := by decide +kernel
theorem dX7_init_67 : decode cX7_init 67 = .ok (.newarray .int, 2) := by decide +kernel
theorem dX7_init_69 : decode cX7_init 69 = .ok (.putfield 38, 3) := by decide +kernel
theorem dX7_init_72 : decode cX7_init 72 = .ok (.aload_n 0, 1) := by decide +kernel
theorem dX7_init_73 : decode cX7_init 73 = .ok (.bipush 24, 2) := by decide +kernel
theorem dX7_init_75 : decode cX7_init 75 = .ok (.newarray .int, 2) := by decide +kernel
theorem dX7_init_77 : decode cX7_init 77 = .ok (.putfield 41, 3) := by decide +kernel
theorem dX7_init_80 : decode cX7_init 80 = .ok (.aload_n 0, 1) := by decide +kernel
theorem dX7_init_81 : decode cX7_init 81 = .ok (.bipush 24, 2) := by decide +kernel
theorem dX7_init_83 : decode cX7_init 83 = .ok (.newarray .int, 2) := by decide +kernel
theorem dX7_init_85 : decode cX7_init 85 = .ok (.putfield 44, 3) := by decide +kernel
theorem dX7_init_88 : decode cX7_init 88 = .ok (.aload_n 0, 1) := by decide +kernel
theorem dX7_init_89 : decode cX7_init 89 = .ok (.sipush 576, 3) := by decide +kernel
theorem dX7_init_92 : decode cX7_init 92 = .ok (.newarray .int, 2) := by decide +kernel
theorem dX7_init_94 : decode cX7_init 94 = .ok (.putfield 47, 3) := by decide +kernel
theorem dX7_init_97 : decode cX7_init 97 = .ok (.aload_n 0, 1) := by decide +kernel
theorem dX7_init_98 : decode cX7_init 98 = .ok (.iconst 0, 1) := by decide +kernel
theorem dX7_init_99 : decode cX7_init 99 = .ok (.putfield 50, 3) := by decide +kernel
theorem dX7_init_102 : decode cX7_init 102 = .ok (.return_, 1) := by decide +kernel
theorem dX7_in_0 : decode cX7_in 0 = .ok (.iload_n 0, 1) := by decide +kernel
theorem dX7_in_1 : decode cX7_in 1 = .ok (.iload_n 1, 1) := by decide +kernel
theorem dX7_in_2 : decode cX7_in 2 = .ok (.if_icmp .lt 12, 3) := by decide +kernel
theorem dX7_in_5 : decode cX7_in 5 = .ok (.iload_n 0, 1) := by decide +kernel
theorem dX7_in_6 : decode cX7_in 6 = .ok (.iload_n 2, 1) := by decide +kernel
theorem dX7_in_7 : decode cX7_in 7 = .ok (.if_icmp .gt 7, 3) := by decide +kernel
theorem dX7_in_10 : decode cX7_in 10 = .ok (.iconst 1, 1) := by decide +kernel
theorem dX7_in_11 : decode cX7_in 11 = .ok (.goto 4, 3) := by decide +kernel
theorem dX7_in_14 : decode cX7_in 14 = .ok (.iconst 0, 1) := by decide +kernel
theorem dX7_in_15 : decode cX7_in 15 = .ok (.ireturn, 1) := by decide +kernel
theorem dX7_rentOf_0 : decode cX7_rentOf 0 = .ok (.aload_n 0, 1) := by decide +kernel
theorem dX7_rentOf_1 : decode cX7_rentOf 1 = .ok (.getfield 7, 3) := by decide +kernel
theorem dX7_rentOf_4 : decode cX7_rentOf 4 = .ok (.aload_n 0, 1) := by decide +kernel
theorem dX7_rentOf_5 : decode cX7_rentOf 5 = .ok (.getfield 53, 3) := by decide +kernel
theorem dX7_rentOf_8 : decode cX7_rentOf 8 = .ok (.ifCond .le 14, 3) := by decide +kernel
theorem dX7_rentOf_11 : decode cX7_rentOf 11 = .ok (.aload_n 0, 1) := by decide +kernel
theorem dX7_rentOf_12 : decode cX7_rentOf 12 = .ok (.getfield 56, 3) := by decide +kernel
theorem dX7_rentOf_15 : decode cX7_rentOf 15 = .ok (.iload_n 1, 1) := by decide +kernel
theorem dX7_rentOf_16 : decode cX7_rentOf 16 = .ok (.iconst 1, 1) := by decide +kernel
theorem dX7_rentOf_17 : decode cX7_rentOf 17 = .ok (.isub, 1) := by decide +kernel
theorem dX7_rentOf_18 : decode cX7_rentOf 18 = .ok (.imul, 1) := by decide +kernel
theorem dX7_rentOf_19 : decode cX7_rentOf 19 = .ok (.goto 4, 3) := by decide +kernel
theorem dX7_rentOf_22 : decode cX7_rentOf 22 = .ok (.iconst 0, 1) := by decide +kernel
theorem dX7_rentOf_23 : decode cX7_rentOf 23 = .ok (.iadd, 1) := by decide +kernel
theorem dX7_rentOf_24 : decode cX7_rentOf 24 = .ok (.istore_n 2, 1) := by decide +kernel
theorem dX7_rentOf_25 : decode cX7_rentOf 25 = .ok (.aload_n 0, 1) := by decide +kernel
theorem dX7_rentOf_26 : decode cX7_rentOf 26 = .ok (.getfield 53, 3) := by decide +kernel
theorem dX7_rentOf_29 : decode cX7_rentOf 29 = .ok (.iconst 2, 1) := by decide +kernel
theorem dX7_rentOf_30 : decode cX7_rentOf 30 = .ok (.if_icmp .ne 18, 3) := by decide +kernel
theorem dX7_rentOf_33 : decode cX7_rentOf 33 = .ok (.iload_n 2, 1) := by decide +kernel
theorem dX7_rentOf_34 : decode cX7_rentOf 34 = .ok (.aload_n 0, 1) := by decide +kernel
theorem dX7_rentOf_35 : decode cX7_rentOf 35 = .ok (.getfield 13, 3) := by decide +kernel
theorem dX7_rentOf_38 : decode cX7_rentOf 38 = .ok (.if_icmp .le 10, 3) := by decide +kernel
theorem dX7_rentOf_41 : decode cX7_rentOf 41 = .ok (.aload_n 0, 1) := by decide +kernel
theorem dX7_rentOf_42 : decode cX7_rentOf 42 = .ok (.getfield 13, 3) := by decide +kernel
theorem dX7_rentOf_45 : decode cX7_rentOf 45 = .ok (.goto 4, 3) := by decide +kernel
theorem dX7_rentOf_48 : decode cX7_rentOf 48 = .ok (.iload_n 2, 1) := by decide +kernel
theorem dX7_rentOf_49 : decode cX7_rentOf 49 = .ok (.ireturn, 1) := by decide +kernel
set_option maxRecDepth 20000 in
theorem ggX7_rentsTo_X7_rentOf : GoodIn wsX7_rentsTo wsX7_rentOf := goodIn_r _ [5, 6, 7, 8, 9, 10, 11, 12, 13, 14, 15, 16, 17, 18, 19, 20, 21, 22, 23, 24, 25, 26, 27] (by decide +kernel) (by decide +kernel)
set_option maxRecDepth 20000 in
theorem gX7_rentsTo_X7_rentOf : GoodIn wsX7_rentsTo (wsV RX7 59 RX7 yX7_rentOf wsX7_rentOf) := goodIn_app (goodIn_of _ (by decide +kernel)) ggX7_rentsTo_X7_rentOf
theorem dX7_rentsTo_0 : decode cX7_rentsTo 0 = .ok (.iconst 0, 1) := by decide +kernel
theorem dX7_rentsTo_1 : decode cX7_rentsTo 1 = .ok (.istore_n 2, 1) := by decide +kernel
theorem dX7_rentsTo_2 : decode cX7_rentsTo 2 = .ok (.iconst 1, 1) := by decide +kernel
theorem dX7_rentsTo_3 : decode cX7_rentsTo 3 = .ok (.istore_n 3, 1) := by decide +kernel
theorem dX7_rentsTo_4 : decode cX7_rentsTo 4 = .ok (.iload_n 3, 1) := by decide +kernel
theorem dX7_rentsTo_5 : decode cX7_rentsTo 5 = .ok (.iload_n 1, 1) := by decide +kernel
theorem dX7_rentsTo_6 : decode cX7_rentsTo 6 = .ok (.if_icmp .gt 17, 3) := by decide +kernel
theorem dX7_rentsTo_9 : decode cX7_rentsTo 9 = .ok (.iload_n 2, 1) := by decide +kernel
theorem dX7_rentsTo_10 : decode cX7_rentsTo 10 = .ok (.aload_n 0, 1) := by decide +kernel
theorem dX7_rentsTo_11 : decode cX7_rentsTo 11 = .ok (.iload_n 3, 1) := by decide +kernel
theorem dX7_rentsTo_12 : decode cX7_rentsTo 12 = .ok (.invokevirtual 59, 3) := by decide +kernel
theorem dX7_rentsTo_15 : decode cX7_rentsTo 15 = .ok (.iadd, 1) := by decide +kernel
theorem dX7_rentsTo_16 : decode cX7_rentsTo 16 = .ok (.istore_n 2, 1) := by decide +kernel
theorem dX7_rentsTo_17 : decode cX7_rentsTo 17 = .ok (.iinc 3 1, 3) := by decide +kernel
theorem dX7_rentsTo_20 : decode cX7_rentsTo 20 = .ok (.goto (-16), 3) := by decide +kernel
theorem dX7_rentsTo_23 : decode cX7_rentsTo 23 = .ok (.iload_n 2, 1) := by decide +kernel
theorem dX7_rentsTo_24 : decode cX7_rentsTo 24 = .ok (.ireturn, 1) := by decide +kernel
set_option maxRecDepth 20000 in
theorem ggX7_costOf_X7_rentsTo : GoodIn wsX7_costOf wsX7_rentsTo := goodIn_r _ [6, 7, 8, 9, 5, 10, 11, 12, 13, 14, 15, 16, 17, 18, 19, 20, 21, 22, 23, 24, 25, 26, 27, 28, 29, 30, 31, 32] (by decide +kernel) (by decide +kernel)
set_option maxRecDepth 20000 in
theorem gX7_costOf_X7_rentsTo : GoodIn wsX7_costOf (wsV RX7 63 RX7 yX7_rentsTo wsX7_rentsTo) := goodIn_app (goodIn_of _ (by decide +kernel)) ggX7_costOf_X7_rentsTo
theorem dX7_costOf_0 : decode cX7_costOf 0 = .ok (.iload_n 1, 1) := by decide +kernel
theorem dX7_costOf_1 : decode cX7_costOf 1 = .ok (.iload_n 2, 1) := by decide +kernel
theorem dX7_costOf_2 : decode cX7_costOf 2 = .ok (.if_icmp .gt 18, 3) := by decide +kernel
theorem dX7_costOf_5 : decode cX7_costOf 5 = .ok (.aload_n 0, 1) := by decide +kernel
theorem dX7_costOf_6 : decode cX7_costOf 6 = .ok (.iload_n 1, 1) := by decide +kernel
theorem dX7_costOf_7 : decode cX7_costOf 7 = .ok (.iconst 1, 1) := by decide +kernel
theorem dX7_costOf_8 : decode cX7_costOf 8 = .ok (.isub, 1) := by decide +kernel
theorem dX7_costOf_9 : decode cX7_costOf 9 = .ok (.invokevirtual 63, 3) := by decide +kernel
theorem dX7_costOf_12 : decode cX7_costOf 12 = .ok (.aload_n 0, 1) := by decide +kernel
theorem dX7_costOf_13 : decode cX7_costOf 13 = .ok (.getfield 16, 3) := by decide +kernel
theorem dX7_costOf_16 : decode cX7_costOf 16 = .ok (.iadd, 1) := by decide +kernel
theorem dX7_costOf_17 : decode cX7_costOf 17 = .ok (.goto 8, 3) := by decide +kernel
theorem dX7_costOf_20 : decode cX7_costOf 20 = .ok (.aload_n 0, 1) := by decide +kernel
theorem dX7_costOf_21 : decode cX7_costOf 21 = .ok (.iload_n 2, 1) := by decide +kernel
theorem dX7_costOf_22 : decode cX7_costOf 22 = .ok (.invokevirtual 63, 3) := by decide +kernel
theorem dX7_costOf_25 : decode cX7_costOf 25 = .ok (.ireturn, 1) := by decide +kernel
set_option maxRecDepth 20000 in
theorem ggX7_knownBy_X7_rentsTo : GoodIn wsX7_knownBy wsX7_rentsTo := goodIn_r _ [6, 7, 8, 9, 5, 10, 11, 12, 13, 14, 15, 16, 17, 18, 19, 20, 21, 22, 23, 24, 25, 26, 27, 28, 29, 30, 31, 32] (by decide +kernel) (by decide +kernel)
set_option maxRecDepth 20000 in
theorem gX7_knownBy_X7_rentsTo : GoodIn wsX7_knownBy (wsV RX7 63 RX7 yX7_rentsTo wsX7_rentsTo) := goodIn_app (goodIn_of _ (by decide +kernel)) ggX7_knownBy_X7_rentsTo
theorem dX7_knownBy_0 : decode cX7_knownBy 0 = .ok (.aload_n 0, 1) := by decide +kernel
theorem dX7_knownBy_1 : decode cX7_knownBy 1 = .ok (.iload_n 1, 1) := by decide +kernel
theorem dX7_knownBy_2 : decode cX7_knownBy 2 = .ok (.invokevirtual 63, 3) := by decide +kernel
theorem dX7_knownBy_5 : decode cX7_knownBy 5 = .ok (.istore_n 2, 1) := by decide +kernel
theorem dX7_knownBy_6 : decode cX7_knownBy 6 = .ok (.aload_n 0, 1) := by decide +kernel
theorem dX7_knownBy_7 : decode cX7_knownBy 7 = .ok (.getfield 16, 3) := by decide +kernel
theorem dX7_knownBy_10 : decode cX7_knownBy 10 = .ok (.iload_n 2, 1) := by decide +kernel
theorem dX7_knownBy_11 : decode cX7_knownBy 11 = .ok (.if_icmp .ge 10, 3) := by decide +kernel
theorem dX7_knownBy_14 : decode cX7_knownBy 14 = .ok (.aload_n 0, 1) := by decide +kernel
theorem dX7_knownBy_15 : decode cX7_knownBy 15 = .ok (.getfield 16, 3) := by decide +kernel
theorem dX7_knownBy_18 : decode cX7_knownBy 18 = .ok (.goto 4, 3) := by decide +kernel
theorem dX7_knownBy_21 : decode cX7_knownBy 21 = .ok (.iload_n 2, 1) := by decide +kernel
theorem dX7_knownBy_22 : decode cX7_knownBy 22 = .ok (.ireturn, 1) := by decide +kernel
set_option maxRecDepth 20000 in
theorem ggX7_offer_X7_in : GoodIn wsX7_offer wsX7_in := goodIn_r _ [10] (by decide +kernel) (by decide +kernel)
set_option maxRecDepth 20000 in
theorem gX7_offer_X7_in : GoodIn wsX7_offer (va_wsS RX7 66 yX7_in wsX7_in) := goodIn_app (goodIn_of _ (by decide +kernel)) ggX7_offer_X7_in
set_option maxRecDepth 20000 in
theorem ggX7_offer_X7_knownBy : GoodIn wsX7_offer wsX7_knownBy := goodIn_r _ [14, 5, 15, 16, 17, 9, 18, 19, 20, 21, 22, 2, 1, 3, 4, 23, 24, 25, 26, 27, 28, 29, 30, 31, 32, 33, 34, 35, 36, 37, 38, 39, 40] (by decide +kernel) (by decide +kernel)
set_option maxRecDepth 20000 in
theorem gX7_offer_X7_knownBy : GoodIn wsX7_offer (wsV RX7 70 RX7 yX7_knownBy wsX7_knownBy) := goodIn_app (goodIn_of _ (by decide +kernel)) ggX7_offer_X7_knownBy
theorem dX7_offer_0 : decode cX7_offer 0 = .ok (.iload_n 1, 1) := by decide +kernel
theorem dX7_offer_1 : decode cX7_offer 1 = .ok (.iconst 0, 1) := by decide +kernel
theorem dX7_offer_2 : decode cX7_offer 2 = .ok (.iconst 2, 1) := by decide +kernel
theorem dX7_offer_3 : decode cX7_offer 3 = .ok (.invokestatic 66, 3) := by decide +kernel
theorem dX7_offer_6 : decode cX7_offer 6 = .ok (.ifCond .eq 56, 3) := by decide +kernel
theorem dX7_offer_9 : decode cX7_offer 9 = .ok (.iload_n 2, 1) := by decide +kernel
theorem dX7_offer_10 : decode cX7_offer 10 = .ok (.iconst 1, 1) := by decide +kernel
theorem dX7_offer_11 : decode cX7_offer 11 = .ok (.bipush 50, 2) := by decide +kernel
theorem dX7_offer_13 : decode cX7_offer 13 = .ok (.invokestatic 66, 3) := by decide +kernel
theorem dX7_offer_16 : decode cX7_offer 16 = .ok (.ifCond .eq 46, 3) := by decide +kernel
theorem dX7_offer_19 : decode cX7_offer 19 = .ok (.iload_n 1, 1) := by decide +kernel
theorem dX7_offer_20 : decode cX7_offer 20 = .ok (.ifCond .le 13, 3) := by decide +kernel
theorem dX7_offer_23 : decode cX7_offer 23 = .ok (.iload_n 3, 1) := by decide +kernel
theorem dX7_offer_24 : decode cX7_offer 24 = .ok (.iconst 0, 1) := by decide +kernel
theorem dX7_offer_25 : decode cX7_offer 25 = .ok (.bipush 20, 2) := by decide +kernel
theorem dX7_offer_27 : decode cX7_offer 27 = .ok (.invokestatic 66, 3) := by decide +kernel
theorem dX7_offer_30 : decode cX7_offer 30 = .ok (.ifCond .eq 32, 3) := by decide +kernel
theorem dX7_offer_33 : decode cX7_offer 33 = .ok (.iload_n 1, 1) := by decide +kernel
theorem dX7_offer_34 : decode cX7_offer 34 = .ok (.iconst 2, 1) := by decide +kernel
theorem dX7_offer_35 : decode cX7_offer 35 = .ok (.if_icmp .ne 15, 3) := by decide +kernel
theorem dX7_offer_38 : decode cX7_offer 38 = .ok (.iload 4, 2) := by decide +kernel
theorem dX7_offer_40 : decode cX7_offer 40 = .ok (.iconst 1, 1) := by decide +kernel
theorem dX7_offer_41 : decode cX7_offer 41 = .ok (.sipush 200, 3) := by decide +kernel
theorem dX7_offer_44 : decode cX7_offer 44 = .ok (.invokestatic 66, 3) := by decide +kernel
theorem dX7_offer_47 : decode cX7_offer 47 = .ok (.ifCond .eq 15, 3) := by decide +kernel
theorem dX7_offer_50 : decode cX7_offer 50 = .ok (.iload 5, 2) := by decide +kernel
theorem dX7_offer_52 : decode cX7_offer 52 = .ok (.iconst 1, 1) := by decide +kernel
theorem dX7_offer_53 : decode cX7_offer 53 = .ok (.sipush 500, 3) := by decide +kernel
theorem dX7_offer_56 : decode cX7_offer 56 = .ok (.invokestatic 66, 3) := by decide +kernel
theorem dX7_offer_59 : decode cX7_offer 59 = .ok (.ifCond .ne 5, 3) := by decide +kernel
theorem dX7_offer_62 : decode cX7_offer 62 = .ok (.iconst (-1), 1) := by decide +kernel
theorem dX7_offer_63 : decode cX7_offer 63 = .ok (.ireturn, 1) := by decide +kernel
theorem dX7_offer_64 : decode cX7_offer 64 = .ok (.aload_n 0, 1) := by decide +kernel
theorem dX7_offer_65 : decode cX7_offer 65 = .ok (.iload_n 1, 1) := by decide +kernel
theorem dX7_offer_66 : decode cX7_offer 66 = .ok (.putfield 53, 3) := by decide +kernel
theorem dX7_offer_69 : decode cX7_offer 69 = .ok (.aload_n 0, 1) := by decide +kernel
theorem dX7_offer_70 : decode cX7_offer 70 = .ok (.iload_n 2, 1) := by decide +kernel
theorem dX7_offer_71 : decode cX7_offer 71 = .ok (.putfield 7, 3) := by decide +kernel
theorem dX7_offer_74 : decode cX7_offer 74 = .ok (.aload_n 0, 1) := by decide +kernel
theorem dX7_offer_75 : decode cX7_offer 75 = .ok (.iload_n 3, 1) := by decide +kernel
theorem dX7_offer_76 : decode cX7_offer 76 = .ok (.putfield 56, 3) := by decide +kernel
theorem dX7_offer_79 : decode cX7_offer 79 = .ok (.aload_n 0, 1) := by decide +kernel
theorem dX7_offer_80 : decode cX7_offer 80 = .ok (.iload 4, 2) := by decide +kernel
theorem dX7_offer_82 : decode cX7_offer 82 = .ok (.putfield 13, 3) := by decide +kernel
theorem dX7_offer_85 : decode cX7_offer 85 = .ok (.aload_n 0, 1) := by decide +kernel
theorem dX7_offer_86 : decode cX7_offer 86 = .ok (.iload 5, 2) := by decide +kernel
theorem dX7_offer_88 : decode cX7_offer 88 = .ok (.putfield 16, 3) := by decide +kernel
theorem dX7_offer_91 : decode cX7_offer 91 = .ok (.aload_n 0, 1) := by decide +kernel
theorem dX7_offer_92 : decode cX7_offer 92 = .ok (.aload_n 0, 1) := by decide +kernel
theorem dX7_offer_93 : decode cX7_offer 93 = .ok (.getfield 19, 3) := by decide +kernel
theorem dX7_offer_96 : decode cX7_offer 96 = .ok (.invokevirtual 70, 3) := by decide +kernel
theorem dX7_offer_99 : decode cX7_offer 99 = .ok (.ireturn, 1) := by decide +kernel
set_option maxRecDepth 20000 in
theorem ggX7_ends_X7_in : GoodIn wsX7_ends wsX7_in := goodIn_r _ [7] (by decide +kernel) (by decide +kernel)
set_option maxRecDepth 20000 in
theorem gX7_ends_X7_in : GoodIn wsX7_ends (va_wsS RX7 66 yX7_in wsX7_in) := goodIn_app (goodIn_of _ (by decide +kernel)) ggX7_ends_X7_in
theorem dX7_ends_0 : decode cX7_ends 0 = .ok (.iload_n 1, 1) := by decide +kernel
theorem dX7_ends_1 : decode cX7_ends 1 = .ok (.iconst 1, 1) := by decide +kernel
theorem dX7_ends_2 : decode cX7_ends 2 = .ok (.bipush 40, 2) := by decide +kernel
theorem dX7_ends_4 : decode cX7_ends 4 = .ok (.invokestatic 66, 3) := by decide +kernel
theorem dX7_ends_7 : decode cX7_ends 7 = .ok (.ifCond .ne 5, 3) := by decide +kernel
theorem dX7_ends_10 : decode cX7_ends 10 = .ok (.iconst (-1), 1) := by decide +kernel
theorem dX7_ends_11 : decode cX7_ends 11 = .ok (.ireturn, 1) := by decide +kernel
theorem dX7_ends_12 : decode cX7_ends 12 = .ok (.aload_n 0, 1) := by decide +kernel
theorem dX7_ends_13 : decode cX7_ends 13 = .ok (.getfield 19, 3) := by decide +kernel
theorem dX7_ends_16 : decode cX7_ends 16 = .ok (.istore_n 2, 1) := by decide +kernel
theorem dX7_ends_17 : decode cX7_ends 17 = .ok (.aload_n 0, 1) := by decide +kernel
theorem dX7_ends_18 : decode cX7_ends 18 = .ok (.iload_n 1, 1) := by decide +kernel
theorem dX7_ends_19 : decode cX7_ends 19 = .ok (.putfield 19, 3) := by decide +kernel
theorem dX7_ends_22 : decode cX7_ends 22 = .ok (.iconst 0, 1) := by decide +kernel
theorem dX7_ends_23 : decode cX7_ends 23 = .ok (.istore_n 3, 1) := by decide +kernel
theorem dX7_ends_24 : decode cX7_ends 24 = .ok (.iload_n 3, 1) := by decide +kernel
theorem dX7_ends_25 : decode cX7_ends 25 = .ok (.bipush 42, 2) := by decide +kernel
theorem dX7_ends_27 : decode cX7_ends 27 = .ok (.if_icmp .ge 23, 3) := by decide +kernel
theorem dX7_ends_30 : decode cX7_ends 30 = .ok (.aload_n 0, 1) := by decide +kernel
theorem dX7_ends_31 : decode cX7_ends 31 = .ok (.getfield 22, 3) := by decide +kernel
theorem dX7_ends_34 : decode cX7_ends 34 = .ok (.iload_n 3, 1) := by decide +kernel
theorem dX7_ends_35 : decode cX7_ends 35 = .ok (.iconst 0, 1) := by decide +kernel
theorem dX7_ends_36 : decode cX7_ends 36 = .ok (.iastore, 1) := by decide +kernel
theorem dX7_ends_37 : decode cX7_ends 37 = .ok (.aload_n 0, 1) := by decide +kernel
theorem dX7_ends_38 : decode cX7_ends 38 = .ok (.getfield 26, 3) := by decide +kernel
theorem dX7_ends_41 : decode cX7_ends 41 = .ok (.iload_n 3, 1) := by decide +kernel
theorem dX7_ends_42 : decode cX7_ends 42 = .ok (.iconst 0, 1) := by decide +kernel
theorem dX7_ends_43 : decode cX7_ends 43 = .ok (.iastore, 1) := by decide +kernel
theorem dX7_ends_44 : decode cX7_ends 44 = .ok (.iinc 3 1, 3) := by decide +kernel
theorem dX7_ends_47 : decode cX7_ends 47 = .ok (.goto (-23), 3) := by decide +kernel
theorem dX7_ends_50 : decode cX7_ends 50 = .ok (.iload_n 2, 1) := by decide +kernel
theorem dX7_ends_51 : decode cX7_ends 51 = .ok (.ireturn, 1) := by decide +kernel
set_option maxRecDepth 20000 in
theorem ggX7_rent_X7_in : GoodIn wsX7_rent wsX7_in := goodIn_r _ [8] (by decide +kernel) (by decide +kernel)
set_option maxRecDepth 20000 in
theorem gX7_rent_X7_in : GoodIn wsX7_rent (va_wsS RX7 66 yX7_in wsX7_in) := goodIn_app (goodIn_of _ (by decide +kernel)) ggX7_rent_X7_in
set_option maxRecDepth 20000 in
theorem ggX7_rent_X7_rentOf : GoodIn wsX7_rent wsX7_rentOf := goodIn_r _ [12, 13, 2, 14, 15, 16, 17, 18, 19, 20, 21, 22, 23, 24, 25, 26, 27, 28, 29, 30, 31, 32, 33] (by decide +kernel) (by decide +kernel)
set_option maxRecDepth 20000 in
theorem gX7_rent_X7_rentOf : GoodIn wsX7_rent (wsV RX7 59 RX7 yX7_rentOf wsX7_rentOf) := goodIn_app (goodIn_of _ (by decide +kernel)) ggX7_rent_X7_rentOf
theorem dX7_rent_0 : decode cX7_rent 0 = .ok (.iload_n 1, 1) := by decide +kernel
theorem dX7_rent_1 : decode cX7_rent 1 = .ok (.iconst 1, 1) := by decide +kernel
theorem dX7_rent_2 : decode cX7_rent 2 = .ok (.bipush 40, 2) := by decide +kernel
theorem dX7_rent_4 : decode cX7_rent 4 = .ok (.invokestatic 66, 3) := by decide +kernel
theorem dX7_rent_7 : decode cX7_rent 7 = .ok (.ifCond .ne 5, 3) := by decide +kernel
theorem dX7_rent_10 : decode cX7_rent 10 = .ok (.iconst (-1), 1) := by decide +kernel
theorem dX7_rent_11 : decode cX7_rent 11 = .ok (.ireturn, 1) := by decide +kernel
theorem dX7_rent_12 : decode cX7_rent 12 = .ok (.aload_n 0, 1) := by decide +kernel
theorem dX7_rent_13 : decode cX7_rent 13 = .ok (.dup, 1) := by decide +kernel
theorem dX7_rent_14 : decode cX7_rent 14 = .ok (.getfield 73, 3) := by decide +kernel
theorem dX7_rent_17 : decode cX7_rent 17 = .ok (.aload_n 0, 1) := by decide +kernel
theorem dX7_rent_18 : decode cX7_rent 18 = .ok (.getfield 53, 3) := by decide +kernel
theorem dX7_rent_21 : decode cX7_rent 21 = .ok (.ifCond .ne 7, 3) := by decide +kernel
theorem dX7_rent_24 : decode cX7_rent 24 = .ok (.lconst 1, 1) := by decide +kernel
theorem dX7_rent_25 : decode cX7_rent 25 = .ok (.goto 20, 3) := by decide +kernel
theorem dX7_rent_28 : decode cX7_rent 28 = .ok (.aload_n 0, 1) := by decide +kernel
theorem dX7_rent_29 : decode cX7_rent 29 = .ok (.getfield 53, 3) := by decide +kernel
theorem dX7_rent_32 : decode cX7_rent 32 = .ok (.iconst 1, 1) := by decide +kernel
theorem dX7_rent_33 : decode cX7_rent 33 = .ok (.if_icmp .ne 9, 3) := by decide +kernel
theorem dX7_rent_36 : decode cX7_rent 36 = .ok (.ldc2_w 77, 3) := by decide +kernel
theorem dX7_rent_39 : decode cX7_rent 39 = .ok (.goto 6, 3) := by decide +kernel
theorem dX7_rent_42 : decode cX7_rent 42 = .ok (.ldc2_w 79, 3) := by decide +kernel
theorem dX7_rent_45 : decode cX7_rent 45 = .ok (.ladd, 1) := by decide +kernel
theorem dX7_rent_46 : decode cX7_rent 46 = .ok (.putfield 73, 3) := by decide +kernel
theorem dX7_rent_49 : decode cX7_rent 49 = .ok (.aload_n 0, 1) := by decide +kernel
theorem dX7_rent_50 : decode cX7_rent 50 = .ok (.iload_n 1, 1) := by decide +kernel
theorem dX7_rent_51 : decode cX7_rent 51 = .ok (.invokevirtual 59, 3) := by decide +kernel
theorem dX7_rent_54 : decode cX7_rent 54 = .ok (.ireturn, 1) := by decide +kernel
set_option maxRecDepth 20000 in
theorem ggX7_isPlan_X7_in : GoodIn wsX7_isPlan wsX7_in := goodIn_r _ [5] (by decide +kernel) (by decide +kernel)
set_option maxRecDepth 20000 in
theorem gX7_isPlan_X7_in : GoodIn wsX7_isPlan (va_wsS RX7 66 yX7_in wsX7_in) := goodIn_app (goodIn_of _ (by decide +kernel)) ggX7_isPlan_X7_in
theorem dX7_isPlan_0 : decode cX7_isPlan 0 = .ok (.iload_n 1, 1) := by decide +kernel
theorem dX7_isPlan_1 : decode cX7_isPlan 1 = .ok (.iconst 1, 1) := by decide +kernel
theorem dX7_isPlan_2 : decode cX7_isPlan 2 = .ok (.aload_n 0, 1) := by decide +kernel
theorem dX7_isPlan_3 : decode cX7_isPlan 3 = .ok (.getfield 19, 3) := by decide +kernel
theorem dX7_isPlan_6 : decode cX7_isPlan 6 = .ok (.iconst 1, 1) := by decide +kernel
theorem dX7_isPlan_7 : decode cX7_isPlan 7 = .ok (.iadd, 1) := by decide +kernel
theorem dX7_isPlan_8 : decode cX7_isPlan 8 = .ok (.invokestatic 66, 3) := by decide +kernel
theorem dX7_isPlan_11 : decode cX7_isPlan 11 = .ok (.ireturn, 1) := by decide +kernel
set_option maxRecDepth 20000 in
theorem ggX7_isEnd_X7_in : GoodIn wsX7_isEnd wsX7_in := goodIn_r _ [5] (by decide +kernel) (by decide +kernel)
set_option maxRecDepth 20000 in
theorem gX7_isEnd_X7_in : GoodIn wsX7_isEnd (va_wsS RX7 66 yX7_in wsX7_in) := goodIn_app (goodIn_of _ (by decide +kernel)) ggX7_isEnd_X7_in
theorem dX7_isEnd_0 : decode cX7_isEnd 0 = .ok (.iload_n 1, 1) := by decide +kernel
theorem dX7_isEnd_1 : decode cX7_isEnd 1 = .ok (.iconst 1, 1) := by decide +kernel
theorem dX7_isEnd_2 : decode cX7_isEnd 2 = .ok (.aload_n 0, 1) := by decide +kernel
theorem dX7_isEnd_3 : decode cX7_isEnd 3 = .ok (.getfield 19, 3) := by decide +kernel
theorem dX7_isEnd_6 : decode cX7_isEnd 6 = .ok (.invokestatic 66, 3) := by decide +kernel
theorem dX7_isEnd_9 : decode cX7_isEnd 9 = .ok (.ireturn, 1) := by decide +kernel
set_option maxRecDepth 20000 in
theorem ggX7_cost_X7_isPlan : GoodIn wsX7_cost wsX7_isPlan := goodIn_r _ [5, 6, 7, 8, 4, 9, 31, 32, 33, 34, 35, 36, 37, 38, 39, 40, 41, 42, 43, 44, 45, 46, 47, 48] (by decide +kernel) (by decide +kernel)
set_option maxRecDepth 20000 in
theorem gX7_cost_X7_isPlan : GoodIn wsX7_cost (wsV RX7 81 RX7 yX7_isPlan wsX7_isPlan) := goodIn_app (goodIn_of _ (by decide +kernel)) ggX7_cost_X7_isPlan
set_option maxRecDepth 20000 in
theorem ggX7_cost_X7_isEnd : GoodIn wsX7_cost wsX7_isEnd := goodIn_r _ [13, 6, 7, 8, 4, 9, 31, 32, 33, 34, 35, 36, 37, 38, 39, 40, 41, 42, 43, 44, 45, 46, 47, 48] (by decide +kernel) (by decide +kernel)
set_option maxRecDepth 20000 in
theorem gX7_cost_X7_isEnd : GoodIn wsX7_cost (wsV RX7 85 RX7 yX7_isEnd wsX7_isEnd) := goodIn_app (goodIn_of _ (by decide +kernel)) ggX7_cost_X7_isEnd
set_option maxRecDepth 20000 in
theorem ggX7_cost_X7_costOf : GoodIn wsX7_cost wsX7_costOf := goodIn_r _ [17, 18, 19, 20, 21, 4, 22, 23, 24, 25, 26, 27, 28, 29, 30, 31, 32, 33, 34, 35, 36, 37, 38, 39, 40, 41, 42, 43, 44, 45, 46, 47, 48] (by decide +kernel) (by decide +kernel)
set_option maxRecDepth 20000 in
theorem gX7_cost_X7_costOf : GoodIn wsX7_cost (wsV RX7 88 RX7 yX7_costOf wsX7_costOf) := goodIn_app (goodIn_of _ (by decide +kernel)) ggX7_cost_X7_costOf
theorem dX7_cost_0 : decode cX7_cost 0 = .ok (.aload_n 0, 1) := by decide +kernel
theorem dX7_cost_1 : decode cX7_cost 1 = .ok (.iload_n 1, 1) := by decide +kernel
theorem dX7_cost_2 : decode cX7_cost 2 = .ok (.invokevirtual 81, 3) := by decide +kernel
theorem dX7_cost_5 : decode cX7_cost 5 = .ok (.ifCond .eq 20, 3) := by decide +kernel
theorem dX7_cost_8 : decode cX7_cost 8 = .ok (.aload_n 0, 1) := by decide +kernel
theorem dX7_cost_9 : decode cX7_cost 9 = .ok (.iload_n 2, 1) := by decide +kernel
theorem dX7_cost_10 : decode cX7_cost 10 = .ok (.invokevirtual 85, 3) := by decide +kernel
theorem dX7_cost_13 : decode cX7_cost 13 = .ok (.ifCond .eq 12, 3) := by decide +kernel
theorem dX7_cost_16 : decode cX7_cost 16 = .ok (.aload_n 0, 1) := by decide +kernel
theorem dX7_cost_17 : decode cX7_cost 17 = .ok (.iload_n 1, 1) := by decide +kernel
theorem dX7_cost_18 : decode cX7_cost 18 = .ok (.iload_n 2, 1) := by decide +kernel
theorem dX7_cost_19 : decode cX7_cost 19 = .ok (.invokevirtual 88, 3) := by decide +kernel
theorem dX7_cost_22 : decode cX7_cost 22 = .ok (.goto 4, 3) := by decide +kernel
theorem dX7_cost_25 : decode cX7_cost 25 = .ok (.iconst (-1), 1) := by decide +kernel
theorem dX7_cost_26 : decode cX7_cost 26 = .ok (.ireturn, 1) := by decide +kernel
set_option maxRecDepth 20000 in
theorem ggX7_known_X7_isEnd : GoodIn wsX7_known wsX7_isEnd := goodIn_r _ [5, 6, 7, 8, 4, 9, 27, 28, 29, 30, 31, 32, 33, 34, 35, 36, 37, 38, 39, 40, 41, 42, 43, 44] (by decide +kernel) (by decide +kernel)
set_option maxRecDepth 20000 in
theorem gX7_known_X7_isEnd : GoodIn wsX7_known (wsV RX7 85 RX7 yX7_isEnd wsX7_isEnd) := goodIn_app (goodIn_of _ (by decide +kernel)) ggX7_known_X7_isEnd
set_option maxRecDepth 20000 in
theorem ggX7_known_X7_knownBy : GoodIn wsX7_known wsX7_knownBy := goodIn_r _ [13, 14, 15, 16, 17, 4, 18, 19, 20, 21, 22, 23, 24, 25, 26, 27, 28, 29, 30, 31, 32, 33, 34, 35, 36, 37, 38, 39, 40, 41, 42, 43, 44] (by decide +kernel) (by decide +kernel)
set_option maxRecDepth 20000 in
theorem gX7_known_X7_knownBy : GoodIn wsX7_known (wsV RX7 70 RX7 yX7_knownBy wsX7_knownBy) := goodIn_app (goodIn_of _ (by decide +kernel)) ggX7_known_X7_knownBy
theorem dX7_known_0 : decode cX7_known 0 = .ok (.aload_n 0, 1) := by decide +kernel
theorem dX7_known_1 : decode cX7_known 1 = .ok (.iload_n 1, 1) := by decide +kernel
theorem dX7_known_2 : decode cX7_known 2 = .ok (.invokevirtual 85, 3) := by decide +kernel
theorem dX7_known_5 : decode cX7_known 5 = .ok (.ifCond .eq 11, 3) := by decide +kernel
theorem dX7_known_8 : decode cX7_known 8 = .ok (.aload_n 0, 1) := by decide +kernel
theorem dX7_known_9 : decode cX7_known 9 = .ok (.iload_n 1, 1) := by decide +kernel
theorem dX7_known_10 : decode cX7_known 10 = .ok (.invokevirtual 70, 3) := by decide +kernel
theorem dX7_known_13 : decode cX7_known 13 = .ok (.goto 4, 3) := by decide +kernel
theorem dX7_known_16 : decode cX7_known 16 = .ok (.iconst (-1), 1) := by decide +kernel
theorem dX7_known_17 : decode cX7_known 17 = .ok (.ireturn, 1) := by decide +kernel
set_option maxRecDepth 20000 in
theorem ggX7_worstEnd_X7_costOf : GoodIn wsX7_worstEnd wsX7_costOf := goodIn_r _ [6, 7, 8, 9, 10, 5, 11, 12, 13, 14, 15, 16, 17, 18, 19, 24, 25, 26, 27, 28, 29, 30, 31, 32, 33, 34, 35, 36, 37, 38, 39, 40, 41] (by decide +kernel) (by decide +kernel)
set_option maxRecDepth 20000 in
theorem gX7_worstEnd_X7_costOf : GoodIn wsX7_worstEnd (wsV RX7 88 RX7 yX7_costOf wsX7_costOf) := goodIn_app (goodIn_of _ (by decide +kernel)) ggX7_worstEnd_X7_costOf
set_option maxRecDepth 20000 in
theorem ggX7_worstEnd_X7_knownBy : GoodIn wsX7_worstEnd wsX7_knownBy := goodIn_r _ [23, 7, 8, 9, 10, 5, 11, 12, 13, 14, 15, 16, 17, 18, 19, 24, 25, 26, 27, 28, 29, 30, 31, 32, 33, 34, 35, 36, 37, 38, 39, 40, 41] (by decide +kernel) (by decide +kernel)
set_option maxRecDepth 20000 in
theorem gX7_worstEnd_X7_knownBy : GoodIn wsX7_worstEnd (wsV RX7 70 RX7 yX7_knownBy wsX7_knownBy) := goodIn_app (goodIn_of _ (by decide +kernel)) ggX7_worstEnd_X7_knownBy
theorem dX7_worstEnd_0 : decode cX7_worstEnd 0 = .ok (.iconst 1, 1) := by decide +kernel
theorem dX7_worstEnd_1 : decode cX7_worstEnd 1 = .ok (.istore_n 2, 1) := by decide +kernel
theorem dX7_worstEnd_2 : decode cX7_worstEnd 2 = .ok (.iconst 2, 1) := by decide +kernel
theorem dX7_worstEnd_3 : decode cX7_worstEnd 3 = .ok (.istore_n 3, 1) := by decide +kernel
theorem dX7_worstEnd_4 : decode cX7_worstEnd 4 = .ok (.iload_n 3, 1) := by decide +kernel
theorem dX7_worstEnd_5 : decode cX7_worstEnd 5 = .ok (.aload_n 0, 1) := by decide +kernel
theorem dX7_worstEnd_6 : decode cX7_worstEnd 6 = .ok (.getfield 19, 3) := by decide +kernel
theorem dX7_worstEnd_9 : decode cX7_worstEnd 9 = .ok (.if_icmp .gt 47, 3) := by decide +kernel
theorem dX7_worstEnd_12 : decode cX7_worstEnd 12 = .ok (.aload_n 0, 1) := by decide +kernel
theorem dX7_worstEnd_13 : decode cX7_worstEnd 13 = .ok (.iload_n 1, 1) := by decide +kernel
theorem dX7_worstEnd_14 : decode cX7_worstEnd 14 = .ok (.iload_n 3, 1) := by decide +kernel
theorem dX7_worstEnd_15 : decode cX7_worstEnd 15 = .ok (.invokevirtual 88, 3) := by decide +kernel
theorem dX7_worstEnd_18 : decode cX7_worstEnd 18 = .ok (.i2l, 1) := by decide +kernel
theorem dX7_worstEnd_19 : decode cX7_worstEnd 19 = .ok (.aload_n 0, 1) := by decide +kernel
theorem dX7_worstEnd_20 : decode cX7_worstEnd 20 = .ok (.iload_n 2, 1) := by decide +kernel
theorem dX7_worstEnd_21 : decode cX7_worstEnd 21 = .ok (.invokevirtual 70, 3) := by decide +kernel
theorem dX7_worstEnd_24 : decode cX7_worstEnd 24 = .ok (.i2l, 1) := by decide +kernel
theorem dX7_worstEnd_25 : decode cX7_worstEnd 25 = .ok (.lmul, 1) := by decide +kernel
theorem dX7_worstEnd_26 : decode cX7_worstEnd 26 = .ok (.aload_n 0, 1) := by decide +kernel
theorem dX7_worstEnd_27 : decode cX7_worstEnd 27 = .ok (.iload_n 1, 1) := by decide +kernel
theorem dX7_worstEnd_28 : decode cX7_worstEnd 28 = .ok (.iload_n 2, 1) := by decide +kernel
theorem dX7_worstEnd_29 : decode cX7_worstEnd 29 = .ok (.invokevirtual 88, 3) := by decide +kernel
theorem dX7_worstEnd_32 : decode cX7_worstEnd 32 = .ok (.i2l, 1) := by decide +kernel
theorem dX7_worstEnd_33 : decode cX7_worstEnd 33 = .ok (.aload_n 0, 1) := by decide +kernel
theorem dX7_worstEnd_34 : decode cX7_worstEnd 34 = .ok (.iload_n 3, 1) := by decide +kernel
theorem dX7_worstEnd_35 : decode cX7_worstEnd 35 = .ok (.invokevirtual 70, 3) := by decide +kernel
theorem dX7_worstEnd_38 : decode cX7_worstEnd 38 = .ok (.i2l, 1) := by decide +kernel
theorem dX7_worstEnd_39 : decode cX7_worstEnd 39 = .ok (.lmul, 1) := by decide +kernel
theorem dX7_worstEnd_40 : decode cX7_worstEnd 40 = .ok (.lcmp, 1) := by decide +kernel
theorem dX7_worstEnd_41 : decode cX7_worstEnd 41 = .ok (.ifCond .le 7, 3) := by decide +kernel
theorem dX7_worstEnd_44 : decode cX7_worstEnd 44 = .ok (.iload_n 3, 1) := by decide +kernel
theorem dX7_worstEnd_45 : decode cX7_worstEnd 45 = .ok (.goto 4, 3) := by decide +kernel
theorem dX7_worstEnd_48 : decode cX7_worstEnd 48 = .ok (.iload_n 2, 1) := by decide +kernel
theorem dX7_worstEnd_49 : decode cX7_worstEnd 49 = .ok (.istore_n 2, 1) := by decide +kernel
theorem dX7_worstEnd_50 : decode cX7_worstEnd 50 = .ok (.iinc 3 1, 3) := by decide +kernel
theorem dX7_worstEnd_53 : decode cX7_worstEnd 53 = .ok (.goto (-49), 3) := by decide +kernel
theorem dX7_worstEnd_56 : decode cX7_worstEnd 56 = .ok (.iload_n 2, 1) := by decide +kernel
theorem dX7_worstEnd_57 : decode cX7_worstEnd 57 = .ok (.ireturn, 1) := by decide +kernel
theorem dX7_common_0 : decode cX7_common 0 = .ok (.lload_n 0, 1) := by decide +kernel
theorem dX7_common_1 : decode cX7_common 1 = .ok (.lstore 4, 2) := by decide +kernel
theorem dX7_common_3 : decode cX7_common 3 = .ok (.lload_n 2, 1) := by decide +kernel
theorem dX7_common_4 : decode cX7_common 4 = .ok (.lstore 6, 2) := by decide +kernel
theorem dX7_common_6 : decode cX7_common 6 = .ok (.lload 6, 2) := by decide +kernel
theorem dX7_common_8 : decode cX7_common 8 = .ok (.lconst 0, 1) := by decide +kernel
theorem dX7_common_9 : decode cX7_common 9 = .ok (.lcmp, 1) := by decide +kernel
theorem dX7_common_10 : decode cX7_common 10 = .ok (.ifCond .eq 21, 3) := by decide +kernel
theorem dX7_common_13 : decode cX7_common 13 = .ok (.lload 4, 2) := by decide +kernel
theorem dX7_common_15 : decode cX7_common 15 = .ok (.lload 6, 2) := by decide +kernel
theorem dX7_common_17 : decode cX7_common 17 = .ok (.lrem, 1) := by decide +kernel
theorem dX7_common_18 : decode cX7_common 18 = .ok (.lstore 8, 2) := by decide +kernel
theorem dX7_common_20 : decode cX7_common 20 = .ok (.lload 6, 2) := by decide +kernel
theorem dX7_common_22 : decode cX7_common 22 = .ok (.lstore 4, 2) := by decide +kernel
theorem dX7_common_24 : decode cX7_common 24 = .ok (.lload 8, 2) := by decide +kernel
theorem dX7_common_26 : decode cX7_common 26 = .ok (.lstore 6, 2) := by decide +kernel
theorem dX7_common_28 : decode cX7_common 28 = .ok (.goto (-22), 3) := by decide +kernel
theorem dX7_common_31 : decode cX7_common 31 = .ok (.lload 4, 2) := by decide +kernel
theorem dX7_common_33 : decode cX7_common 33 = .ok (.lreturn, 1) := by decide +kernel
set_option maxRecDepth 20000 in
theorem ggX7_ratio_X7_isPlan : GoodIn wsX7_ratio wsX7_isPlan := goodIn_r _ [5, 6, 7, 8, 4, 9, 42, 43, 44, 45, 46, 47, 48, 49, 50, 51, 52, 53, 54, 55, 56, 57, 58, 59] (by decide +kernel) (by decide +kernel)
set_option maxRecDepth 20000 in
theorem gX7_ratio_X7_isPlan : GoodIn wsX7_ratio (wsV RX7 81 RX7 yX7_isPlan wsX7_isPlan) := goodIn_app (goodIn_of _ (by decide +kernel)) ggX7_ratio_X7_isPlan
set_option maxRecDepth 20000 in
theorem ggX7_ratio_X7_isEnd : GoodIn wsX7_ratio wsX7_isEnd := goodIn_r _ [13, 6, 7, 8, 4, 9, 42, 43, 44, 45, 46, 47, 48, 49, 50, 51, 52, 53, 54, 55, 56, 57, 58, 59] (by decide +kernel) (by decide +kernel)
set_option maxRecDepth 20000 in
theorem gX7_ratio_X7_isEnd : GoodIn wsX7_ratio (wsV RX7 85 RX7 yX7_isEnd wsX7_isEnd) := goodIn_app (goodIn_of _ (by decide +kernel)) ggX7_ratio_X7_isEnd
set_option maxRecDepth 20000 in
theorem ggX7_ratio_X7_in : GoodIn wsX7_ratio wsX7_in := goodIn_r _ [9] (by decide +kernel) (by decide +kernel)
set_option maxRecDepth 20000 in
theorem gX7_ratio_X7_in : GoodIn wsX7_ratio (va_wsS RX7 66 yX7_in wsX7_in) := goodIn_app (goodIn_of _ (by decide +kernel)) ggX7_ratio_X7_in
set_option maxRecDepth 20000 in
theorem ggX7_ratio_X7_worstEnd : GoodIn wsX7_ratio wsX7_worstEnd := goodIn_r _ [17, 6, 18, 19, 20, 4, 21, 22, 23, 24, 25, 26, 27, 28, 29, 30, 31, 32, 33, 34, 35, 36, 37, 38, 42, 43, 44, 45, 46, 47, 48, 49, 50, 51, 52, 53, 54, 55, 56, 57, 58, 59] (by decide +kernel) (by decide +kernel)
set_option maxRecDepth 20000 in
theorem gX7_ratio_X7_worstEnd : GoodIn wsX7_ratio (wsV RX7 92 RX7 yX7_worstEnd wsX7_worstEnd) := goodIn_app (goodIn_of _ (by decide +kernel)) ggX7_ratio_X7_worstEnd
set_option maxRecDepth 20000 in
theorem ggX7_ratio_X7_costOf : GoodIn wsX7_ratio wsX7_costOf := goodIn_r _ [21, 22, 23, 24, 25, 4, 26, 27, 28, 29, 30, 31, 32, 33, 34, 42, 43, 44, 45, 46, 47, 48, 49, 50, 51, 52, 53, 54, 55, 56, 57, 58, 59] (by decide +kernel) (by decide +kernel)
set_option maxRecDepth 20000 in
theorem gX7_ratio_X7_costOf : GoodIn wsX7_ratio (wsV RX7 88 RX7 yX7_costOf wsX7_costOf) := goodIn_app (goodIn_of _ (by decide +kernel)) ggX7_ratio_X7_costOf
set_option maxRecDepth 20000 in
theorem ggX7_ratio_X7_knownBy : GoodIn wsX7_ratio wsX7_knownBy := goodIn_r _ [38, 22, 23, 24, 25, 4, 26, 27, 28, 29, 30, 31, 32, 33, 34, 42, 43, 44, 45, 46, 47, 48, 49, 50, 51, 52, 53, 54, 55, 56, 57, 58, 59] (by decide +kernel) (by decide +kernel)
set_option maxRecDepth 20000 in
theorem gX7_ratio_X7_knownBy : GoodIn wsX7_ratio (wsV RX7 70 RX7 yX7_knownBy wsX7_knownBy) := goodIn_app (goodIn_of _ (by decide +kernel)) ggX7_ratio_X7_knownBy
set_option maxRecDepth 20000 in
theorem ggX7_ratio_X7_common : GoodIn wsX7_ratio wsX7_common := goodIn_r _ [41] (by decide +kernel) (by decide +kernel)
set_option maxRecDepth 20000 in
theorem gX7_ratio_X7_common : GoodIn wsX7_ratio (va_wsS RX7 95 yX7_common wsX7_common) := goodIn_app (goodIn_of _ (by decide +kernel)) ggX7_ratio_X7_common
theorem dX7_ratio_0 : decode cX7_ratio 0 = .ok (.aload_n 0, 1) := by decide +kernel
theorem dX7_ratio_1 : decode cX7_ratio 1 = .ok (.iload_n 1, 1) := by decide +kernel
theorem dX7_ratio_2 : decode cX7_ratio 2 = .ok (.invokevirtual 81, 3) := by decide +kernel
theorem dX7_ratio_5 : decode cX7_ratio 5 = .ok (.ifCond .eq 24, 3) := by decide +kernel
theorem dX7_ratio_8 : decode cX7_ratio 8 = .ok (.iload_n 2, 1) := by decide +kernel
theorem dX7_ratio_9 : decode cX7_ratio 9 = .ok (.ifCond .eq 11, 3) := by decide +kernel
theorem dX7_ratio_12 : decode cX7_ratio 12 = .ok (.aload_n 0, 1) := by decide +kernel
theorem dX7_ratio_13 : decode cX7_ratio 13 = .ok (.iload_n 2, 1) := by decide +kernel
theorem dX7_ratio_14 : decode cX7_ratio 14 = .ok (.invokevirtual 85, 3) := by decide +kernel
theorem dX7_ratio_17 : decode cX7_ratio 17 = .ok (.ifCond .eq 12, 3) := by decide +kernel
theorem dX7_ratio_20 : decode cX7_ratio 20 = .ok (.iload_n 3, 1) := by decide +kernel
theorem dX7_ratio_21 : decode cX7_ratio 21 = .ok (.iconst 0, 1) := by decide +kernel
theorem dX7_ratio_22 : decode cX7_ratio 22 = .ok (.iconst 1, 1) := by decide +kernel
theorem dX7_ratio_23 : decode cX7_ratio 23 = .ok (.invokestatic 66, 3) := by decide +kernel
theorem dX7_ratio_26 : decode cX7_ratio 26 = .ok (.ifCond .ne 5, 3) := by decide +kernel
theorem dX7_ratio_29 : decode cX7_ratio 29 = .ok (.iconst (-1), 1) := by decide +kernel
theorem dX7_ratio_30 : decode cX7_ratio 30 = .ok (.ireturn, 1) := by decide +kernel
theorem dX7_ratio_31 : decode cX7_ratio 31 = .ok (.iload_n 2, 1) := by decide +kernel
theorem dX7_ratio_32 : decode cX7_ratio 32 = .ok (.ifCond .ne 11, 3) := by decide +kernel
theorem dX7_ratio_35 : decode cX7_ratio 35 = .ok (.aload_n 0, 1) := by decide +kernel
theorem dX7_ratio_36 : decode cX7_ratio 36 = .ok (.iload_n 1, 1) := by decide +kernel
theorem dX7_ratio_37 : decode cX7_ratio 37 = .ok (.invokevirtual 92, 3) := by decide +kernel
theorem dX7_ratio_40 : decode cX7_ratio 40 = .ok (.goto 4, 3) := by decide +kernel
theorem dX7_ratio_43 : decode cX7_ratio 43 = .ok (.iload_n 2, 1) := by decide +kernel
theorem dX7_ratio_44 : decode cX7_ratio 44 = .ok (.istore 4, 2) := by decide +kernel
theorem dX7_ratio_46 : decode cX7_ratio 46 = .ok (.aload_n 0, 1) := by decide +kernel
theorem dX7_ratio_47 : decode cX7_ratio 47 = .ok (.iload_n 1, 1) := by decide +kernel
theorem dX7_ratio_48 : decode cX7_ratio 48 = .ok (.iload 4, 2) := by decide +kernel
theorem dX7_ratio_50 : decode cX7_ratio 50 = .ok (.invokevirtual 88, 3) := by decide +kernel
theorem dX7_ratio_53 : decode cX7_ratio 53 = .ok (.istore 5, 2) := by decide +kernel
theorem dX7_ratio_55 : decode cX7_ratio 55 = .ok (.aload_n 0, 1) := by decide +kernel
theorem dX7_ratio_56 : decode cX7_ratio 56 = .ok (.iload 4, 2) := by decide +kernel
theorem dX7_ratio_58 : decode cX7_ratio 58 = .ok (.invokevirtual 70, 3) := by decide +kernel
theorem dX7_ratio_61 : decode cX7_ratio 61 = .ok (.istore 6, 2) := by decide +kernel
theorem dX7_ratio_63 : decode cX7_ratio 63 = .ok (.iload 5, 2) := by decide +kernel
theorem dX7_ratio_65 : decode cX7_ratio 65 = .ok (.i2l, 1) := by decide +kernel
theorem dX7_ratio_66 : decode cX7_ratio 66 = .ok (.iload 6, 2) := by decide +kernel
theorem dX7_ratio_68 : decode cX7_ratio 68 = .ok (.i2l, 1) := by decide +kernel
theorem dX7_ratio_69 : decode cX7_ratio 69 = .ok (.invokestatic 95, 3) := by decide +kernel
theorem dX7_ratio_72 : decode cX7_ratio 72 = .ok (.l2i, 1) := by decide +kernel
theorem dX7_ratio_73 : decode cX7_ratio 73 = .ok (.istore 7, 2) := by decide +kernel
theorem dX7_ratio_75 : decode cX7_ratio 75 = .ok (.iload_n 3, 1) := by decide +kernel
theorem dX7_ratio_76 : decode cX7_ratio 76 = .ok (.ifCond .ne 11, 3) := by decide +kernel
theorem dX7_ratio_79 : decode cX7_ratio 79 = .ok (.iload 5, 2) := by decide +kernel
theorem dX7_ratio_81 : decode cX7_ratio 81 = .ok (.iload 7, 2) := by decide +kernel
theorem dX7_ratio_83 : decode cX7_ratio 83 = .ok (.idiv, 1) := by decide +kernel
theorem dX7_ratio_84 : decode cX7_ratio 84 = .ok (.goto 8, 3) := by decide +kernel
theorem dX7_ratio_87 : decode cX7_ratio 87 = .ok (.iload 6, 2) := by decide +kernel
theorem dX7_ratio_89 : decode cX7_ratio 89 = .ok (.iload 7, 2) := by decide +kernel
theorem dX7_ratio_91 : decode cX7_ratio 91 = .ok (.idiv, 1) := by decide +kernel
theorem dX7_ratio_92 : decode cX7_ratio 92 = .ok (.ireturn, 1) := by decide +kernel
set_option maxRecDepth 20000 in
theorem ggX7_surePlan_X7_worstEnd : GoodIn wsX7_surePlan wsX7_worstEnd := goodIn_r _ [6, 1, 7, 8, 9, 5, 10, 11, 12, 13, 14, 15, 16, 17, 18, 19, 20, 21, 22, 23, 24, 25, 26, 27, 28, 29, 30, 31, 32, 33, 34, 35, 36, 37, 38, 39, 40, 41, 42, 43, 44, 45] (by decide +kernel) (by decide +kernel)
set_option maxRecDepth 20000 in
theorem gX7_surePlan_X7_worstEnd : GoodIn wsX7_surePlan (wsV RX7 92 RX7 yX7_worstEnd wsX7_worstEnd) := goodIn_app (goodIn_of _ (by decide +kernel)) ggX7_surePlan_X7_worstEnd
set_option maxRecDepth 20000 in
theorem ggX7_surePlan_X7_costOf : GoodIn wsX7_surePlan wsX7_costOf := goodIn_r _ [10, 11, 12, 13, 14, 5, 15, 16, 17, 18, 19, 20, 21, 22, 23, 28, 29, 30, 31, 32, 33, 34, 35, 36, 37, 38, 39, 40, 41, 42, 43, 44, 45] (by decide +kernel) (by decide +kernel)
set_option maxRecDepth 20000 in
theorem gX7_surePlan_X7_costOf : GoodIn wsX7_surePlan (wsV RX7 88 RX7 yX7_costOf wsX7_costOf) := goodIn_app (goodIn_of _ (by decide +kernel)) ggX7_surePlan_X7_costOf
set_option maxRecDepth 20000 in
theorem ggX7_surePlan_X7_knownBy : GoodIn wsX7_surePlan wsX7_knownBy := goodIn_r _ [27, 11, 12, 13, 14, 5, 15, 16, 17, 18, 19, 20, 21, 22, 23, 28, 29, 30, 31, 32, 33, 34, 35, 36, 37, 38, 39, 40, 41, 42, 43, 44, 45] (by decide +kernel) (by decide +kernel)
set_option maxRecDepth 20000 in
theorem gX7_surePlan_X7_knownBy : GoodIn wsX7_surePlan (wsV RX7 70 RX7 yX7_knownBy wsX7_knownBy) := goodIn_app (goodIn_of _ (by decide +kernel)) ggX7_surePlan_X7_knownBy
theorem dX7_surePlan_0 : decode cX7_surePlan 0 = .ok (.iconst 1, 1) := by decide +kernel
theorem dX7_surePlan_1 : decode cX7_surePlan 1 = .ok (.istore_n 1, 1) := by decide +kernel
theorem dX7_surePlan_2 : decode cX7_surePlan 2 = .ok (.aload_n 0, 1) := by decide +kernel
theorem dX7_surePlan_3 : decode cX7_surePlan 3 = .ok (.iconst 1, 1) := by decide +kernel
theorem dX7_surePlan_4 : decode cX7_surePlan 4 = .ok (.invokevirtual 92, 3) := by decide +kernel
theorem dX7_surePlan_7 : decode cX7_surePlan 7 = .ok (.istore_n 2, 1) := by decide +kernel
theorem dX7_surePlan_8 : decode cX7_surePlan 8 = .ok (.iconst 2, 1) := by decide +kernel
theorem dX7_surePlan_9 : decode cX7_surePlan 9 = .ok (.istore_n 3, 1) := by decide +kernel
theorem dX7_surePlan_10 : decode cX7_surePlan 10 = .ok (.iload_n 3, 1) := by decide +kernel
theorem dX7_surePlan_11 : decode cX7_surePlan 11 = .ok (.aload_n 0, 1) := by decide +kernel
theorem dX7_surePlan_12 : decode cX7_surePlan 12 = .ok (.getfield 19, 3) := by decide +kernel
theorem dX7_surePlan_15 : decode cX7_surePlan 15 = .ok (.iconst 1, 1) := by decide +kernel
theorem dX7_surePlan_16 : decode cX7_surePlan 16 = .ok (.iadd, 1) := by decide +kernel
theorem dX7_surePlan_17 : decode cX7_surePlan 17 = .ok (.if_icmp .gt 55, 3) := by decide +kernel
theorem dX7_surePlan_20 : decode cX7_surePlan 20 = .ok (.aload_n 0, 1) := by decide +kernel
theorem dX7_surePlan_21 : decode cX7_surePlan 21 = .ok (.iload_n 3, 1) := by decide +kernel
theorem dX7_surePlan_22 : decode cX7_surePlan 22 = .ok (.invokevirtual 92, 3) := by decide +kernel
theorem dX7_surePlan_25 : decode cX7_surePlan 25 = .ok (.istore 4, 2) := by decide +kernel
theorem dX7_surePlan_27 : decode cX7_surePlan 27 = .ok (.aload_n 0, 1) := by decide +kernel
theorem dX7_surePlan_28 : decode cX7_surePlan 28 = .ok (.iload_n 3, 1) := by decide +kernel
theorem dX7_surePlan_29 : decode cX7_surePlan 29 = .ok (.iload 4, 2) := by decide +kernel
theorem dX7_surePlan_31 : decode cX7_surePlan 31 = .ok (.invokevirtual 88, 3) := by decide +kernel
theorem dX7_surePlan_34 : decode cX7_surePlan 34 = .ok (.i2l, 1) := by decide +kernel
theorem dX7_surePlan_35 : decode cX7_surePlan 35 = .ok (.aload_n 0, 1) := by decide +kernel
theorem dX7_surePlan_36 : decode cX7_surePlan 36 = .ok (.iload_n 2, 1) := by decide +kernel
theorem dX7_surePlan_37 : decode cX7_surePlan 37 = .ok (.invokevirtual 70, 3) := by decide +kernel
theorem dX7_surePlan_40 : decode cX7_surePlan 40 = .ok (.i2l, 1) := by decide +kernel
theorem dX7_surePlan_41 : decode cX7_surePlan 41 = .ok (.lmul, 1) := by decide +kernel
theorem dX7_surePlan_42 : decode cX7_surePlan 42 = .ok (.aload_n 0, 1) := by decide +kernel
theorem dX7_surePlan_43 : decode cX7_surePlan 43 = .ok (.iload_n 1, 1) := by decide +kernel
theorem dX7_surePlan_44 : decode cX7_surePlan 44 = .ok (.iload_n 2, 1) := by decide +kernel
theorem dX7_surePlan_45 : decode cX7_surePlan 45 = .ok (.invokevirtual 88, 3) := by decide +kernel
theorem dX7_surePlan_48 : decode cX7_surePlan 48 = .ok (.i2l, 1) := by decide +kernel
theorem dX7_surePlan_49 : decode cX7_surePlan 49 = .ok (.aload_n 0, 1) := by decide +kernel
theorem dX7_surePlan_50 : decode cX7_surePlan 50 = .ok (.iload 4, 2) := by decide +kernel
theorem dX7_surePlan_52 : decode cX7_surePlan 52 = .ok (.invokevirtual 70, 3) := by decide +kernel
theorem dX7_surePlan_55 : decode cX7_surePlan 55 = .ok (.i2l, 1) := by decide +kernel
theorem dX7_surePlan_56 : decode cX7_surePlan 56 = .ok (.lmul, 1) := by decide +kernel
theorem dX7_surePlan_57 : decode cX7_surePlan 57 = .ok (.lcmp, 1) := by decide +kernel
theorem dX7_surePlan_58 : decode cX7_surePlan 58 = .ok (.ifCond .ge 8, 3) := by decide +kernel
theorem dX7_surePlan_61 : decode cX7_surePlan 61 = .ok (.iload_n 3, 1) := by decide +kernel
theorem dX7_surePlan_62 : decode cX7_surePlan 62 = .ok (.istore_n 1, 1) := by decide +kernel
theorem dX7_surePlan_63 : decode cX7_surePlan 63 = .ok (.iload 4, 2) := by decide +kernel
theorem dX7_surePlan_65 : decode cX7_surePlan 65 = .ok (.istore_n 2, 1) := by decide +kernel
theorem dX7_surePlan_66 : decode cX7_surePlan 66 = .ok (.iinc 3 1, 3) := by decide +kernel
theorem dX7_surePlan_69 : decode cX7_surePlan 69 = .ok (.goto (-59), 3) := by decide +kernel
theorem dX7_surePlan_72 : decode cX7_surePlan 72 = .ok (.iload_n 1, 1) := by decide +kernel
theorem dX7_surePlan_73 : decode cX7_surePlan 73 = .ok (.ireturn, 1) := by decide +kernel
set_option maxRecDepth 20000 in
theorem ggX7_sure_X7_surePlan : GoodIn wsX7_sure wsX7_surePlan := goodIn_r _ [5, 6, 7, 8, 9, 4, 10, 11, 12, 13, 14, 15, 16, 17, 18, 19, 20, 21, 22, 23, 24, 25, 26, 27, 28, 29, 30, 31, 32, 33, 34, 35, 36, 37, 38, 39, 40, 41, 42, 43, 44, 45, 46, 47, 48, 49] (by decide +kernel) (by decide +kernel)
set_option maxRecDepth 20000 in
theorem gX7_sure_X7_surePlan : GoodIn wsX7_sure (wsV RX7 99 RX7 yX7_surePlan wsX7_surePlan) := goodIn_app (goodIn_of _ (by decide +kernel)) ggX7_sure_X7_surePlan
theorem dX7_sure_0 : decode cX7_sure 0 = .ok (.aload_n 0, 1) := by decide +kernel
theorem dX7_sure_1 : decode cX7_sure 1 = .ok (.invokevirtual 99, 3) := by decide +kernel
theorem dX7_sure_4 : decode cX7_sure 4 = .ok (.ireturn, 1) := by decide +kernel
set_option maxRecDepth 20000 in
theorem ggX7_share_X7_in : GoodIn wsX7_share wsX7_in := goodIn_r _ [6] (by decide +kernel) (by decide +kernel)
set_option maxRecDepth 20000 in
theorem gX7_share_X7_in : GoodIn wsX7_share (va_wsS RX7 66 yX7_in wsX7_in) := goodIn_app (goodIn_of _ (by decide +kernel)) ggX7_share_X7_in
set_option maxRecDepth 20000 in
theorem ggX7_share_X7_isPlan : GoodIn wsX7_share wsX7_isPlan := goodIn_r _ [10, 11, 3, 4, 5, 6, 16, 17, 18, 19, 20, 21, 22, 23, 24, 25, 26, 27, 28, 29, 30, 31, 32, 33] (by decide +kernel) (by decide +kernel)
set_option maxRecDepth 20000 in
theorem gX7_share_X7_isPlan : GoodIn wsX7_share (wsV RX7 81 RX7 yX7_isPlan wsX7_isPlan) := goodIn_app (goodIn_of _ (by decide +kernel)) ggX7_share_X7_isPlan
set_option maxRecDepth 20000 in
theorem ggX7_share_X7_isEnd : GoodIn wsX7_share wsX7_isEnd := goodIn_r _ [15, 11, 3, 4, 5, 6, 16, 17, 18, 19, 20, 21, 22, 23, 24, 25, 26, 27, 28, 29, 30, 31, 32, 33] (by decide +kernel) (by decide +kernel)
set_option maxRecDepth 20000 in
theorem gX7_share_X7_isEnd : GoodIn wsX7_share (wsV RX7 85 RX7 yX7_isEnd wsX7_isEnd) := goodIn_app (goodIn_of _ (by decide +kernel)) ggX7_share_X7_isEnd
theorem dX7_share_0 : decode cX7_share 0 = .ok (.iload_n 1, 1) := by decide +kernel
theorem dX7_share_1 : decode cX7_share 1 = .ok (.iconst 0, 1) := by decide +kernel
theorem dX7_share_2 : decode cX7_share 2 = .ok (.iconst 1, 1) := by decide +kernel
theorem dX7_share_3 : decode cX7_share 3 = .ok (.invokestatic 66, 3) := by decide +kernel
theorem dX7_share_6 : decode cX7_share 6 = .ok (.ifCond .eq 36, 3) := by decide +kernel
theorem dX7_share_9 : decode cX7_share 9 = .ok (.iload_n 1, 1) := by decide +kernel
theorem dX7_share_10 : decode cX7_share 10 = .ok (.ifCond .ne 14, 3) := by decide +kernel
theorem dX7_share_13 : decode cX7_share 13 = .ok (.aload_n 0, 1) := by decide +kernel
theorem dX7_share_14 : decode cX7_share 14 = .ok (.iload_n 2, 1) := by decide +kernel
theorem dX7_share_15 : decode cX7_share 15 = .ok (.invokevirtual 81, 3) := by decide +kernel
theorem dX7_share_18 : decode cX7_share 18 = .ok (.ifCond .ne 14, 3) := by decide +kernel
theorem dX7_share_21 : decode cX7_share 21 = .ok (.goto 21, 3) := by decide +kernel
theorem dX7_share_24 : decode cX7_share 24 = .ok (.aload_n 0, 1) := by decide +kernel
theorem dX7_share_25 : decode cX7_share 25 = .ok (.iload_n 2, 1) := by decide +kernel
theorem dX7_share_26 : decode cX7_share 26 = .ok (.invokevirtual 85, 3) := by decide +kernel
theorem dX7_share_29 : decode cX7_share 29 = .ok (.ifCond .eq 13, 3) := by decide +kernel
theorem dX7_share_32 : decode cX7_share 32 = .ok (.iload_n 3, 1) := by decide +kernel
theorem dX7_share_33 : decode cX7_share 33 = .ok (.iconst 0, 1) := by decide +kernel
theorem dX7_share_34 : decode cX7_share 34 = .ok (.bipush 9, 2) := by decide +kernel
theorem dX7_share_36 : decode cX7_share 36 = .ok (.invokestatic 66, 3) := by decide +kernel
theorem dX7_share_39 : decode cX7_share 39 = .ok (.ifCond .ne 5, 3) := by decide +kernel
theorem dX7_share_42 : decode cX7_share 42 = .ok (.iconst (-1), 1) := by decide +kernel
theorem dX7_share_43 : decode cX7_share 43 = .ok (.ireturn, 1) := by decide +kernel
theorem dX7_share_44 : decode cX7_share 44 = .ok (.iload_n 1, 1) := by decide +kernel
theorem dX7_share_45 : decode cX7_share 45 = .ok (.ifCond .ne 12, 3) := by decide +kernel
theorem dX7_share_48 : decode cX7_share 48 = .ok (.aload_n 0, 1) := by decide +kernel
theorem dX7_share_49 : decode cX7_share 49 = .ok (.getfield 22, 3) := by decide +kernel
theorem dX7_share_52 : decode cX7_share 52 = .ok (.iload_n 2, 1) := by decide +kernel
theorem dX7_share_53 : decode cX7_share 53 = .ok (.iaload, 1) := by decide +kernel
theorem dX7_share_54 : decode cX7_share 54 = .ok (.goto 9, 3) := by decide +kernel
theorem dX7_share_57 : decode cX7_share 57 = .ok (.aload_n 0, 1) := by decide +kernel
theorem dX7_share_58 : decode cX7_share 58 = .ok (.getfield 26, 3) := by decide +kernel
theorem dX7_share_61 : decode cX7_share 61 = .ok (.iload_n 2, 1) := by decide +kernel
theorem dX7_share_62 : decode cX7_share 62 = .ok (.iaload, 1) := by decide +kernel
theorem dX7_share_63 : decode cX7_share 63 = .ok (.istore 4, 2) := by decide +kernel
theorem dX7_share_65 : decode cX7_share 65 = .ok (.iload_n 1, 1) := by decide +kernel
theorem dX7_share_66 : decode cX7_share 66 = .ok (.ifCond .ne 13, 3) := by decide +kernel
theorem dX7_share_69 : decode cX7_share 69 = .ok (.aload_n 0, 1) := by decide +kernel
theorem dX7_share_70 : decode cX7_share 70 = .ok (.getfield 22, 3) := by decide +kernel
theorem dX7_share_73 : decode cX7_share 73 = .ok (.iload_n 2, 1) := by decide +kernel
theorem dX7_share_74 : decode cX7_share 74 = .ok (.iload_n 3, 1) := by decide +kernel
theorem dX7_share_75 : decode cX7_share 75 = .ok (.iastore, 1) := by decide +kernel
theorem dX7_share_76 : decode cX7_share 76 = .ok (.goto 10, 3) := by decide +kernel
theorem dX7_share_79 : decode cX7_share 79 = .ok (.aload_n 0, 1) := by decide +kernel
theorem dX7_share_80 : decode cX7_share 80 = .ok (.getfield 26, 3) := by decide +kernel
theorem dX7_share_83 : decode cX7_share 83 = .ok (.iload_n 2, 1) := by decide +kernel
theorem dX7_share_84 : decode cX7_share 84 = .ok (.iload_n 3, 1) := by decide +kernel
theorem dX7_share_85 : decode cX7_share 85 = .ok (.iastore, 1) := by decide +kernel
theorem dX7_share_86 : decode cX7_share 86 = .ok (.iload 4, 2) := by decide +kernel
theorem dX7_share_88 : decode cX7_share 88 = .ok (.ireturn, 1) := by decide +kernel
theorem dX7_planShares_0 : decode cX7_planShares 0 = .ok (.lconst 0, 1) := by decide +kernel
theorem dX7_planShares_1 : decode cX7_planShares 1 = .ok (.lstore_n 1, 1) := by decide +kernel
theorem dX7_planShares_2 : decode cX7_planShares 2 = .ok (.iconst 1, 1) := by decide +kernel
