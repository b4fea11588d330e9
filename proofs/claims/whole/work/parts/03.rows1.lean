theorem dX5_frontCost_34 : decode cX5_frontCost 34 = .ok (.iload_n 1, 1) := by decide +kernel
theorem dX5_frontCost_35 : decode cX5_frontCost 35 = .ok (.aload_n 0, 1) := by decide +kernel
theorem dX5_frontCost_36 : decode cX5_frontCost 36 = .ok (.getfield 9, 3) := by decide +kernel
theorem dX5_frontCost_39 : decode cX5_frontCost 39 = .ok (.iload_n 3, 1) := by decide +kernel
theorem dX5_frontCost_40 : decode cX5_frontCost 40 = .ok (.iaload, 1) := by decide +kernel
theorem dX5_frontCost_41 : decode cX5_frontCost 41 = .ok (.invokevirtual 52, 3) := by decide +kernel
theorem dX5_frontCost_44 : decode cX5_frontCost 44 = .ok (.istore_n 1, 1) := by decide +kernel
theorem dX5_frontCost_45 : decode cX5_frontCost 45 = .ok (.iinc 3 1, 3) := by decide +kernel
theorem dX5_frontCost_48 : decode cX5_frontCost 48 = .ok (.goto (-39), 3) := by decide +kernel
theorem dX5_frontCost_51 : decode cX5_frontCost 51 = .ok (.iload_n 2, 1) := by decide +kernel
theorem dX5_frontCost_52 : decode cX5_frontCost 52 = .ok (.ireturn, 1) := by decide +kernel
set_option maxRecDepth 20000 in
theorem ggX5_stayCost_X5_placeOf : GoodIn wsX5_stayCost wsX5_placeOf := goodIn_r _ [7, 8, 9, 10, 6, 11, 12, 13, 14, 15, 16, 17] (by decide +kernel) (by decide +kernel)
set_option maxRecDepth 20000 in
theorem gX5_stayCost_X5_placeOf : GoodIn wsX5_stayCost (wsV RX5 42 RX5 yX5_placeOf wsX5_placeOf) := goodIn_app (goodIn_of _ (by decide +kernel)) ggX5_stayCost_X5_placeOf
theorem dX5_stayCost_0 : decode cX5_stayCost 0 = .ok (.iconst 0, 1) := by decide +kernel
theorem dX5_stayCost_1 : decode cX5_stayCost 1 = .ok (.istore_n 2, 1) := by decide +kernel
theorem dX5_stayCost_2 : decode cX5_stayCost 2 = .ok (.iconst 0, 1) := by decide +kernel
theorem dX5_stayCost_3 : decode cX5_stayCost 3 = .ok (.istore_n 3, 1) := by decide +kernel
theorem dX5_stayCost_4 : decode cX5_stayCost 4 = .ok (.iload_n 3, 1) := by decide +kernel
theorem dX5_stayCost_5 : decode cX5_stayCost 5 = .ok (.aload_n 0, 1) := by decide +kernel
theorem dX5_stayCost_6 : decode cX5_stayCost 6 = .ok (.getfield 25, 3) := by decide +kernel
theorem dX5_stayCost_9 : decode cX5_stayCost 9 = .ok (.if_icmp .ge 25, 3) := by decide +kernel
theorem dX5_stayCost_12 : decode cX5_stayCost 12 = .ok (.iload_n 2, 1) := by decide +kernel
theorem dX5_stayCost_13 : decode cX5_stayCost 13 = .ok (.aload_n 0, 1) := by decide +kernel
theorem dX5_stayCost_14 : decode cX5_stayCost 14 = .ok (.iload_n 1, 1) := by decide +kernel
theorem dX5_stayCost_15 : decode cX5_stayCost 15 = .ok (.aload_n 0, 1) := by decide +kernel
theorem dX5_stayCost_16 : decode cX5_stayCost 16 = .ok (.getfield 9, 3) := by decide +kernel
theorem dX5_stayCost_19 : decode cX5_stayCost 19 = .ok (.iload_n 3, 1) := by decide +kernel
theorem dX5_stayCost_20 : decode cX5_stayCost 20 = .ok (.iaload, 1) := by decide +kernel
theorem dX5_stayCost_21 : decode cX5_stayCost 21 = .ok (.invokevirtual 42, 3) := by decide +kernel
theorem dX5_stayCost_24 : decode cX5_stayCost 24 = .ok (.iconst 1, 1) := by decide +kernel
theorem dX5_stayCost_25 : decode cX5_stayCost 25 = .ok (.iadd, 1) := by decide +kernel
theorem dX5_stayCost_26 : decode cX5_stayCost 26 = .ok (.iadd, 1) := by decide +kernel
theorem dX5_stayCost_27 : decode cX5_stayCost 27 = .ok (.istore_n 2, 1) := by decide +kernel
theorem dX5_stayCost_28 : decode cX5_stayCost 28 = .ok (.iinc 3 1, 3) := by decide +kernel
theorem dX5_stayCost_31 : decode cX5_stayCost 31 = .ok (.goto (-27), 3) := by decide +kernel
theorem dX5_stayCost_34 : decode cX5_stayCost 34 = .ok (.iload_n 2, 1) := by decide +kernel
theorem dX5_stayCost_35 : decode cX5_stayCost 35 = .ok (.ireturn, 1) := by decide +kernel
set_option maxRecDepth 20000 in
theorem ggX5_bestStayCost_X5_stayCost : GoodIn wsX5_bestStayCost wsX5_stayCost := goodIn_r _ [12, 13, 14, 15, 16, 17, 11, 18, 19, 20, 21, 22, 23, 24, 25, 26, 27, 28] (by decide +kernel) (by decide +kernel)
set_option maxRecDepth 20000 in
theorem gX5_bestStayCost_X5_stayCost : GoodIn wsX5_bestStayCost (wsV RX5 56 RX5 yX5_stayCost wsX5_stayCost) := goodIn_app (goodIn_of _ (by decide +kernel)) ggX5_bestStayCost_X5_stayCost
theorem dX5_bestStayCost_0 : decode cX5_bestStayCost 0 = .ok (.ldc 55, 2) := by decide +kernel
theorem dX5_bestStayCost_2 : decode cX5_bestStayCost 2 = .ok (.istore_n 1, 1) := by decide +kernel
theorem dX5_bestStayCost_3 : decode cX5_bestStayCost 3 = .ok (.iconst 0, 1) := by decide +kernel
theorem dX5_bestStayCost_4 : decode cX5_bestStayCost 4 = .ok (.istore_n 2, 1) := by decide +kernel
theorem dX5_bestStayCost_5 : decode cX5_bestStayCost 5 = .ok (.iload_n 2, 1) := by decide +kernel
theorem dX5_bestStayCost_6 : decode cX5_bestStayCost 6 = .ok (.aload_n 0, 1) := by decide +kernel
theorem dX5_bestStayCost_7 : decode cX5_bestStayCost 7 = .ok (.getfield 31, 3) := by decide +kernel
theorem dX5_bestStayCost_10 : decode cX5_bestStayCost 10 = .ok (.if_icmp .ge 24, 3) := by decide +kernel
theorem dX5_bestStayCost_13 : decode cX5_bestStayCost 13 = .ok (.iload_n 1, 1) := by decide +kernel
theorem dX5_bestStayCost_14 : decode cX5_bestStayCost 14 = .ok (.aload_n 0, 1) := by decide +kernel
theorem dX5_bestStayCost_15 : decode cX5_bestStayCost 15 = .ok (.aload_n 0, 1) := by decide +kernel
theorem dX5_bestStayCost_16 : decode cX5_bestStayCost 16 = .ok (.getfield 15, 3) := by decide +kernel
theorem dX5_bestStayCost_19 : decode cX5_bestStayCost 19 = .ok (.iload_n 2, 1) := by decide +kernel
theorem dX5_bestStayCost_20 : decode cX5_bestStayCost 20 = .ok (.iaload, 1) := by decide +kernel
theorem dX5_bestStayCost_21 : decode cX5_bestStayCost 21 = .ok (.invokevirtual 56, 3) := by decide +kernel
theorem dX5_bestStayCost_24 : decode cX5_bestStayCost 24 = .ok (.invokestatic 60, 3) := by decide +kernel
theorem dX5_bestStayCost_27 : decode cX5_bestStayCost 27 = .ok (.istore_n 1, 1) := by decide +kernel
theorem dX5_bestStayCost_28 : decode cX5_bestStayCost 28 = .ok (.iinc 2 1, 3) := by decide +kernel
theorem dX5_bestStayCost_31 : decode cX5_bestStayCost 31 = .ok (.goto (-26), 3) := by decide +kernel
theorem dX5_bestStayCost_34 : decode cX5_bestStayCost 34 = .ok (.iload_n 1, 1) := by decide +kernel
theorem dX5_bestStayCost_35 : decode cX5_bestStayCost 35 = .ok (.ireturn, 1) := by decide +kernel
set_option maxRecDepth 20000 in
theorem ggX5_bestCost_X5_firstOrder : GoodIn wsX5_bestCost wsX5_firstOrder := goodIn_r _ [15, 16, 43, 44, 45, 46, 47, 48] (by decide +kernel) (by decide +kernel)
set_option maxRecDepth 20000 in
theorem gX5_bestCost_X5_firstOrder : GoodIn wsX5_bestCost (wsV RX5 48 RX5 yX5_firstOrder wsX5_firstOrder) := goodIn_app (goodIn_of _ (by decide +kernel)) ggX5_bestCost_X5_firstOrder
set_option maxRecDepth 20000 in
theorem ggX5_bestCost_X5_exchangeNeighbours : GoodIn wsX5_bestCost wsX5_exchangeNeighbours := goodIn_r _ [20, 16, 1, 3, 21, 22, 23, 14, 24, 2, 25, 26, 27, 28, 29, 30, 43, 44, 45, 46, 47, 48] (by decide +kernel) (by decide +kernel)
set_option maxRecDepth 20000 in
theorem gX5_bestCost_X5_exchangeNeighbours : GoodIn wsX5_bestCost (wsV RX5 65 RX5 yX5_exchangeNeighbours wsX5_exchangeNeighbours) := goodIn_app (goodIn_of _ (by decide +kernel)) ggX5_bestCost_X5_exchangeNeighbours
set_option maxRecDepth 20000 in
theorem ggX5_bestCost_X5_payPlaces : GoodIn wsX5_bestCost wsX5_payPlaces := goodIn_r _ [34, 1, 2, 3, 35, 36, 37, 14, 38, 16, 28, 29, 30, 43, 44, 45, 46, 47, 48] (by decide +kernel) (by decide +kernel)
set_option maxRecDepth 20000 in
theorem gX5_bestCost_X5_payPlaces : GoodIn wsX5_bestCost (wsV RX5 68 RX5 yX5_payPlaces wsX5_payPlaces) := goodIn_app (goodIn_of _ (by decide +kernel)) ggX5_bestCost_X5_payPlaces
set_option maxRecDepth 20000 in
theorem ggX5_bestCost_X5_moveAhead : GoodIn wsX5_bestCost wsX5_moveAhead := goodIn_r _ [42, 16, 1, 3, 2, 7, 8, 9, 10, 28, 29, 14, 30, 25, 26, 27, 43, 44, 45, 46, 47, 48] (by decide +kernel) (by decide +kernel)
set_option maxRecDepth 20000 in
theorem gX5_bestCost_X5_moveAhead : GoodIn wsX5_bestCost (wsV RX5 72 RX5 yX5_moveAhead wsX5_moveAhead) := goodIn_app (goodIn_of _ (by decide +kernel)) ggX5_bestCost_X5_moveAhead
theorem dX5_bestCost_0 : decode cX5_bestCost 0 = .ok (.iconst 0, 1) := by decide +kernel
theorem dX5_bestCost_1 : decode cX5_bestCost 1 = .ok (.istore_n 1, 1) := by decide +kernel
theorem dX5_bestCost_2 : decode cX5_bestCost 2 = .ok (.iload_n 1, 1) := by decide +kernel
theorem dX5_bestCost_3 : decode cX5_bestCost 3 = .ok (.aload_n 0, 1) := by decide +kernel
theorem dX5_bestCost_4 : decode cX5_bestCost 4 = .ok (.getfield 31, 3) := by decide +kernel
theorem dX5_bestCost_7 : decode cX5_bestCost 7 = .ok (.if_icmp .ge 22, 3) := by decide +kernel
theorem dX5_bestCost_10 : decode cX5_bestCost 10 = .ok (.aload_n 0, 1) := by decide +kernel
theorem dX5_bestCost_11 : decode cX5_bestCost 11 = .ok (.getfield 18, 3) := by decide +kernel
theorem dX5_bestCost_14 : decode cX5_bestCost 14 = .ok (.aload_n 0, 1) := by decide +kernel
theorem dX5_bestCost_15 : decode cX5_bestCost 15 = .ok (.getfield 15, 3) := by decide +kernel
theorem dX5_bestCost_18 : decode cX5_bestCost 18 = .ok (.iload_n 1, 1) := by decide +kernel
theorem dX5_bestCost_19 : decode cX5_bestCost 19 = .ok (.iaload, 1) := by decide +kernel
theorem dX5_bestCost_20 : decode cX5_bestCost 20 = .ok (.ldc 55, 2) := by decide +kernel
theorem dX5_bestCost_22 : decode cX5_bestCost 22 = .ok (.iastore, 1) := by decide +kernel
theorem dX5_bestCost_23 : decode cX5_bestCost 23 = .ok (.iinc 1 1, 3) := by decide +kernel
theorem dX5_bestCost_26 : decode cX5_bestCost 26 = .ok (.goto (-24), 3) := by decide +kernel
theorem dX5_bestCost_29 : decode cX5_bestCost 29 = .ok (.aload_n 0, 1) := by decide +kernel
theorem dX5_bestCost_30 : decode cX5_bestCost 30 = .ok (.getfield 18, 3) := by decide +kernel
theorem dX5_bestCost_33 : decode cX5_bestCost 33 = .ok (.aload_n 0, 1) := by decide +kernel
theorem dX5_bestCost_34 : decode cX5_bestCost 34 = .ok (.invokevirtual 48, 3) := by decide +kernel
theorem dX5_bestCost_37 : decode cX5_bestCost 37 = .ok (.iconst 0, 1) := by decide +kernel
theorem dX5_bestCost_38 : decode cX5_bestCost 38 = .ok (.iastore, 1) := by decide +kernel
theorem dX5_bestCost_39 : decode cX5_bestCost 39 = .ok (.iconst 0, 1) := by decide +kernel
theorem dX5_bestCost_40 : decode cX5_bestCost 40 = .ok (.istore_n 1, 1) := by decide +kernel
theorem dX5_bestCost_41 : decode cX5_bestCost 41 = .ok (.iload_n 1, 1) := by decide +kernel
theorem dX5_bestCost_42 : decode cX5_bestCost 42 = .ok (.aload_n 0, 1) := by decide +kernel
theorem dX5_bestCost_43 : decode cX5_bestCost 43 = .ok (.getfield 25, 3) := by decide +kernel
theorem dX5_bestCost_46 : decode cX5_bestCost 46 = .ok (.if_icmp .ge 33, 3) := by decide +kernel
theorem dX5_bestCost_49 : decode cX5_bestCost 49 = .ok (.aload_n 0, 1) := by decide +kernel
theorem dX5_bestCost_50 : decode cX5_bestCost 50 = .ok (.invokevirtual 65, 3) := by decide +kernel
theorem dX5_bestCost_53 : decode cX5_bestCost 53 = .ok (.aload_n 0, 1) := by decide +kernel
theorem dX5_bestCost_54 : decode cX5_bestCost 54 = .ok (.aload_n 0, 1) := by decide +kernel
theorem dX5_bestCost_55 : decode cX5_bestCost 55 = .ok (.getfield 9, 3) := by decide +kernel
theorem dX5_bestCost_58 : decode cX5_bestCost 58 = .ok (.iload_n 1, 1) := by decide +kernel
theorem dX5_bestCost_59 : decode cX5_bestCost 59 = .ok (.iaload, 1) := by decide +kernel
theorem dX5_bestCost_60 : decode cX5_bestCost 60 = .ok (.invokevirtual 68, 3) := by decide +kernel
theorem dX5_bestCost_63 : decode cX5_bestCost 63 = .ok (.aload_n 0, 1) := by decide +kernel
theorem dX5_bestCost_64 : decode cX5_bestCost 64 = .ok (.aload_n 0, 1) := by decide +kernel
theorem dX5_bestCost_65 : decode cX5_bestCost 65 = .ok (.getfield 9, 3) := by decide +kernel
theorem dX5_bestCost_68 : decode cX5_bestCost 68 = .ok (.iload_n 1, 1) := by decide +kernel
theorem dX5_bestCost_69 : decode cX5_bestCost 69 = .ok (.iaload, 1) := by decide +kernel
theorem dX5_bestCost_70 : decode cX5_bestCost 70 = .ok (.invokevirtual 72, 3) := by decide +kernel
theorem dX5_bestCost_73 : decode cX5_bestCost 73 = .ok (.iinc 1 1, 3) := by decide +kernel
theorem dX5_bestCost_76 : decode cX5_bestCost 76 = .ok (.goto (-35), 3) := by decide +kernel
theorem dX5_bestCost_79 : decode cX5_bestCost 79 = .ok (.ldc 55, 2) := by decide +kernel
theorem dX5_bestCost_81 : decode cX5_bestCost 81 = .ok (.istore_n 1, 1) := by decide +kernel
theorem dX5_bestCost_82 : decode cX5_bestCost 82 = .ok (.iconst 0, 1) := by decide +kernel
theorem dX5_bestCost_83 : decode cX5_bestCost 83 = .ok (.istore_n 2, 1) := by decide +kernel
theorem dX5_bestCost_84 : decode cX5_bestCost 84 = .ok (.iload_n 2, 1) := by decide +kernel
theorem dX5_bestCost_85 : decode cX5_bestCost 85 = .ok (.aload_n 0, 1) := by decide +kernel
theorem dX5_bestCost_86 : decode cX5_bestCost 86 = .ok (.getfield 31, 3) := by decide +kernel
theorem dX5_bestCost_89 : decode cX5_bestCost 89 = .ok (.if_icmp .ge 25, 3) := by decide +kernel
theorem dX5_bestCost_92 : decode cX5_bestCost 92 = .ok (.iload_n 1, 1) := by decide +kernel
theorem dX5_bestCost_93 : decode cX5_bestCost 93 = .ok (.aload_n 0, 1) := by decide +kernel
theorem dX5_bestCost_94 : decode cX5_bestCost 94 = .ok (.getfield 18, 3) := by decide +kernel
theorem dX5_bestCost_97 : decode cX5_bestCost 97 = .ok (.aload_n 0, 1) := by decide +kernel
theorem dX5_bestCost_98 : decode cX5_bestCost 98 = .ok (.getfield 15, 3) := by decide +kernel
theorem dX5_bestCost_101 : decode cX5_bestCost 101 = .ok (.iload_n 2, 1) := by decide +kernel
theorem dX5_bestCost_102 : decode cX5_bestCost 102 = .ok (.iaload, 1) := by decide +kernel
theorem dX5_bestCost_103 : decode cX5_bestCost 103 = .ok (.iaload, 1) := by decide +kernel
theorem dX5_bestCost_104 : decode cX5_bestCost 104 = .ok (.invokestatic 60, 3) := by decide +kernel
theorem dX5_bestCost_107 : decode cX5_bestCost 107 = .ok (.istore_n 1, 1) := by decide +kernel
theorem dX5_bestCost_108 : decode cX5_bestCost 108 = .ok (.iinc 2 1, 3) := by decide +kernel
theorem dX5_bestCost_111 : decode cX5_bestCost 111 = .ok (.goto (-27), 3) := by decide +kernel
theorem dX5_bestCost_114 : decode cX5_bestCost 114 = .ok (.iload_n 1, 1) := by decide +kernel
theorem dX5_bestCost_115 : decode cX5_bestCost 115 = .ok (.ireturn, 1) := by decide +kernel
set_option maxRecDepth 20000 in
theorem ggX5_exchangeNeighbours_X5_exchangeIn : GoodIn wsX5_exchangeNeighbours wsX5_exchangeIn := goodIn_r _ [8, 1, 9, 10, 11, 7, 12, 13, 14, 15, 16, 17, 18, 19, 20, 21] (by decide +kernel) (by decide +kernel)
set_option maxRecDepth 20000 in
theorem gX5_exchangeNeighbours_X5_exchangeIn : GoodIn wsX5_exchangeNeighbours (wsV RX5 75 RX5 yX5_exchangeIn wsX5_exchangeIn) := goodIn_app (goodIn_of _ (by decide +kernel)) ggX5_exchangeNeighbours_X5_exchangeIn
theorem dX5_exchangeNeighbours_0 : decode cX5_exchangeNeighbours 0 = .ok (.iconst 1, 1) := by decide +kernel
theorem dX5_exchangeNeighbours_1 : decode cX5_exchangeNeighbours 1 = .ok (.istore_n 1, 1) := by decide +kernel
theorem dX5_exchangeNeighbours_2 : decode cX5_exchangeNeighbours 2 = .ok (.iconst 0, 1) := by decide +kernel
theorem dX5_exchangeNeighbours_3 : decode cX5_exchangeNeighbours 3 = .ok (.istore_n 2, 1) := by decide +kernel
theorem dX5_exchangeNeighbours_4 : decode cX5_exchangeNeighbours 4 = .ok (.iload_n 1, 1) := by decide +kernel
theorem dX5_exchangeNeighbours_5 : decode cX5_exchangeNeighbours 5 = .ok (.ifCond .eq 59, 3) := by decide +kernel
theorem dX5_exchangeNeighbours_8 : decode cX5_exchangeNeighbours 8 = .ok (.iload_n 2, 1) := by decide +kernel
theorem dX5_exchangeNeighbours_9 : decode cX5_exchangeNeighbours 9 = .ok (.aload_n 0, 1) := by decide +kernel
theorem dX5_exchangeNeighbours_10 : decode cX5_exchangeNeighbours 10 = .ok (.getfield 21, 3) := by decide +kernel
theorem dX5_exchangeNeighbours_13 : decode cX5_exchangeNeighbours 13 = .ok (.aload_n 0, 1) := by decide +kernel
theorem dX5_exchangeNeighbours_14 : decode cX5_exchangeNeighbours 14 = .ok (.getfield 21, 3) := by decide +kernel
theorem dX5_exchangeNeighbours_17 : decode cX5_exchangeNeighbours 17 = .ok (.iconst 1, 1) := by decide +kernel
theorem dX5_exchangeNeighbours_18 : decode cX5_exchangeNeighbours 18 = .ok (.isub, 1) := by decide +kernel
theorem dX5_exchangeNeighbours_19 : decode cX5_exchangeNeighbours 19 = .ok (.imul, 1) := by decide +kernel
theorem dX5_exchangeNeighbours_20 : decode cX5_exchangeNeighbours 20 = .ok (.iconst 2, 1) := by decide +kernel
theorem dX5_exchangeNeighbours_21 : decode cX5_exchangeNeighbours 21 = .ok (.idiv, 1) := by decide +kernel
theorem dX5_exchangeNeighbours_22 : decode cX5_exchangeNeighbours 22 = .ok (.if_icmp .ge 42, 3) := by decide +kernel
theorem dX5_exchangeNeighbours_25 : decode cX5_exchangeNeighbours 25 = .ok (.iconst 0, 1) := by decide +kernel
theorem dX5_exchangeNeighbours_26 : decode cX5_exchangeNeighbours 26 = .ok (.istore_n 1, 1) := by decide +kernel
theorem dX5_exchangeNeighbours_27 : decode cX5_exchangeNeighbours 27 = .ok (.iconst 0, 1) := by decide +kernel
theorem dX5_exchangeNeighbours_28 : decode cX5_exchangeNeighbours 28 = .ok (.istore_n 3, 1) := by decide +kernel
theorem dX5_exchangeNeighbours_29 : decode cX5_exchangeNeighbours 29 = .ok (.iload_n 3, 1) := by decide +kernel
theorem dX5_exchangeNeighbours_30 : decode cX5_exchangeNeighbours 30 = .ok (.aload_n 0, 1) := by decide +kernel
theorem dX5_exchangeNeighbours_31 : decode cX5_exchangeNeighbours 31 = .ok (.getfield 31, 3) := by decide +kernel
theorem dX5_exchangeNeighbours_34 : decode cX5_exchangeNeighbours 34 = .ok (.if_icmp .ge 24, 3) := by decide +kernel
theorem dX5_exchangeNeighbours_37 : decode cX5_exchangeNeighbours 37 = .ok (.aload_n 0, 1) := by decide +kernel
theorem dX5_exchangeNeighbours_38 : decode cX5_exchangeNeighbours 38 = .ok (.aload_n 0, 1) := by decide +kernel
theorem dX5_exchangeNeighbours_39 : decode cX5_exchangeNeighbours 39 = .ok (.getfield 15, 3) := by decide +kernel
theorem dX5_exchangeNeighbours_42 : decode cX5_exchangeNeighbours 42 = .ok (.iload_n 3, 1) := by decide +kernel
theorem dX5_exchangeNeighbours_43 : decode cX5_exchangeNeighbours 43 = .ok (.iaload, 1) := by decide +kernel
theorem dX5_exchangeNeighbours_44 : decode cX5_exchangeNeighbours 44 = .ok (.invokevirtual 75, 3) := by decide +kernel
theorem dX5_exchangeNeighbours_47 : decode cX5_exchangeNeighbours 47 = .ok (.ifCond .eq 5, 3) := by decide +kernel
theorem dX5_exchangeNeighbours_50 : decode cX5_exchangeNeighbours 50 = .ok (.iconst 1, 1) := by decide +kernel
theorem dX5_exchangeNeighbours_51 : decode cX5_exchangeNeighbours 51 = .ok (.istore_n 1, 1) := by decide +kernel
theorem dX5_exchangeNeighbours_52 : decode cX5_exchangeNeighbours 52 = .ok (.iinc 3 1, 3) := by decide +kernel
theorem dX5_exchangeNeighbours_55 : decode cX5_exchangeNeighbours 55 = .ok (.goto (-26), 3) := by decide +kernel
theorem dX5_exchangeNeighbours_58 : decode cX5_exchangeNeighbours 58 = .ok (.iinc 2 1, 3) := by decide +kernel
theorem dX5_exchangeNeighbours_61 : decode cX5_exchangeNeighbours 61 = .ok (.goto (-57), 3) := by decide +kernel
theorem dX5_exchangeNeighbours_64 : decode cX5_exchangeNeighbours 64 = .ok (.return_, 1) := by decide +kernel
set_option maxRecDepth 20000 in
theorem ggX5_exchangeIn_X5_exchanged : GoodIn wsX5_exchangeIn wsX5_exchanged := goodIn_r _ [6, 7, 8, 5, 9] (by decide +kernel) (by decide +kernel)
set_option maxRecDepth 20000 in
theorem gX5_exchangeIn_X5_exchanged : GoodIn wsX5_exchangeIn (va_wsS RX5 45 yX5_exchanged wsX5_exchanged) := goodIn_app (goodIn_of _ (by decide +kernel)) ggX5_exchangeIn_X5_exchanged
theorem dX5_exchangeIn_0 : decode cX5_exchangeIn 0 = .ok (.iconst 0, 1) := by decide +kernel
theorem dX5_exchangeIn_1 : decode cX5_exchangeIn 1 = .ok (.istore_n 2, 1) := by decide +kernel
theorem dX5_exchangeIn_2 : decode cX5_exchangeIn 2 = .ok (.iconst 0, 1) := by decide +kernel
theorem dX5_exchangeIn_3 : decode cX5_exchangeIn 3 = .ok (.istore_n 3, 1) := by decide +kernel
theorem dX5_exchangeIn_4 : decode cX5_exchangeIn 4 = .ok (.iload_n 3, 1) := by decide +kernel
theorem dX5_exchangeIn_5 : decode cX5_exchangeIn 5 = .ok (.iconst 1, 1) := by decide +kernel
theorem dX5_exchangeIn_6 : decode cX5_exchangeIn 6 = .ok (.iadd, 1) := by decide +kernel
theorem dX5_exchangeIn_7 : decode cX5_exchangeIn 7 = .ok (.aload_n 0, 1) := by decide +kernel
theorem dX5_exchangeIn_8 : decode cX5_exchangeIn 8 = .ok (.getfield 21, 3) := by decide +kernel
theorem dX5_exchangeIn_11 : decode cX5_exchangeIn 11 = .ok (.if_icmp .ge 51, 3) := by decide +kernel
theorem dX5_exchangeIn_14 : decode cX5_exchangeIn 14 = .ok (.iload_n 1, 1) := by decide +kernel
theorem dX5_exchangeIn_15 : decode cX5_exchangeIn 15 = .ok (.iload_n 3, 1) := by decide +kernel
theorem dX5_exchangeIn_16 : decode cX5_exchangeIn 16 = .ok (.invokestatic 45, 3) := by decide +kernel
theorem dX5_exchangeIn_19 : decode cX5_exchangeIn 19 = .ok (.istore 4, 2) := by decide +kernel
theorem dX5_exchangeIn_21 : decode cX5_exchangeIn 21 = .ok (.aload_n 0, 1) := by decide +kernel
theorem dX5_exchangeIn_22 : decode cX5_exchangeIn 22 = .ok (.getfield 18, 3) := by decide +kernel
theorem dX5_exchangeIn_25 : decode cX5_exchangeIn 25 = .ok (.iload_n 1, 1) := by decide +kernel
theorem dX5_exchangeIn_26 : decode cX5_exchangeIn 26 = .ok (.iaload, 1) := by decide +kernel
theorem dX5_exchangeIn_27 : decode cX5_exchangeIn 27 = .ok (.iconst 1, 1) := by decide +kernel
theorem dX5_exchangeIn_28 : decode cX5_exchangeIn 28 = .ok (.iadd, 1) := by decide +kernel
theorem dX5_exchangeIn_29 : decode cX5_exchangeIn 29 = .ok (.aload_n 0, 1) := by decide +kernel
theorem dX5_exchangeIn_30 : decode cX5_exchangeIn 30 = .ok (.getfield 18, 3) := by decide +kernel
theorem dX5_exchangeIn_33 : decode cX5_exchangeIn 33 = .ok (.iload 4, 2) := by decide +kernel
theorem dX5_exchangeIn_35 : decode cX5_exchangeIn 35 = .ok (.iaload, 1) := by decide +kernel
theorem dX5_exchangeIn_36 : decode cX5_exchangeIn 36 = .ok (.if_icmp .ge 20, 3) := by decide +kernel
theorem dX5_exchangeIn_39 : decode cX5_exchangeIn 39 = .ok (.aload_n 0, 1) := by decide +kernel
theorem dX5_exchangeIn_40 : decode cX5_exchangeIn 40 = .ok (.getfield 18, 3) := by decide +kernel
theorem dX5_exchangeIn_43 : decode cX5_exchangeIn 43 = .ok (.iload 4, 2) := by decide +kernel
theorem dX5_exchangeIn_45 : decode cX5_exchangeIn 45 = .ok (.aload_n 0, 1) := by decide +kernel
theorem dX5_exchangeIn_46 : decode cX5_exchangeIn 46 = .ok (.getfield 18, 3) := by decide +kernel
theorem dX5_exchangeIn_49 : decode cX5_exchangeIn 49 = .ok (.iload_n 1, 1) := by decide +kernel
theorem dX5_exchangeIn_50 : decode cX5_exchangeIn 50 = .ok (.iaload, 1) := by decide +kernel
theorem dX5_exchangeIn_51 : decode cX5_exchangeIn 51 = .ok (.iconst 1, 1) := by decide +kernel
theorem dX5_exchangeIn_52 : decode cX5_exchangeIn 52 = .ok (.iadd, 1) := by decide +kernel
theorem dX5_exchangeIn_53 : decode cX5_exchangeIn 53 = .ok (.iastore, 1) := by decide +kernel
theorem dX5_exchangeIn_54 : decode cX5_exchangeIn 54 = .ok (.iconst 1, 1) := by decide +kernel
theorem dX5_exchangeIn_55 : decode cX5_exchangeIn 55 = .ok (.istore_n 2, 1) := by decide +kernel
theorem dX5_exchangeIn_56 : decode cX5_exchangeIn 56 = .ok (.iinc 3 1, 3) := by decide +kernel
theorem dX5_exchangeIn_59 : decode cX5_exchangeIn 59 = .ok (.goto (-55), 3) := by decide +kernel
theorem dX5_exchangeIn_62 : decode cX5_exchangeIn 62 = .ok (.iload_n 2, 1) := by decide +kernel
theorem dX5_exchangeIn_63 : decode cX5_exchangeIn 63 = .ok (.ireturn, 1) := by decide +kernel
set_option maxRecDepth 20000 in
theorem ggX5_payPlaces_X5_placeOf : GoodIn wsX5_payPlaces wsX5_placeOf := goodIn_r _ [8, 9, 10, 11, 7, 12, 13, 14, 15, 16, 17, 18] (by decide +kernel) (by decide +kernel)
set_option maxRecDepth 20000 in
theorem gX5_payPlaces_X5_placeOf : GoodIn wsX5_payPlaces (wsV RX5 42 RX5 yX5_placeOf wsX5_placeOf) := goodIn_app (goodIn_of _ (by decide +kernel)) ggX5_payPlaces_X5_placeOf
theorem dX5_payPlaces_0 : decode cX5_payPlaces 0 = .ok (.iconst 0, 1) := by decide +kernel
theorem dX5_payPlaces_1 : decode cX5_payPlaces 1 = .ok (.istore_n 2, 1) := by decide +kernel
theorem dX5_payPlaces_2 : decode cX5_payPlaces 2 = .ok (.iload_n 2, 1) := by decide +kernel
theorem dX5_payPlaces_3 : decode cX5_payPlaces 3 = .ok (.aload_n 0, 1) := by decide +kernel
theorem dX5_payPlaces_4 : decode cX5_payPlaces 4 = .ok (.getfield 31, 3) := by decide +kernel
theorem dX5_payPlaces_7 : decode cX5_payPlaces 7 = .ok (.if_icmp .ge 36, 3) := by decide +kernel
theorem dX5_payPlaces_10 : decode cX5_payPlaces 10 = .ok (.aload_n 0, 1) := by decide +kernel
theorem dX5_payPlaces_11 : decode cX5_payPlaces 11 = .ok (.getfield 18, 3) := by decide +kernel
theorem dX5_payPlaces_14 : decode cX5_payPlaces 14 = .ok (.aload_n 0, 1) := by decide +kernel
theorem dX5_payPlaces_15 : decode cX5_payPlaces 15 = .ok (.getfield 15, 3) := by decide +kernel
theorem dX5_payPlaces_18 : decode cX5_payPlaces 18 = .ok (.iload_n 2, 1) := by decide +kernel
theorem dX5_payPlaces_19 : decode cX5_payPlaces 19 = .ok (.iaload, 1) := by decide +kernel
theorem dX5_payPlaces_20 : decode cX5_payPlaces 20 = .ok (.dup2, 1) := by decide +kernel
theorem dX5_payPlaces_21 : decode cX5_payPlaces 21 = .ok (.iaload, 1) := by decide +kernel
theorem dX5_payPlaces_22 : decode cX5_payPlaces 22 = .ok (.aload_n 0, 1) := by decide +kernel
theorem dX5_payPlaces_23 : decode cX5_payPlaces 23 = .ok (.aload_n 0, 1) := by decide +kernel
theorem dX5_payPlaces_24 : decode cX5_payPlaces 24 = .ok (.getfield 15, 3) := by decide +kernel
theorem dX5_payPlaces_27 : decode cX5_payPlaces 27 = .ok (.iload_n 2, 1) := by decide +kernel
theorem dX5_payPlaces_28 : decode cX5_payPlaces 28 = .ok (.iaload, 1) := by decide +kernel
theorem dX5_payPlaces_29 : decode cX5_payPlaces 29 = .ok (.iload_n 1, 1) := by decide +kernel
theorem dX5_payPlaces_30 : decode cX5_payPlaces 30 = .ok (.invokevirtual 42, 3) := by decide +kernel
theorem dX5_payPlaces_33 : decode cX5_payPlaces 33 = .ok (.iconst 1, 1) := by decide +kernel
theorem dX5_payPlaces_34 : decode cX5_payPlaces 34 = .ok (.iadd, 1) := by decide +kernel
theorem dX5_payPlaces_35 : decode cX5_payPlaces 35 = .ok (.iadd, 1) := by decide +kernel
theorem dX5_payPlaces_36 : decode cX5_payPlaces 36 = .ok (.iastore, 1) := by decide +kernel
theorem dX5_payPlaces_37 : decode cX5_payPlaces 37 = .ok (.iinc 2 1, 3) := by decide +kernel
theorem dX5_payPlaces_40 : decode cX5_payPlaces 40 = .ok (.goto (-38), 3) := by decide +kernel
theorem dX5_payPlaces_43 : decode cX5_payPlaces 43 = .ok (.return_, 1) := by decide +kernel
set_option maxRecDepth 20000 in
theorem ggX5_moveAhead_X5_thingAt : GoodIn wsX5_moveAhead wsX5_thingAt := goodIn_r _ [12] (by decide +kernel) (by decide +kernel)
set_option maxRecDepth 20000 in
theorem gX5_moveAhead_X5_thingAt : GoodIn wsX5_moveAhead (va_wsS RX5 38 yX5_thingAt wsX5_thingAt) := goodIn_app (goodIn_of _ (by decide +kernel)) ggX5_moveAhead_X5_thingAt
set_option maxRecDepth 20000 in
theorem ggX5_moveAhead_X5_exchanged : GoodIn wsX5_moveAhead wsX5_exchanged := goodIn_r _ [15, 9, 10, 11, 12] (by decide +kernel) (by decide +kernel)
set_option maxRecDepth 20000 in
theorem gX5_moveAhead_X5_exchanged : GoodIn wsX5_moveAhead (va_wsS RX5 45 yX5_exchanged wsX5_exchanged) := goodIn_app (goodIn_of _ (by decide +kernel)) ggX5_moveAhead_X5_exchanged
theorem dX5_moveAhead_0 : decode cX5_moveAhead 0 = .ok (.aload_n 0, 1) := by decide +kernel
theorem dX5_moveAhead_1 : decode cX5_moveAhead 1 = .ok (.getfield 21, 3) := by decide +kernel
theorem dX5_moveAhead_4 : decode cX5_moveAhead 4 = .ok (.iconst 1, 1) := by decide +kernel
theorem dX5_moveAhead_5 : decode cX5_moveAhead 5 = .ok (.isub, 1) := by decide +kernel
theorem dX5_moveAhead_6 : decode cX5_moveAhead 6 = .ok (.istore_n 2, 1) := by decide +kernel
theorem dX5_moveAhead_7 : decode cX5_moveAhead 7 = .ok (.iload_n 2, 1) := by decide +kernel
theorem dX5_moveAhead_8 : decode cX5_moveAhead 8 = .ok (.ifCond .le 81, 3) := by decide +kernel
theorem dX5_moveAhead_11 : decode cX5_moveAhead 11 = .ok (.iconst 0, 1) := by decide +kernel
theorem dX5_moveAhead_12 : decode cX5_moveAhead 12 = .ok (.istore_n 3, 1) := by decide +kernel
theorem dX5_moveAhead_13 : decode cX5_moveAhead 13 = .ok (.iload_n 3, 1) := by decide +kernel
theorem dX5_moveAhead_14 : decode cX5_moveAhead 14 = .ok (.aload_n 0, 1) := by decide +kernel
theorem dX5_moveAhead_15 : decode cX5_moveAhead 15 = .ok (.getfield 31, 3) := by decide +kernel
theorem dX5_moveAhead_18 : decode cX5_moveAhead 18 = .ok (.if_icmp .ge 65, 3) := by decide +kernel
theorem dX5_moveAhead_21 : decode cX5_moveAhead 21 = .ok (.aload_n 0, 1) := by decide +kernel
theorem dX5_moveAhead_22 : decode cX5_moveAhead 22 = .ok (.getfield 15, 3) := by decide +kernel
theorem dX5_moveAhead_25 : decode cX5_moveAhead 25 = .ok (.iload_n 3, 1) := by decide +kernel
theorem dX5_moveAhead_26 : decode cX5_moveAhead 26 = .ok (.iaload, 1) := by decide +kernel
theorem dX5_moveAhead_27 : decode cX5_moveAhead 27 = .ok (.iload_n 2, 1) := by decide +kernel
theorem dX5_moveAhead_28 : decode cX5_moveAhead 28 = .ok (.invokestatic 38, 3) := by decide +kernel
theorem dX5_moveAhead_31 : decode cX5_moveAhead 31 = .ok (.iload_n 1, 1) := by decide +kernel
theorem dX5_moveAhead_32 : decode cX5_moveAhead 32 = .ok (.if_icmp .ne 45, 3) := by decide +kernel
theorem dX5_moveAhead_35 : decode cX5_moveAhead 35 = .ok (.aload_n 0, 1) := by decide +kernel
theorem dX5_moveAhead_36 : decode cX5_moveAhead 36 = .ok (.getfield 15, 3) := by decide +kernel
theorem dX5_moveAhead_39 : decode cX5_moveAhead 39 = .ok (.iload_n 3, 1) := by decide +kernel
theorem dX5_moveAhead_40 : decode cX5_moveAhead 40 = .ok (.iaload, 1) := by decide +kernel
theorem dX5_moveAhead_41 : decode cX5_moveAhead 41 = .ok (.iload_n 2, 1) := by decide +kernel
theorem dX5_moveAhead_42 : decode cX5_moveAhead 42 = .ok (.iconst 1, 1) := by decide +kernel
theorem dX5_moveAhead_43 : decode cX5_moveAhead 43 = .ok (.isub, 1) := by decide +kernel
theorem dX5_moveAhead_44 : decode cX5_moveAhead 44 = .ok (.invokestatic 45, 3) := by decide +kernel
theorem dX5_moveAhead_47 : decode cX5_moveAhead 47 = .ok (.istore 4, 2) := by decide +kernel
theorem dX5_moveAhead_49 : decode cX5_moveAhead 49 = .ok (.aload_n 0, 1) := by decide +kernel
theorem dX5_moveAhead_50 : decode cX5_moveAhead 50 = .ok (.getfield 18, 3) := by decide +kernel
theorem dX5_moveAhead_53 : decode cX5_moveAhead 53 = .ok (.iload 4, 2) := by decide +kernel
theorem dX5_moveAhead_55 : decode cX5_moveAhead 55 = .ok (.aload_n 0, 1) := by decide +kernel
theorem dX5_moveAhead_56 : decode cX5_moveAhead 56 = .ok (.getfield 18, 3) := by decide +kernel
theorem dX5_moveAhead_59 : decode cX5_moveAhead 59 = .ok (.iload 4, 2) := by decide +kernel
theorem dX5_moveAhead_61 : decode cX5_moveAhead 61 = .ok (.iaload, 1) := by decide +kernel
theorem dX5_moveAhead_62 : decode cX5_moveAhead 62 = .ok (.aload_n 0, 1) := by decide +kernel
theorem dX5_moveAhead_63 : decode cX5_moveAhead 63 = .ok (.getfield 18, 3) := by decide +kernel
theorem dX5_moveAhead_66 : decode cX5_moveAhead 66 = .ok (.aload_n 0, 1) := by decide +kernel
theorem dX5_moveAhead_67 : decode cX5_moveAhead 67 = .ok (.getfield 15, 3) := by decide +kernel
theorem dX5_moveAhead_70 : decode cX5_moveAhead 70 = .ok (.iload_n 3, 1) := by decide +kernel
theorem dX5_moveAhead_71 : decode cX5_moveAhead 71 = .ok (.iaload, 1) := by decide +kernel
theorem dX5_moveAhead_72 : decode cX5_moveAhead 72 = .ok (.iaload, 1) := by decide +kernel
theorem dX5_moveAhead_73 : decode cX5_moveAhead 73 = .ok (.invokestatic 60, 3) := by decide +kernel
theorem dX5_moveAhead_76 : decode cX5_moveAhead 76 = .ok (.iastore, 1) := by decide +kernel
theorem dX5_moveAhead_77 : decode cX5_moveAhead 77 = .ok (.iinc 3 1, 3) := by decide +kernel
theorem dX5_moveAhead_80 : decode cX5_moveAhead 80 = .ok (.goto (-67), 3) := by decide +kernel
theorem dX5_moveAhead_83 : decode cX5_moveAhead 83 = .ok (.iinc 2 (-1), 3) := by decide +kernel
theorem dX5_moveAhead_86 : decode cX5_moveAhead 86 = .ok (.goto (-79), 3) := by decide +kernel
theorem dX5_moveAhead_89 : decode cX5_moveAhead 89 = .ok (.return_, 1) := by decide +kernel
set_option maxRecDepth 20000 in
theorem ggX6_init_X3_init : GoodIn wsX6_init wsX3_init := goodIn_r _ [19, 20, 2, 3, 21, 22, 23, 24, 25, 26, 27, 28, 29, 30, 31, 32, 33, 61, 62, 63, 76, 77, 78, 79, 80, 81, 82, 83, 84] (by decide +kernel) (by decide +kernel)
set_option maxRecDepth 20000 in
theorem gX6_init_X3_init : GoodIn wsX6_init (wsX3_init) := ggX6_init_X3_init
set_option maxRecDepth 20000 in
theorem ggX6_init_X2_init : GoodIn wsX6_init wsX2_init := goodIn_r _ [36, 37, 2, 3, 26, 38, 39, 68, 69] (by decide +kernel) (by decide +kernel)
set_option maxRecDepth 20000 in
theorem gX6_init_X2_init : GoodIn wsX6_init (wsX2_init) := ggX6_init_X2_init
set_option maxRecDepth 20000 in
theorem ggX6_init_X5_init : GoodIn wsX6_init wsX5_init := goodIn_r _ [42, 43, 2, 3, 26, 44, 45, 46, 47, 48, 49, 50, 51, 14, 52, 53, 54, 55, 56, 57, 58, 59, 60, 70, 71, 72, 73, 74, 75] (by decide +kernel) (by decide +kernel)
set_option maxRecDepth 20000 in
theorem gX6_init_X5_init : GoodIn wsX6_init (wsX5_init) := ggX6_init_X5_init
theorem dX6_init_0 : decode cX6_init 0 = .ok (.aload_n 0, 1) := by decide +kernel
theorem dX6_init_1 : decode cX6_init 1 = .ok (.invokespecial 1, 3) := by decide +kernel
theorem dX6_init_4 : decode cX6_init 4 = .ok (.aload_n 0, 1) := by decide +kernel
theorem dX6_init_5 : decode cX6_init 5 = .ok (.new 7, 3) := by decide +kernel
theorem dX6_init_8 : decode cX6_init 8 = .ok (.dup, 1) := by decide +kernel
theorem dX6_init_9 : decode cX6_init 9 = .ok (.invokespecial 9, 3) := by decide +kernel
theorem dX6_init_12 : decode cX6_init 12 = .ok (.putfield 10, 3) := by decide +kernel
theorem dX6_init_15 : decode cX6_init 15 = .ok (.aload_n 0, 1) := by decide +kernel
theorem dX6_init_16 : decode cX6_init 16 = .ok (.new 16, 3) := by decide +kernel
theorem dX6_init_19 : decode cX6_init 19 = .ok (.dup, 1) := by decide +kernel
theorem dX6_init_20 : decode cX6_init 20 = .ok (.invokespecial 18, 3) := by decide +kernel
theorem dX6_init_23 : decode cX6_init 23 = .ok (.putfield 19, 3) := by decide +kernel
theorem dX6_init_26 : decode cX6_init 26 = .ok (.aload_n 0, 1) := by decide +kernel
theorem dX6_init_27 : decode cX6_init 27 = .ok (.new 23, 3) := by decide +kernel
theorem dX6_init_30 : decode cX6_init 30 = .ok (.dup, 1) := by decide +kernel
theorem dX6_init_31 : decode cX6_init 31 = .ok (.invokespecial 25, 3) := by decide +kernel
theorem dX6_init_34 : decode cX6_init 34 = .ok (.putfield 26, 3) := by decide +kernel
theorem dX6_init_37 : decode cX6_init 37 = .ok (.aload_n 0, 1) := by decide +kernel
theorem dX6_init_38 : decode cX6_init 38 = .ok (.lconst 0, 1) := by decide +kernel
theorem dX6_init_39 : decode cX6_init 39 = .ok (.putfield 30, 3) := by decide +kernel
theorem dX6_init_42 : decode cX6_init 42 = .ok (.return_, 1) := by decide +kernel
set_option maxRecDepth 20000 in
theorem ggX6_offer_X6_isWithin : GoodIn wsX6_offer wsX6_isWithin := goodIn_r _ [14] (by decide +kernel) (by decide +kernel)
set_option maxRecDepth 20000 in
theorem gX6_offer_X6_isWithin : GoodIn wsX6_offer (va_wsS RX6 34 yX6_isWithin wsX6_isWithin) := goodIn_app (goodIn_of _ (by decide +kernel)) ggX6_offer_X6_isWithin
set_option maxRecDepth 20000 in
theorem ggX6_offer_X1_init : GoodIn wsX6_offer wsX1_init := goodIn_r _ [17, 18, 19, 20, 21, 22, 76, 77, 78, 79, 71, 72, 73, 74, 75] (by decide +kernel) (by decide +kernel)
set_option maxRecDepth 20000 in
theorem gX6_offer_X1_init : GoodIn wsX6_offer (wsX1_init) := ggX6_offer_X1_init
set_option maxRecDepth 20000 in
theorem ggX6_offer_X4_init : GoodIn wsX6_offer wsX4_init := goodIn_r _ [25, 26, 27, 16, 4, 17, 18, 19, 20, 21, 22, 76, 77, 78, 79, 73, 74, 75, 71, 72] (by decide +kernel) (by decide +kernel)
set_option maxRecDepth 20000 in
theorem gX6_offer_X4_init : GoodIn wsX6_offer (wsX4_init) := ggX6_offer_X4_init
set_option maxRecDepth 20000 in
theorem ggX6_offer_X0_init : GoodIn wsX6_offer wsX0_init := goodIn_r _ [30, 31, 32, 24, 7, 25, 26, 27, 16, 4, 17, 18, 19, 20, 21, 22, 76, 77, 78, 79, 73, 74, 75, 71, 72] (by decide +kernel) (by decide +kernel)
set_option maxRecDepth 20000 in
theorem gX6_offer_X0_init : GoodIn wsX6_offer (wsX0_init) := ggX6_offer_X0_init
set_option maxRecDepth 20000 in
theorem ggX6_offer_X3_take : GoodIn wsX6_offer wsX3_take := goodIn_r _ [37, 38, 39, 40, 41, 42, 43, 44, 10, 45, 31, 46, 47, 48, 49, 50, 51, 52, 53, 7, 54, 26, 55, 56, 57, 4, 58, 21, 59, 60, 61, 80, 81, 82, 76, 77, 78, 79, 73, 74, 75, 71, 72] (by decide +kernel) (by decide +kernel)
set_option maxRecDepth 20000 in
theorem gX6_offer_X3_take : GoodIn wsX6_offer (wsV RX6 53 RX3 yX3_take wsX3_take) := goodIn_app (goodIn_of _ (by decide +kernel)) ggX6_offer_X3_take
set_option maxRecDepth 20000 in
theorem ggX6_offer_X3_knownBy : GoodIn wsX6_offer wsX3_knownBy := goodIn_r _ [65, 38, 39, 66, 47, 48, 49, 80, 81, 82, 76, 77, 78, 79, 71, 72, 73, 74, 75] (by decide +kernel) (by decide +kernel)
set_option maxRecDepth 20000 in
theorem gX6_offer_X3_knownBy : GoodIn wsX6_offer (wsV RX6 61 RX3 yX3_knownBy wsX3_knownBy) := goodIn_app (goodIn_of _ (by decide +kernel)) ggX6_offer_X3_knownBy
theorem dX6_offer_0 : decode cX6_offer 0 = .ok (.iload_n 1, 1) := by decide +kernel
theorem dX6_offer_1 : decode cX6_offer 1 = .ok (.iconst 0, 1) := by decide +kernel
theorem dX6_offer_2 : decode cX6_offer 2 = .ok (.iconst 2, 1) := by decide +kernel
theorem dX6_offer_3 : decode cX6_offer 3 = .ok (.invokestatic 34, 3) := by decide +kernel
theorem dX6_offer_6 : decode cX6_offer 6 = .ok (.ifCond .eq 25, 3) := by decide +kernel
theorem dX6_offer_9 : decode cX6_offer 9 = .ok (.iload_n 2, 1) := by decide +kernel
theorem dX6_offer_10 : decode cX6_offer 10 = .ok (.iconst 1, 1) := by decide +kernel
theorem dX6_offer_11 : decode cX6_offer 11 = .ok (.bipush 50, 2) := by decide +kernel
theorem dX6_offer_13 : decode cX6_offer 13 = .ok (.invokestatic 34, 3) := by decide +kernel
theorem dX6_offer_16 : decode cX6_offer 16 = .ok (.ifCond .eq 15, 3) := by decide +kernel
theorem dX6_offer_19 : decode cX6_offer 19 = .ok (.iload 5, 2) := by decide +kernel
theorem dX6_offer_21 : decode cX6_offer 21 = .ok (.iconst 1, 1) := by decide +kernel
theorem dX6_offer_22 : decode cX6_offer 22 = .ok (.sipush 500, 3) := by decide +kernel
theorem dX6_offer_25 : decode cX6_offer 25 = .ok (.invokestatic 34, 3) := by decide +kernel
theorem dX6_offer_28 : decode cX6_offer 28 = .ok (.ifCond .ne 5, 3) := by decide +kernel
theorem dX6_offer_31 : decode cX6_offer 31 = .ok (.iconst (-1), 1) := by decide +kernel
theorem dX6_offer_32 : decode cX6_offer 32 = .ok (.ireturn, 1) := by decide +kernel
theorem dX6_offer_33 : decode cX6_offer 33 = .ok (.iload_n 1, 1) := by decide +kernel
theorem dX6_offer_34 : decode cX6_offer 34 = .ok (.ifCond .eq 15, 3) := by decide +kernel
theorem dX6_offer_37 : decode cX6_offer 37 = .ok (.iload_n 3, 1) := by decide +kernel
theorem dX6_offer_38 : decode cX6_offer 38 = .ok (.iconst 0, 1) := by decide +kernel
theorem dX6_offer_39 : decode cX6_offer 39 = .ok (.bipush 20, 2) := by decide +kernel
theorem dX6_offer_41 : decode cX6_offer 41 = .ok (.invokestatic 34, 3) := by decide +kernel
theorem dX6_offer_44 : decode cX6_offer 44 = .ok (.ifCond .ne 5, 3) := by decide +kernel
theorem dX6_offer_47 : decode cX6_offer 47 = .ok (.iconst (-1), 1) := by decide +kernel
theorem dX6_offer_48 : decode cX6_offer 48 = .ok (.ireturn, 1) := by decide +kernel
theorem dX6_offer_49 : decode cX6_offer 49 = .ok (.iload_n 1, 1) := by decide +kernel
theorem dX6_offer_50 : decode cX6_offer 50 = .ok (.iconst 2, 1) := by decide +kernel
theorem dX6_offer_51 : decode cX6_offer 51 = .ok (.if_icmp .ne 17, 3) := by decide +kernel
theorem dX6_offer_54 : decode cX6_offer 54 = .ok (.iload 4, 2) := by decide +kernel
theorem dX6_offer_56 : decode cX6_offer 56 = .ok (.iconst 1, 1) := by decide +kernel
theorem dX6_offer_57 : decode cX6_offer 57 = .ok (.sipush 200, 3) := by decide +kernel
theorem dX6_offer_60 : decode cX6_offer 60 = .ok (.invokestatic 34, 3) := by decide +kernel
theorem dX6_offer_63 : decode cX6_offer 63 = .ok (.ifCond .ne 5, 3) := by decide +kernel
theorem dX6_offer_66 : decode cX6_offer 66 = .ok (.iconst (-1), 1) := by decide +kernel
theorem dX6_offer_67 : decode cX6_offer 67 = .ok (.ireturn, 1) := by decide +kernel
theorem dX6_offer_68 : decode cX6_offer 68 = .ok (.aload_n 0, 1) := by decide +kernel
theorem dX6_offer_69 : decode cX6_offer 69 = .ok (.getfield 10, 3) := by decide +kernel
theorem dX6_offer_72 : decode cX6_offer 72 = .ok (.iload_n 1, 1) := by decide +kernel
theorem dX6_offer_73 : decode cX6_offer 73 = .ok (.ifCond .ne 16, 3) := by decide +kernel
theorem dX6_offer_76 : decode cX6_offer 76 = .ok (.new 38, 3) := by decide +kernel
theorem dX6_offer_79 : decode cX6_offer 79 = .ok (.dup, 1) := by decide +kernel
theorem dX6_offer_80 : decode cX6_offer 80 = .ok (.iload_n 2, 1) := by decide +kernel
theorem dX6_offer_81 : decode cX6_offer 81 = .ok (.iload 5, 2) := by decide +kernel
theorem dX6_offer_83 : decode cX6_offer 83 = .ok (.invokespecial 40, 3) := by decide +kernel
theorem dX6_offer_86 : decode cX6_offer 86 = .ok (.goto 35, 3) := by decide +kernel
theorem dX6_offer_89 : decode cX6_offer 89 = .ok (.iload_n 1, 1) := by decide +kernel
theorem dX6_offer_90 : decode cX6_offer 90 = .ok (.iconst 1, 1) := by decide +kernel
theorem dX6_offer_91 : decode cX6_offer 91 = .ok (.if_icmp .ne 17, 3) := by decide +kernel
theorem dX6_offer_94 : decode cX6_offer 94 = .ok (.new 43, 3) := by decide +kernel
theorem dX6_offer_97 : decode cX6_offer 97 = .ok (.dup, 1) := by decide +kernel
theorem dX6_offer_98 : decode cX6_offer 98 = .ok (.iload_n 2, 1) := by decide +kernel
theorem dX6_offer_99 : decode cX6_offer 99 = .ok (.iload_n 3, 1) := by decide +kernel
theorem dX6_offer_100 : decode cX6_offer 100 = .ok (.iload 5, 2) := by decide +kernel
theorem dX6_offer_102 : decode cX6_offer 102 = .ok (.invokespecial 45, 3) := by decide +kernel
theorem dX6_offer_105 : decode cX6_offer 105 = .ok (.goto 16, 3) := by decide +kernel
theorem dX6_offer_108 : decode cX6_offer 108 = .ok (.new 48, 3) := by decide +kernel
theorem dX6_offer_111 : decode cX6_offer 111 = .ok (.dup, 1) := by decide +kernel
theorem dX6_offer_112 : decode cX6_offer 112 = .ok (.iload_n 2, 1) := by decide +kernel
theorem dX6_offer_113 : decode cX6_offer 113 = .ok (.iload_n 3, 1) := by decide +kernel
theorem dX6_offer_114 : decode cX6_offer 114 = .ok (.iload 4, 2) := by decide +kernel
theorem dX6_offer_116 : decode cX6_offer 116 = .ok (.iload 5, 2) := by decide +kernel
theorem dX6_offer_118 : decode cX6_offer 118 = .ok (.invokespecial 50, 3) := by decide +kernel
theorem dX6_offer_121 : decode cX6_offer 121 = .ok (.invokevirtual 53, 3) := by decide +kernel
theorem dX6_offer_124 : decode cX6_offer 124 = .ok (.aload_n 0, 1) := by decide +kernel
theorem dX6_offer_125 : decode cX6_offer 125 = .ok (.getfield 10, 3) := by decide +kernel
theorem dX6_offer_128 : decode cX6_offer 128 = .ok (.aload_n 0, 1) := by decide +kernel
theorem dX6_offer_129 : decode cX6_offer 129 = .ok (.getfield 10, 3) := by decide +kernel
theorem dX6_offer_132 : decode cX6_offer 132 = .ok (.getfield 57, 3) := by decide +kernel
theorem dX6_offer_135 : decode cX6_offer 135 = .ok (.invokevirtual 61, 3) := by decide +kernel
theorem dX6_offer_138 : decode cX6_offer 138 = .ok (.ireturn, 1) := by decide +kernel
set_option maxRecDepth 20000 in
theorem ggX6_ends_X6_isWithin : GoodIn wsX6_ends wsX6_isWithin := goodIn_r _ [6] (by decide +kernel) (by decide +kernel)
set_option maxRecDepth 20000 in
theorem gX6_ends_X6_isWithin : GoodIn wsX6_ends (va_wsS RX6 34 yX6_isWithin wsX6_isWithin) := goodIn_app (goodIn_of _ (by decide +kernel)) ggX6_ends_X6_isWithin
set_option maxRecDepth 20000 in
theorem ggX6_ends_X2_clearAll : GoodIn wsX6_ends wsX2_clearAll := goodIn_r _ [11, 12, 13, 21, 22] (by decide +kernel) (by decide +kernel)
set_option maxRecDepth 20000 in
theorem gX6_ends_X2_clearAll : GoodIn wsX6_ends (wsV RX6 65 RX2 yX2_clearAll wsX2_clearAll) := goodIn_app (goodIn_of _ (by decide +kernel)) ggX6_ends_X2_clearAll
theorem dX6_ends_0 : decode cX6_ends 0 = .ok (.iload_n 1, 1) := by decide +kernel
theorem dX6_ends_1 : decode cX6_ends 1 = .ok (.iconst 1, 1) := by decide +kernel
theorem dX6_ends_2 : decode cX6_ends 2 = .ok (.bipush 40, 2) := by decide +kernel
theorem dX6_ends_4 : decode cX6_ends 4 = .ok (.invokestatic 34, 3) := by decide +kernel
theorem dX6_ends_7 : decode cX6_ends 7 = .ok (.ifCond .ne 5, 3) := by decide +kernel
theorem dX6_ends_10 : decode cX6_ends 10 = .ok (.iconst (-1), 1) := by decide +kernel
theorem dX6_ends_11 : decode cX6_ends 11 = .ok (.ireturn, 1) := by decide +kernel
theorem dX6_ends_12 : decode cX6_ends 12 = .ok (.aload_n 0, 1) := by decide +kernel
theorem dX6_ends_13 : decode cX6_ends 13 = .ok (.getfield 10, 3) := by decide +kernel
theorem dX6_ends_16 : decode cX6_ends 16 = .ok (.getfield 57, 3) := by decide +kernel
theorem dX6_ends_19 : decode cX6_ends 19 = .ok (.istore_n 2, 1) := by decide +kernel
theorem dX6_ends_20 : decode cX6_ends 20 = .ok (.aload_n 0, 1) := by decide +kernel
theorem dX6_ends_21 : decode cX6_ends 21 = .ok (.getfield 10, 3) := by decide +kernel
theorem dX6_ends_24 : decode cX6_ends 24 = .ok (.iload_n 1, 1) := by decide +kernel
theorem dX6_ends_25 : decode cX6_ends 25 = .ok (.putfield 57, 3) := by decide +kernel
theorem dX6_ends_28 : decode cX6_ends 28 = .ok (.aload_n 0, 1) := by decide +kernel
theorem dX6_ends_29 : decode cX6_ends 29 = .ok (.getfield 19, 3) := by decide +kernel
theorem dX6_ends_32 : decode cX6_ends 32 = .ok (.invokevirtual 65, 3) := by decide +kernel
theorem dX6_ends_35 : decode cX6_ends 35 = .ok (.iload_n 2, 1) := by decide +kernel
theorem dX6_ends_36 : decode cX6_ends 36 = .ok (.ireturn, 1) := by decide +kernel
set_option maxRecDepth 20000 in
theorem ggX6_rent_X6_isWithin : GoodIn wsX6_rent wsX6_isWithin := goodIn_r _ [6] (by decide +kernel) (by decide +kernel)
set_option maxRecDepth 20000 in
theorem gX6_rent_X6_isWithin : GoodIn wsX6_rent (va_wsS RX6 34 yX6_isWithin wsX6_isWithin) := goodIn_app (goodIn_of _ (by decide +kernel)) ggX6_rent_X6_isWithin
set_option maxRecDepth 20000 in
theorem ggX6_rent_X0_bodiesAsked : GoodIn wsX6_rent wsX0_bodiesAsked := goodIn_r _ [13, 14, 15, 16, 17, 18, 19, 20, 8, 21, 22, 23, 24] (by decide +kernel) (by decide +kernel)
set_option maxRecDepth 20000 in
theorem gX6_rent_X0_bodiesAsked_u72X0 : GoodIn wsX6_rent (va_wsO RX6 72 RX0 "RentOrBuy$Flat" ⟨"RentOrBuy$Flat", "bodiesAsked", "()I"⟩ yX0_bodiesAsked wsX0_bodiesAsked) := goodIn_app (goodIn_of _ (by decide +kernel)) ggX6_rent_X0_bodiesAsked
set_option maxRecDepth 20000 in
theorem ggX6_rent_X1_bodiesAsked : GoodIn wsX6_rent wsX1_bodiesAsked := goodIn_r _ [24] (by decide +kernel) (by decide +kernel)
set_option maxRecDepth 20000 in
theorem gX6_rent_X1_bodiesAsked : GoodIn wsX6_rent (wsV RX6 72 RX1 yX1_bodiesAsked wsX1_bodiesAsked) := goodIn_app (goodIn_of _ (by decide +kernel)) ggX6_rent_X1_bodiesAsked
set_option maxRecDepth 20000 in
theorem ggX6_rent_X4_bodiesAsked : GoodIn wsX6_rent wsX4_bodiesAsked := goodIn_r _ [19, 20, 8, 21, 22, 23, 24] (by decide +kernel) (by decide +kernel)
set_option maxRecDepth 20000 in
theorem gX6_rent_X4_bodiesAsked_u72X4 : GoodIn wsX6_rent (va_wsO RX6 72 RX4 "RentOrBuy$Flat" ⟨"RentOrBuy$Flat", "bodiesAsked", "()I"⟩ yX4_bodiesAsked wsX4_bodiesAsked) := goodIn_app (goodIn_of _ (by decide +kernel)) ggX6_rent_X4_bodiesAsked
set_option maxRecDepth 20000 in
theorem ggX6_rent_X0_rentOf : GoodIn wsX6_rent wsX0_rentOf := goodIn_r _ [33, 34, 35, 36, 37, 38, 39, 40, 16, 41, 18, 42, 43, 44, 29, 21, 45, 23, 46, 47, 58, 59, 60, 61, 62, 63, 64, 65, 66] (by decide +kernel) (by decide +kernel)
set_option maxRecDepth 20000 in
theorem gX6_rent_X0_rentOf_u76X0 : GoodIn wsX6_rent (va_wsO RX6 76 RX0 "RentOrBuy$Flat" ⟨"RentOrBuy$Flat", "rentOf", "(I)I"⟩ yX0_rentOf wsX0_rentOf) := goodIn_app (goodIn_of _ (by decide +kernel)) ggX6_rent_X0_rentOf
set_option maxRecDepth 20000 in
theorem ggX6_rent_X1_rentOf : GoodIn wsX6_rent wsX1_rentOf := goodIn_r _ [46, 47, 58, 59, 60, 61, 65, 66, 62, 63, 64] (by decide +kernel) (by decide +kernel)
set_option maxRecDepth 20000 in
theorem gX6_rent_X1_rentOf : GoodIn wsX6_rent (wsV RX6 76 RX1 yX1_rentOf wsX1_rentOf) := goodIn_app (goodIn_of _ (by decide +kernel)) ggX6_rent_X1_rentOf
set_option maxRecDepth 20000 in
theorem ggX6_rent_X4_rentOf : GoodIn wsX6_rent wsX4_rentOf := goodIn_r _ [42, 43, 44, 29, 21, 45, 23, 46, 47, 58, 59, 60, 61, 62, 63, 64, 65, 66] (by decide +kernel) (by decide +kernel)
set_option maxRecDepth 20000 in
theorem gX6_rent_X4_rentOf_u76X4 : GoodIn wsX6_rent (va_wsO RX6 76 RX4 "RentOrBuy$Flat" ⟨"RentOrBuy$Flat", "rentOf", "(I)I"⟩ yX4_rentOf wsX4_rentOf) := goodIn_app (goodIn_of _ (by decide +kernel)) ggX6_rent_X4_rentOf
theorem dX6_rent_0 : decode cX6_rent 0 = .ok (.iload_n 1, 1) := by decide +kernel
theorem dX6_rent_1 : decode cX6_rent 1 = .ok (.iconst 1, 1) := by decide +kernel
theorem dX6_rent_2 : decode cX6_rent 2 = .ok (.bipush 40, 2) := by decide +kernel
theorem dX6_rent_4 : decode cX6_rent 4 = .ok (.invokestatic 34, 3) := by decide +kernel
theorem dX6_rent_7 : decode cX6_rent 7 = .ok (.ifCond .ne 5, 3) := by decide +kernel
theorem dX6_rent_10 : decode cX6_rent 10 = .ok (.iconst (-1), 1) := by decide +kernel
theorem dX6_rent_11 : decode cX6_rent 11 = .ok (.ireturn, 1) := by decide +kernel
theorem dX6_rent_12 : decode cX6_rent 12 = .ok (.aload_n 0, 1) := by decide +kernel
theorem dX6_rent_13 : decode cX6_rent 13 = .ok (.dup, 1) := by decide +kernel
theorem dX6_rent_14 : decode cX6_rent 14 = .ok (.getfield 30, 3) := by decide +kernel
theorem dX6_rent_17 : decode cX6_rent 17 = .ok (.aload_n 0, 1) := by decide +kernel
theorem dX6_rent_18 : decode cX6_rent 18 = .ok (.getfield 10, 3) := by decide +kernel
theorem dX6_rent_21 : decode cX6_rent 21 = .ok (.getfield 68, 3) := by decide +kernel
theorem dX6_rent_24 : decode cX6_rent 24 = .ok (.invokevirtual 72, 3) := by decide +kernel
theorem dX6_rent_27 : decode cX6_rent 27 = .ok (.i2l, 1) := by decide +kernel
theorem dX6_rent_28 : decode cX6_rent 28 = .ok (.ladd, 1) := by decide +kernel
theorem dX6_rent_29 : decode cX6_rent 29 = .ok (.putfield 30, 3) := by decide +kernel
theorem dX6_rent_32 : decode cX6_rent 32 = .ok (.aload_n 0, 1) := by decide +kernel
theorem dX6_rent_33 : decode cX6_rent 33 = .ok (.getfield 10, 3) := by decide +kernel
theorem dX6_rent_36 : decode cX6_rent 36 = .ok (.getfield 68, 3) := by decide +kernel
theorem dX6_rent_39 : decode cX6_rent 39 = .ok (.iload_n 1, 1) := by decide +kernel
theorem dX6_rent_40 : decode cX6_rent 40 = .ok (.invokevirtual 76, 3) := by decide +kernel
theorem dX6_rent_43 : decode cX6_rent 43 = .ok (.ireturn, 1) := by decide +kernel
set_option maxRecDepth 20000 in
theorem ggX6_cost_X3_isPlan : GoodIn wsX6_cost wsX3_isPlan := goodIn_r _ [6, 7, 8, 9, 10, 25, 26, 27] (by decide +kernel) (by decide +kernel)
set_option maxRecDepth 20000 in
theorem gX6_cost_X3_isPlan : GoodIn wsX6_cost (wsV RX6 79 RX3 yX3_isPlan wsX3_isPlan) := goodIn_app (goodIn_of _ (by decide +kernel)) ggX6_cost_X3_isPlan
set_option maxRecDepth 20000 in
theorem ggX6_cost_X3_isEnd : GoodIn wsX6_cost wsX3_isEnd := goodIn_r _ [14, 7, 8, 9, 10, 25, 26, 27] (by decide +kernel) (by decide +kernel)
set_option maxRecDepth 20000 in
theorem gX6_cost_X3_isEnd : GoodIn wsX6_cost (wsV RX6 83 RX3 yX3_isEnd wsX3_isEnd) := goodIn_app (goodIn_of _ (by decide +kernel)) ggX6_cost_X3_isEnd
set_option maxRecDepth 20000 in
theorem ggX6_cost_X3_costOf : GoodIn wsX6_cost wsX3_costOf := goodIn_r _ [18, 19, 20, 25, 26, 27, 28, 29, 30, 31, 32, 33, 34, 35, 36] (by decide +kernel) (by decide +kernel)
set_option maxRecDepth 20000 in
theorem gX6_cost_X3_costOf : GoodIn wsX6_cost (wsV RX6 86 RX3 yX3_costOf wsX3_costOf) := goodIn_app (goodIn_of _ (by decide +kernel)) ggX6_cost_X3_costOf
theorem dX6_cost_0 : decode cX6_cost 0 = .ok (.aload_n 0, 1) := by decide +kernel
theorem dX6_cost_1 : decode cX6_cost 1 = .ok (.getfield 10, 3) := by decide +kernel
theorem dX6_cost_4 : decode cX6_cost 4 = .ok (.iload_n 1, 1) := by decide +kernel
theorem dX6_cost_5 : decode cX6_cost 5 = .ok (.invokevirtual 79, 3) := by decide +kernel
theorem dX6_cost_8 : decode cX6_cost 8 = .ok (.ifCond .eq 14, 3) := by decide +kernel
theorem dX6_cost_11 : decode cX6_cost 11 = .ok (.aload_n 0, 1) := by decide +kernel
theorem dX6_cost_12 : decode cX6_cost 12 = .ok (.getfield 10, 3) := by decide +kernel
theorem dX6_cost_15 : decode cX6_cost 15 = .ok (.iload_n 2, 1) := by decide +kernel
theorem dX6_cost_16 : decode cX6_cost 16 = .ok (.invokevirtual 83, 3) := by decide +kernel
theorem dX6_cost_19 : decode cX6_cost 19 = .ok (.ifCond .ne 5, 3) := by decide +kernel
theorem dX6_cost_22 : decode cX6_cost 22 = .ok (.iconst (-1), 1) := by decide +kernel
theorem dX6_cost_23 : decode cX6_cost 23 = .ok (.ireturn, 1) := by decide +kernel
theorem dX6_cost_24 : decode cX6_cost 24 = .ok (.aload_n 0, 1) := by decide +kernel
theorem dX6_cost_25 : decode cX6_cost 25 = .ok (.getfield 10, 3) := by decide +kernel
theorem dX6_cost_28 : decode cX6_cost 28 = .ok (.iload_n 1, 1) := by decide +kernel
theorem dX6_cost_29 : decode cX6_cost 29 = .ok (.iload_n 2, 1) := by decide +kernel
theorem dX6_cost_30 : decode cX6_cost 30 = .ok (.invokevirtual 86, 3) := by decide +kernel
theorem dX6_cost_33 : decode cX6_cost 33 = .ok (.ireturn, 1) := by decide +kernel
set_option maxRecDepth 20000 in
theorem ggX6_known_X3_isEnd : GoodIn wsX6_known wsX3_isEnd := goodIn_r _ [6, 7, 8, 9, 10, 25, 26, 27] (by decide +kernel) (by decide +kernel)
set_option maxRecDepth 20000 in
theorem gX6_known_X3_isEnd : GoodIn wsX6_known (wsV RX6 83 RX3 yX3_isEnd wsX3_isEnd) := goodIn_app (goodIn_of _ (by decide +kernel)) ggX6_known_X3_isEnd
set_option maxRecDepth 20000 in
theorem ggX6_known_X3_knownBy : GoodIn wsX6_known wsX3_knownBy := goodIn_r _ [14, 15, 16, 17, 18, 19, 20, 25, 26, 27, 28, 29, 30, 31, 32, 33, 34, 35, 36] (by decide +kernel) (by decide +kernel)
set_option maxRecDepth 20000 in
theorem gX6_known_X3_knownBy : GoodIn wsX6_known (wsV RX6 61 RX3 yX3_knownBy wsX3_knownBy) := goodIn_app (goodIn_of _ (by decide +kernel)) ggX6_known_X3_knownBy
theorem dX6_known_0 : decode cX6_known 0 = .ok (.aload_n 0, 1) := by decide +kernel
theorem dX6_known_1 : decode cX6_known 1 = .ok (.getfield 10, 3) := by decide +kernel
theorem dX6_known_4 : decode cX6_known 4 = .ok (.iload_n 1, 1) := by decide +kernel
theorem dX6_known_5 : decode cX6_known 5 = .ok (.invokevirtual 83, 3) := by decide +kernel
theorem dX6_known_8 : decode cX6_known 8 = .ok (.ifCond .ne 5, 3) := by decide +kernel
theorem dX6_known_11 : decode cX6_known 11 = .ok (.iconst (-1), 1) := by decide +kernel
theorem dX6_known_12 : decode cX6_known 12 = .ok (.ireturn, 1) := by decide +kernel
theorem dX6_known_13 : decode cX6_known 13 = .ok (.aload_n 0, 1) := by decide +kernel
theorem dX6_known_14 : decode cX6_known 14 = .ok (.getfield 10, 3) := by decide +kernel
theorem dX6_known_17 : decode cX6_known 17 = .ok (.iload_n 1, 1) := by decide +kernel
theorem dX6_known_18 : decode cX6_known 18 = .ok (.invokevirtual 61, 3) := by decide +kernel
theorem dX6_known_21 : decode cX6_known 21 = .ok (.ireturn, 1) := by decide +kernel
set_option maxRecDepth 20000 in
theorem ggX6_ratio_X3_isPlan : GoodIn wsX6_ratio wsX3_isPlan := goodIn_r _ [6, 7, 8, 9, 10, 54, 55, 56] (by decide +kernel) (by decide +kernel)
set_option maxRecDepth 20000 in
theorem gX6_ratio_X3_isPlan : GoodIn wsX6_ratio (wsV RX6 79 RX3 yX3_isPlan wsX3_isPlan) := goodIn_app (goodIn_of _ (by decide +kernel)) ggX6_ratio_X3_isPlan
set_option maxRecDepth 20000 in
theorem ggX6_ratio_X3_isEnd : GoodIn wsX6_ratio wsX3_isEnd := goodIn_r _ [14, 7, 8, 9, 10, 54, 55, 56] (by decide +kernel) (by decide +kernel)
set_option maxRecDepth 20000 in
theorem gX6_ratio_X3_isEnd : GoodIn wsX6_ratio (wsV RX6 83 RX3 yX3_isEnd wsX3_isEnd) := goodIn_app (goodIn_of _ (by decide +kernel)) ggX6_ratio_X3_isEnd
set_option maxRecDepth 20000 in
theorem ggX6_ratio_X6_isWithin : GoodIn wsX6_ratio wsX6_isWithin := goodIn_r _ [10] (by decide +kernel) (by decide +kernel)
set_option maxRecDepth 20000 in
theorem gX6_ratio_X6_isWithin : GoodIn wsX6_ratio (va_wsS RX6 34 yX6_isWithin wsX6_isWithin) := goodIn_app (goodIn_of _ (by decide +kernel)) ggX6_ratio_X6_isWithin
set_option maxRecDepth 20000 in
theorem ggX6_ratio_X3_worstEnd : GoodIn wsX6_ratio wsX3_worstEnd := goodIn_r _ [19, 7, 20, 21, 22, 5, 23, 24, 25, 26, 27, 28, 29, 30, 31, 32, 33, 34, 35, 36, 37, 54, 55, 56, 57, 58, 59, 60, 61, 62, 63, 64, 65] (by decide +kernel) (by decide +kernel)
set_option maxRecDepth 20000 in
theorem gX6_ratio_X3_worstEnd : GoodIn wsX6_ratio (wsV RX6 90 RX3 yX3_worstEnd wsX3_worstEnd) := goodIn_app (goodIn_of _ (by decide +kernel)) ggX6_ratio_X3_worstEnd
set_option maxRecDepth 20000 in
theorem ggX6_ratio_X3_ratioPart : GoodIn wsX6_ratio wsX3_ratioPart := goodIn_r _ [41, 24, 25, 26, 5, 27, 28, 29, 30, 31, 32, 33, 34, 35, 36, 37, 42, 9, 43, 44, 45, 46, 47, 48, 49, 54, 55, 56, 57, 58, 59, 60, 61, 62, 63, 64, 65] (by decide +kernel) (by decide +kernel)
set_option maxRecDepth 20000 in
theorem gX6_ratio_X3_ratioPart : GoodIn wsX6_ratio (wsV RX6 93 RX3 yX3_ratioPart wsX3_ratioPart) := goodIn_app (goodIn_of _ (by decide +kernel)) ggX6_ratio_X3_ratioPart
theorem dX6_ratio_0 : decode cX6_ratio 0 = .ok (.aload_n 0, 1) := by decide +kernel
theorem dX6_ratio_1 : decode cX6_ratio 1 = .ok (.getfield 10, 3) := by decide +kernel
theorem dX6_ratio_4 : decode cX6_ratio 4 = .ok (.iload_n 1, 1) := by decide +kernel
theorem dX6_ratio_5 : decode cX6_ratio 5 = .ok (.invokevirtual 79, 3) := by decide +kernel
theorem dX6_ratio_8 : decode cX6_ratio 8 = .ok (.ifCond .eq 27, 3) := by decide +kernel
theorem dX6_ratio_11 : decode cX6_ratio 11 = .ok (.iload_n 2, 1) := by decide +kernel
theorem dX6_ratio_12 : decode cX6_ratio 12 = .ok (.ifCond .eq 14, 3) := by decide +kernel
theorem dX6_ratio_15 : decode cX6_ratio 15 = .ok (.aload_n 0, 1) := by decide +kernel
theorem dX6_ratio_16 : decode cX6_ratio 16 = .ok (.getfield 10, 3) := by decide +kernel
theorem dX6_ratio_19 : decode cX6_ratio 19 = .ok (.iload_n 2, 1) := by decide +kernel
theorem dX6_ratio_20 : decode cX6_ratio 20 = .ok (.invokevirtual 83, 3) := by decide +kernel
theorem dX6_ratio_23 : decode cX6_ratio 23 = .ok (.ifCond .eq 12, 3) := by decide +kernel
theorem dX6_ratio_26 : decode cX6_ratio 26 = .ok (.iload_n 3, 1) := by decide +kernel
theorem dX6_ratio_27 : decode cX6_ratio 27 = .ok (.iconst 0, 1) := by decide +kernel
theorem dX6_ratio_28 : decode cX6_ratio 28 = .ok (.iconst 1, 1) := by decide +kernel
theorem dX6_ratio_29 : decode cX6_ratio 29 = .ok (.invokestatic 34, 3) := by decide +kernel
theorem dX6_ratio_32 : decode cX6_ratio 32 = .ok (.ifCond .ne 5, 3) := by decide +kernel
theorem dX6_ratio_35 : decode cX6_ratio 35 = .ok (.iconst (-1), 1) := by decide +kernel
theorem dX6_ratio_36 : decode cX6_ratio 36 = .ok (.ireturn, 1) := by decide +kernel
theorem dX6_ratio_37 : decode cX6_ratio 37 = .ok (.aload_n 0, 1) := by decide +kernel
theorem dX6_ratio_38 : decode cX6_ratio 38 = .ok (.getfield 10, 3) := by decide +kernel
theorem dX6_ratio_41 : decode cX6_ratio 41 = .ok (.iload_n 1, 1) := by decide +kernel
theorem dX6_ratio_42 : decode cX6_ratio 42 = .ok (.iload_n 2, 1) := by decide +kernel
theorem dX6_ratio_43 : decode cX6_ratio 43 = .ok (.ifCond .ne 14, 3) := by decide +kernel
theorem dX6_ratio_46 : decode cX6_ratio 46 = .ok (.aload_n 0, 1) := by decide +kernel
theorem dX6_ratio_47 : decode cX6_ratio 47 = .ok (.getfield 10, 3) := by decide +kernel
theorem dX6_ratio_50 : decode cX6_ratio 50 = .ok (.iload_n 1, 1) := by decide +kernel
theorem dX6_ratio_51 : decode cX6_ratio 51 = .ok (.invokevirtual 90, 3) := by decide +kernel
theorem dX6_ratio_54 : decode cX6_ratio 54 = .ok (.goto 4, 3) := by decide +kernel
theorem dX6_ratio_57 : decode cX6_ratio 57 = .ok (.iload_n 2, 1) := by decide +kernel
theorem dX6_ratio_58 : decode cX6_ratio 58 = .ok (.iload_n 3, 1) := by decide +kernel
theorem dX6_ratio_59 : decode cX6_ratio 59 = .ok (.invokevirtual 93, 3) := by decide +kernel
theorem dX6_ratio_62 : decode cX6_ratio 62 = .ok (.ireturn, 1) := by decide +kernel
set_option maxRecDepth 20000 in
theorem ggX6_sure_X3_surePlan : GoodIn wsX6_sure wsX3_surePlan := goodIn_r _ [6, 7, 8, 9, 10, 5, 11, 12, 13, 14, 15, 16, 17, 18, 19, 20, 21, 22, 23, 24, 25, 26, 27, 28, 29, 34, 35, 36, 37, 38, 39, 40, 41, 42, 43, 44, 45] (by decide +kernel) (by decide +kernel)
set_option maxRecDepth 20000 in
theorem gX6_sure_X3_surePlan : GoodIn wsX6_sure (wsV RX6 97 RX3 yX3_surePlan wsX3_surePlan) := goodIn_app (goodIn_of _ (by decide +kernel)) ggX6_sure_X3_surePlan
theorem dX6_sure_0 : decode cX6_sure 0 = .ok (.aload_n 0, 1) := by decide +kernel
theorem dX6_sure_1 : decode cX6_sure 1 = .ok (.getfield 10, 3) := by decide +kernel
theorem dX6_sure_4 : decode cX6_sure 4 = .ok (.invokevirtual 97, 3) := by decide +kernel
theorem dX6_sure_7 : decode cX6_sure 7 = .ok (.ireturn, 1) := by decide +kernel
set_option maxRecDepth 20000 in
theorem ggX6_share_X6_isWithin : GoodIn wsX6_share wsX6_isWithin := goodIn_r _ [6] (by decide +kernel) (by decide +kernel)
set_option maxRecDepth 20000 in
theorem gX6_share_X6_isWithin : GoodIn wsX6_share (va_wsS RX6 34 yX6_isWithin wsX6_isWithin) := goodIn_app (goodIn_of _ (by decide +kernel)) ggX6_share_X6_isWithin
set_option maxRecDepth 20000 in
theorem ggX6_share_X3_isPlan : GoodIn wsX6_share wsX3_isPlan := goodIn_r _ [11, 12, 4, 5, 6, 27, 28, 29] (by decide +kernel) (by decide +kernel)
set_option maxRecDepth 20000 in
theorem gX6_share_X3_isPlan : GoodIn wsX6_share (wsV RX6 79 RX3 yX3_isPlan wsX3_isPlan) := goodIn_app (goodIn_of _ (by decide +kernel)) ggX6_share_X3_isPlan
set_option maxRecDepth 20000 in
theorem ggX6_share_X3_isEnd : GoodIn wsX6_share wsX3_isEnd := goodIn_r _ [16, 12, 4, 5, 6, 27, 28, 29] (by decide +kernel) (by decide +kernel)
set_option maxRecDepth 20000 in
theorem gX6_share_X3_isEnd : GoodIn wsX6_share (wsV RX6 83 RX3 yX3_isEnd wsX3_isEnd) := goodIn_app (goodIn_of _ (by decide +kernel)) ggX6_share_X3_isEnd
set_option maxRecDepth 20000 in
theorem ggX6_share_X2_replace : GoodIn wsX6_share wsX2_replace := goodIn_r _ [20] (by decide +kernel) (by decide +kernel)
set_option maxRecDepth 20000 in
theorem gX6_share_X2_replace : GoodIn wsX6_share (va_wsS RX6 107 yX2_replace wsX2_replace) := goodIn_app (goodIn_of _ (by decide +kernel)) ggX6_share_X2_replace
theorem dX6_share_0 : decode cX6_share 0 = .ok (.iload_n 1, 1) := by decide +kernel
theorem dX6_share_1 : decode cX6_share 1 = .ok (.iconst 0, 1) := by decide +kernel
theorem dX6_share_2 : decode cX6_share 2 = .ok (.iconst 1, 1) := by decide +kernel
theorem dX6_share_3 : decode cX6_share 3 = .ok (.invokestatic 34, 3) := by decide +kernel
theorem dX6_share_6 : decode cX6_share 6 = .ok (.ifCond .eq 13, 3) := by decide +kernel
theorem dX6_share_9 : decode cX6_share 9 = .ok (.iload_n 3, 1) := by decide +kernel
theorem dX6_share_10 : decode cX6_share 10 = .ok (.iconst 0, 1) := by decide +kernel
theorem dX6_share_11 : decode cX6_share 11 = .ok (.bipush 9, 2) := by decide +kernel
theorem dX6_share_13 : decode cX6_share 13 = .ok (.invokestatic 34, 3) := by decide +kernel
theorem dX6_share_16 : decode cX6_share 16 = .ok (.ifCond .ne 5, 3) := by decide +kernel
theorem dX6_share_19 : decode cX6_share 19 = .ok (.iconst (-1), 1) := by decide +kernel
theorem dX6_share_20 : decode cX6_share 20 = .ok (.ireturn, 1) := by decide +kernel
theorem dX6_share_21 : decode cX6_share 21 = .ok (.iload_n 1, 1) := by decide +kernel
theorem dX6_share_22 : decode cX6_share 22 = .ok (.ifCond .ne 17, 3) := by decide +kernel
theorem dX6_share_25 : decode cX6_share 25 = .ok (.aload_n 0, 1) := by decide +kernel
theorem dX6_share_26 : decode cX6_share 26 = .ok (.getfield 10, 3) := by decide +kernel
theorem dX6_share_29 : decode cX6_share 29 = .ok (.iload_n 2, 1) := by decide +kernel
theorem dX6_share_30 : decode cX6_share 30 = .ok (.invokevirtual 79, 3) := by decide +kernel
theorem dX6_share_33 : decode cX6_share 33 = .ok (.ifCond .ne 19, 3) := by decide +kernel
theorem dX6_share_36 : decode cX6_share 36 = .ok (.goto 14, 3) := by decide +kernel
theorem dX6_share_39 : decode cX6_share 39 = .ok (.aload_n 0, 1) := by decide +kernel
theorem dX6_share_40 : decode cX6_share 40 = .ok (.getfield 10, 3) := by decide +kernel
theorem dX6_share_43 : decode cX6_share 43 = .ok (.iload_n 2, 1) := by decide +kernel
theorem dX6_share_44 : decode cX6_share 44 = .ok (.invokevirtual 83, 3) := by decide +kernel
theorem dX6_share_47 : decode cX6_share 47 = .ok (.ifCond .ne 5, 3) := by decide +kernel
theorem dX6_share_50 : decode cX6_share 50 = .ok (.iconst (-1), 1) := by decide +kernel
theorem dX6_share_51 : decode cX6_share 51 = .ok (.ireturn, 1) := by decide +kernel
theorem dX6_share_52 : decode cX6_share 52 = .ok (.iload_n 1, 1) := by decide +kernel
theorem dX6_share_53 : decode cX6_share 53 = .ok (.ifCond .ne 13, 3) := by decide +kernel
theorem dX6_share_56 : decode cX6_share 56 = .ok (.aload_n 0, 1) := by decide +kernel
theorem dX6_share_57 : decode cX6_share 57 = .ok (.getfield 19, 3) := by decide +kernel
theorem dX6_share_60 : decode cX6_share 60 = .ok (.getfield 100, 3) := by decide +kernel
theorem dX6_share_63 : decode cX6_share 63 = .ok (.goto 10, 3) := by decide +kernel
theorem dX6_share_66 : decode cX6_share 66 = .ok (.aload_n 0, 1) := by decide +kernel
theorem dX6_share_67 : decode cX6_share 67 = .ok (.getfield 19, 3) := by decide +kernel
theorem dX6_share_70 : decode cX6_share 70 = .ok (.getfield 104, 3) := by decide +kernel
theorem dX6_share_73 : decode cX6_share 73 = .ok (.iload_n 2, 1) := by decide +kernel
theorem dX6_share_74 : decode cX6_share 74 = .ok (.iload_n 3, 1) := by decide +kernel
theorem dX6_share_75 : decode cX6_share 75 = .ok (.invokestatic 107, 3) := by decide +kernel
theorem dX6_share_78 : decode cX6_share 78 = .ok (.ireturn, 1) := by decide +kernel
set_option maxRecDepth 20000 in
theorem ggX6_mean_X3_isEnd : GoodIn wsX6_mean wsX3_isEnd := goodIn_r _ [9, 10, 11, 12, 13, 53, 54, 55] (by decide +kernel) (by decide +kernel)
set_option maxRecDepth 20000 in
theorem gX6_mean_X3_isEnd : GoodIn wsX6_mean (wsV RX6 83 RX3 yX3_isEnd wsX3_isEnd) := goodIn_app (goodIn_of _ (by decide +kernel)) ggX6_mean_X3_isEnd
set_option maxRecDepth 20000 in
theorem ggX6_mean_X6_isWithin : GoodIn wsX6_mean wsX6_isWithin := goodIn_r _ [13] (by decide +kernel) (by decide +kernel)
set_option maxRecDepth 20000 in
theorem gX6_mean_X6_isWithin : GoodIn wsX6_mean (va_wsS RX6 34 yX6_isWithin wsX6_isWithin) := goodIn_app (goodIn_of _ (by decide +kernel)) ggX6_mean_X6_isWithin
set_option maxRecDepth 20000 in
theorem ggX6_mean_X2_total : GoodIn wsX6_mean wsX2_total := goodIn_r _ [18] (by decide +kernel) (by decide +kernel)
set_option maxRecDepth 20000 in
theorem gX6_mean_X2_total : GoodIn wsX6_mean (va_wsS RX6 113 yX2_total wsX2_total) := goodIn_app (goodIn_of _ (by decide +kernel)) ggX6_mean_X2_total
set_option maxRecDepth 20000 in
theorem ggX6_mean_X2_costsBy : GoodIn wsX6_mean wsX2_costsBy := goodIn_r _ [22, 23, 24, 25, 26, 8, 27, 28, 29, 53, 54, 55, 51, 52, 56, 57, 58, 59, 60, 61, 62, 63, 64] (by decide +kernel) (by decide +kernel)
set_option maxRecDepth 20000 in
theorem gX6_mean_X2_costsBy : GoodIn wsX6_mean (wsV RX6 119 RX2 yX2_costsBy wsX2_costsBy) := goodIn_app (goodIn_of _ (by decide +kernel)) ggX6_mean_X2_costsBy
set_option maxRecDepth 20000 in
theorem ggX6_mean_X3_knownBy : GoodIn wsX6_mean wsX3_knownBy := goodIn_r _ [33, 29, 28, 34, 35, 36, 37, 53, 54, 55, 56, 57, 58, 59, 60, 61, 62, 63, 64] (by decide +kernel) (by decide +kernel)
set_option maxRecDepth 20000 in
theorem gX6_mean_X3_knownBy : GoodIn wsX6_mean (wsV RX6 61 RX3 yX3_knownBy wsX3_knownBy) := goodIn_app (goodIn_of _ (by decide +kernel)) ggX6_mean_X3_knownBy
set_option maxRecDepth 20000 in
theorem ggX6_mean_X6_leastForm : GoodIn wsX6_mean wsX6_leastForm := goodIn_r _ [40, 41, 42, 12, 43, 44, 45, 46] (by decide +kernel) (by decide +kernel)
set_option maxRecDepth 20000 in
theorem gX6_mean_X6_leastForm : GoodIn wsX6_mean (va_wsS RX6 123 yX6_leastForm wsX6_leastForm) := goodIn_app (goodIn_of _ (by decide +kernel)) ggX6_mean_X6_leastForm
theorem dX6_mean_0 : decode cX6_mean 0 = .ok (.aload_n 0, 1) := by decide +kernel
theorem dX6_mean_1 : decode cX6_mean 1 = .ok (.getfield 10, 3) := by decide +kernel
theorem dX6_mean_4 : decode cX6_mean 4 = .ok (.iload_n 1, 1) := by decide +kernel
theorem dX6_mean_5 : decode cX6_mean 5 = .ok (.invokevirtual 83, 3) := by decide +kernel
theorem dX6_mean_8 : decode cX6_mean 8 = .ok (.ifCond .eq 12, 3) := by decide +kernel
theorem dX6_mean_11 : decode cX6_mean 11 = .ok (.iload_n 2, 1) := by decide +kernel
theorem dX6_mean_12 : decode cX6_mean 12 = .ok (.iconst 0, 1) := by decide +kernel
theorem dX6_mean_13 : decode cX6_mean 13 = .ok (.iconst 1, 1) := by decide +kernel
theorem dX6_mean_14 : decode cX6_mean 14 = .ok (.invokestatic 34, 3) := by decide +kernel
theorem dX6_mean_17 : decode cX6_mean 17 = .ok (.ifCond .ne 7, 3) := by decide +kernel
theorem dX6_mean_20 : decode cX6_mean 20 = .ok (.ldc2_w 111, 3) := by decide +kernel
theorem dX6_mean_23 : decode cX6_mean 23 = .ok (.lreturn, 1) := by decide +kernel
theorem dX6_mean_24 : decode cX6_mean 24 = .ok (.aload_n 0, 1) := by decide +kernel
theorem dX6_mean_25 : decode cX6_mean 25 = .ok (.getfield 19, 3) := by decide +kernel
theorem dX6_mean_28 : decode cX6_mean 28 = .ok (.getfield 100, 3) := by decide +kernel
theorem dX6_mean_31 : decode cX6_mean 31 = .ok (.invokestatic 113, 3) := by decide +kernel
theorem dX6_mean_34 : decode cX6_mean 34 = .ok (.istore_n 3, 1) := by decide +kernel
theorem dX6_mean_35 : decode cX6_mean 35 = .ok (.iload_n 3, 1) := by decide +kernel
theorem dX6_mean_36 : decode cX6_mean 36 = .ok (.ifCond .ne 7, 3) := by decide +kernel
theorem dX6_mean_39 : decode cX6_mean 39 = .ok (.ldc2_w 117, 3) := by decide +kernel
theorem dX6_mean_42 : decode cX6_mean 42 = .ok (.lreturn, 1) := by decide +kernel
theorem dX6_mean_43 : decode cX6_mean 43 = .ok (.aload_n 0, 1) := by decide +kernel
theorem dX6_mean_44 : decode cX6_mean 44 = .ok (.getfield 19, 3) := by decide +kernel
theorem dX6_mean_47 : decode cX6_mean 47 = .ok (.aload_n 0, 1) := by decide +kernel
theorem dX6_mean_48 : decode cX6_mean 48 = .ok (.getfield 10, 3) := by decide +kernel
theorem dX6_mean_51 : decode cX6_mean 51 = .ok (.iload_n 1, 1) := by decide +kernel
theorem dX6_mean_52 : decode cX6_mean 52 = .ok (.invokevirtual 119, 3) := by decide +kernel
theorem dX6_mean_55 : decode cX6_mean 55 = .ok (.aload_n 0, 1) := by decide +kernel
theorem dX6_mean_56 : decode cX6_mean 56 = .ok (.getfield 10, 3) := by decide +kernel
theorem dX6_mean_59 : decode cX6_mean 59 = .ok (.iload_n 1, 1) := by decide +kernel
theorem dX6_mean_60 : decode cX6_mean 60 = .ok (.invokevirtual 61, 3) := by decide +kernel
theorem dX6_mean_63 : decode cX6_mean 63 = .ok (.i2l, 1) := by decide +kernel
theorem dX6_mean_64 : decode cX6_mean 64 = .ok (.iload_n 3, 1) := by decide +kernel
theorem dX6_mean_65 : decode cX6_mean 65 = .ok (.i2l, 1) := by decide +kernel
theorem dX6_mean_66 : decode cX6_mean 66 = .ok (.lmul, 1) := by decide +kernel
theorem dX6_mean_67 : decode cX6_mean 67 = .ok (.iload_n 2, 1) := by decide +kernel
theorem dX6_mean_68 : decode cX6_mean 68 = .ok (.invokestatic 123, 3) := by decide +kernel
theorem dX6_mean_71 : decode cX6_mean 71 = .ok (.lreturn, 1) := by decide +kernel
set_option maxRecDepth 20000 in
theorem ggX6_bound_X6_isWithin : GoodIn wsX6_bound wsX6_isWithin := goodIn_r _ [6] (by decide +kernel) (by decide +kernel)
set_option maxRecDepth 20000 in
theorem gX6_bound_X6_isWithin : GoodIn wsX6_bound (va_wsS RX6 34 yX6_isWithin wsX6_isWithin) := goodIn_app (goodIn_of _ (by decide +kernel)) ggX6_bound_X6_isWithin
set_option maxRecDepth 20000 in
theorem ggX6_bound_X2_total : GoodIn wsX6_bound wsX2_total := goodIn_r _ [10] (by decide +kernel) (by decide +kernel)
set_option maxRecDepth 20000 in
theorem gX6_bound_X2_total : GoodIn wsX6_bound (va_wsS RX6 113 yX2_total wsX2_total) := goodIn_app (goodIn_of _ (by decide +kernel)) ggX6_bound_X2_total
set_option maxRecDepth 20000 in
theorem ggX6_bound_X2_upperBound : GoodIn wsX6_bound wsX2_upperBound := goodIn_r _ [14, 15, 16, 17, 18, 19, 20, 21, 22, 9, 23, 24, 25, 26, 27, 28, 29, 30, 31, 32, 33, 34, 35, 36, 37, 38, 39, 5, 40, 41, 42, 43, 63, 64, 65, 61, 62, 66, 67, 68, 69, 70, 71, 72, 73, 74] (by decide +kernel) (by decide +kernel)
set_option maxRecDepth 20000 in
theorem gX6_bound_X2_upperBound : GoodIn wsX6_bound (wsV RX6 127 RX2 yX2_upperBound wsX2_upperBound) := goodIn_app (goodIn_of _ (by decide +kernel)) ggX6_bound_X2_upperBound
set_option maxRecDepth 20000 in
theorem ggX6_bound_X2_lowerBound : GoodIn wsX6_bound wsX2_lowerBound := goodIn_r _ [47, 48, 49, 18, 50, 15, 51, 52, 53, 9, 54, 55, 56, 25, 26, 27, 28, 29, 30, 31, 32, 33, 34, 35, 36, 37, 38, 42, 5, 43, 63, 64, 65, 61, 62, 66, 67, 68, 69, 70, 71, 72, 73, 74] (by decide +kernel) (by decide +kernel)
set_option maxRecDepth 20000 in
theorem gX6_bound_X2_lowerBound : GoodIn wsX6_bound (wsV RX6 130 RX2 yX2_lowerBound wsX2_lowerBound) := goodIn_app (goodIn_of _ (by decide +kernel)) ggX6_bound_X2_lowerBound
theorem dX6_bound_0 : decode cX6_bound 0 = .ok (.iload_n 1, 1) := by decide +kernel
theorem dX6_bound_1 : decode cX6_bound 1 = .ok (.iconst 0, 1) := by decide +kernel
theorem dX6_bound_2 : decode cX6_bound 2 = .ok (.iconst 1, 1) := by decide +kernel
theorem dX6_bound_3 : decode cX6_bound 3 = .ok (.invokestatic 34, 3) := by decide +kernel
theorem dX6_bound_6 : decode cX6_bound 6 = .ok (.ifCond .ne 5, 3) := by decide +kernel
theorem dX6_bound_9 : decode cX6_bound 9 = .ok (.iconst (-1), 1) := by decide +kernel
theorem dX6_bound_10 : decode cX6_bound 10 = .ok (.ireturn, 1) := by decide +kernel
theorem dX6_bound_11 : decode cX6_bound 11 = .ok (.iload_n 1, 1) := by decide +kernel
theorem dX6_bound_12 : decode cX6_bound 12 = .ok (.ifCond .ne 13, 3) := by decide +kernel
theorem dX6_bound_15 : decode cX6_bound 15 = .ok (.aload_n 0, 1) := by decide +kernel
theorem dX6_bound_16 : decode cX6_bound 16 = .ok (.getfield 19, 3) := by decide +kernel
theorem dX6_bound_19 : decode cX6_bound 19 = .ok (.getfield 100, 3) := by decide +kernel
theorem dX6_bound_22 : decode cX6_bound 22 = .ok (.goto 10, 3) := by decide +kernel
theorem dX6_bound_25 : decode cX6_bound 25 = .ok (.aload_n 0, 1) := by decide +kernel
theorem dX6_bound_26 : decode cX6_bound 26 = .ok (.getfield 19, 3) := by decide +kernel
theorem dX6_bound_29 : decode cX6_bound 29 = .ok (.getfield 104, 3) := by decide +kernel
theorem dX6_bound_32 : decode cX6_bound 32 = .ok (.invokestatic 113, 3) := by decide +kernel
theorem dX6_bound_35 : decode cX6_bound 35 = .ok (.istore_n 2, 1) := by decide +kernel
theorem dX6_bound_36 : decode cX6_bound 36 = .ok (.iload_n 2, 1) := by decide +kernel
theorem dX6_bound_37 : decode cX6_bound 37 = .ok (.ifCond .ne 6, 3) := by decide +kernel
theorem dX6_bound_40 : decode cX6_bound 40 = .ok (.bipush (-2), 2) := by decide +kernel
theorem dX6_bound_42 : decode cX6_bound 42 = .ok (.ireturn, 1) := by decide +kernel
theorem dX6_bound_43 : decode cX6_bound 43 = .ok (.iload_n 1, 1) := by decide +kernel
theorem dX6_bound_44 : decode cX6_bound 44 = .ok (.ifCond .ne 18, 3) := by decide +kernel
theorem dX6_bound_47 : decode cX6_bound 47 = .ok (.aload_n 0, 1) := by decide +kernel
theorem dX6_bound_48 : decode cX6_bound 48 = .ok (.getfield 19, 3) := by decide +kernel
theorem dX6_bound_51 : decode cX6_bound 51 = .ok (.aload_n 0, 1) := by decide +kernel
theorem dX6_bound_52 : decode cX6_bound 52 = .ok (.getfield 10, 3) := by decide +kernel
theorem dX6_bound_55 : decode cX6_bound 55 = .ok (.iload_n 2, 1) := by decide +kernel
theorem dX6_bound_56 : decode cX6_bound 56 = .ok (.invokevirtual 127, 3) := by decide +kernel
theorem dX6_bound_59 : decode cX6_bound 59 = .ok (.goto 15, 3) := by decide +kernel
theorem dX6_bound_62 : decode cX6_bound 62 = .ok (.aload_n 0, 1) := by decide +kernel
theorem dX6_bound_63 : decode cX6_bound 63 = .ok (.getfield 19, 3) := by decide +kernel
theorem dX6_bound_66 : decode cX6_bound 66 = .ok (.aload_n 0, 1) := by decide +kernel
theorem dX6_bound_67 : decode cX6_bound 67 = .ok (.getfield 10, 3) := by decide +kernel
theorem dX6_bound_70 : decode cX6_bound 70 = .ok (.iload_n 2, 1) := by decide +kernel
theorem dX6_bound_71 : decode cX6_bound 71 = .ok (.invokevirtual 130, 3) := by decide +kernel
theorem dX6_bound_74 : decode cX6_bound 74 = .ok (.l2i, 1) := by decide +kernel
theorem dX6_bound_75 : decode cX6_bound 75 = .ok (.ireturn, 1) := by decide +kernel
set_option maxRecDepth 20000 in
theorem ggX6_guess_X3_isEnd : GoodIn wsX6_guess wsX3_isEnd := goodIn_r _ [6, 7, 8, 9, 10, 55, 56, 57] (by decide +kernel) (by decide +kernel)
set_option maxRecDepth 20000 in
theorem gX6_guess_X3_isEnd : GoodIn wsX6_guess (wsV RX6 83 RX3 yX3_isEnd wsX3_isEnd) := goodIn_app (goodIn_of _ (by decide +kernel)) ggX6_guess_X3_isEnd
set_option maxRecDepth 20000 in
theorem ggX6_guess_X6_isWithin : GoodIn wsX6_guess wsX6_isWithin := goodIn_r _ [10] (by decide +kernel) (by decide +kernel)
set_option maxRecDepth 20000 in
theorem gX6_guess_X6_isWithin : GoodIn wsX6_guess (va_wsS RX6 34 yX6_isWithin wsX6_isWithin) := goodIn_app (goodIn_of _ (by decide +kernel)) ggX6_guess_X6_isWithin
set_option maxRecDepth 20000 in
theorem ggX6_guess_X3_planByGuess : GoodIn wsX6_guess wsX3_planByGuess := goodIn_r _ [15, 16, 17, 7, 18, 19, 20, 21, 22, 23, 24, 5, 25, 26, 27, 28, 29, 30, 31, 32, 33, 34, 35, 36, 37, 38, 39, 40, 41, 42, 43, 44, 45, 46, 9, 47, 48, 49, 50, 55, 56, 57, 58, 59, 60, 61, 62, 63, 64, 65, 66] (by decide +kernel) (by decide +kernel)
set_option maxRecDepth 20000 in
theorem gX6_guess_X3_planByGuess : GoodIn wsX6_guess (wsV RX6 133 RX3 yX3_planByGuess wsX3_planByGuess) := goodIn_app (goodIn_of _ (by decide +kernel)) ggX6_guess_X3_planByGuess
theorem dX6_guess_0 : decode cX6_guess 0 = .ok (.aload_n 0, 1) := by decide +kernel
theorem dX6_guess_1 : decode cX6_guess 1 = .ok (.getfield 10, 3) := by decide +kernel
theorem dX6_guess_4 : decode cX6_guess 4 = .ok (.iload_n 1, 1) := by decide +kernel
theorem dX6_guess_5 : decode cX6_guess 5 = .ok (.invokevirtual 83, 3) := by decide +kernel
theorem dX6_guess_8 : decode cX6_guess 8 = .ok (.ifCond .eq 13, 3) := by decide +kernel
theorem dX6_guess_11 : decode cX6_guess 11 = .ok (.iload_n 2, 1) := by decide +kernel
theorem dX6_guess_12 : decode cX6_guess 12 = .ok (.iconst 1, 1) := by decide +kernel
theorem dX6_guess_13 : decode cX6_guess 13 = .ok (.bipush 9, 2) := by decide +kernel
theorem dX6_guess_15 : decode cX6_guess 15 = .ok (.invokestatic 34, 3) := by decide +kernel
theorem dX6_guess_18 : decode cX6_guess 18 = .ok (.ifCond .ne 5, 3) := by decide +kernel
theorem dX6_guess_21 : decode cX6_guess 21 = .ok (.iconst (-1), 1) := by decide +kernel
theorem dX6_guess_22 : decode cX6_guess 22 = .ok (.ireturn, 1) := by decide +kernel
theorem dX6_guess_23 : decode cX6_guess 23 = .ok (.aload_n 0, 1) := by decide +kernel
theorem dX6_guess_24 : decode cX6_guess 24 = .ok (.getfield 10, 3) := by decide +kernel
theorem dX6_guess_27 : decode cX6_guess 27 = .ok (.iload_n 1, 1) := by decide +kernel
theorem dX6_guess_28 : decode cX6_guess 28 = .ok (.iload_n 2, 1) := by decide +kernel
theorem dX6_guess_29 : decode cX6_guess 29 = .ok (.invokevirtual 133, 3) := by decide +kernel
theorem dX6_guess_32 : decode cX6_guess 32 = .ok (.ireturn, 1) := by decide +kernel
set_option maxRecDepth 20000 in
theorem ggX6_trust_X3_isEnd : GoodIn wsX6_trust wsX3_isEnd := goodIn_r _ [6, 7, 8, 9, 10, 65, 66, 67] (by decide +kernel) (by decide +kernel)
set_option maxRecDepth 20000 in
theorem gX6_trust_X3_isEnd : GoodIn wsX6_trust (wsV RX6 83 RX3 yX3_isEnd wsX3_isEnd) := goodIn_app (goodIn_of _ (by decide +kernel)) ggX6_trust_X3_isEnd
set_option maxRecDepth 20000 in
theorem ggX6_trust_X6_isWithin : GoodIn wsX6_trust wsX6_isWithin := goodIn_r _ [10] (by decide +kernel) (by decide +kernel)
set_option maxRecDepth 20000 in
theorem gX6_trust_X6_isWithin : GoodIn wsX6_trust (va_wsS RX6 34 yX6_isWithin wsX6_isWithin) := goodIn_app (goodIn_of _ (by decide +kernel)) ggX6_trust_X6_isWithin
set_option maxRecDepth 20000 in
theorem ggX6_trust_X3_planByGuess : GoodIn wsX6_trust wsX3_planByGuess := goodIn_r _ [15, 16, 17, 7, 18, 19, 20, 21, 22, 23, 24, 5, 25, 26, 27, 28, 29, 30, 31, 32, 33, 34, 35, 36, 37, 38, 39, 40, 41, 42, 43, 44, 45, 46, 9, 47, 48, 49, 50, 65, 66, 67, 68, 69, 70, 71, 72, 73, 74, 75, 76] (by decide +kernel) (by decide +kernel)
set_option maxRecDepth 20000 in
theorem gX6_trust_X3_planByGuess : GoodIn wsX6_trust (wsV RX6 133 RX3 yX3_planByGuess wsX3_planByGuess) := goodIn_app (goodIn_of _ (by decide +kernel)) ggX6_trust_X3_planByGuess
set_option maxRecDepth 20000 in
theorem ggX6_trust_X3_worstEnd : GoodIn wsX6_trust wsX3_worstEnd := goodIn_r _ [29, 7, 30, 31, 32, 5, 33, 34, 35, 36, 37, 16, 38, 39, 40, 41, 42, 43, 44, 20, 45, 65, 66, 67, 68, 69, 70, 71, 72, 73, 74, 75, 76] (by decide +kernel) (by decide +kernel)
set_option maxRecDepth 20000 in
theorem gX6_trust_X3_worstEnd : GoodIn wsX6_trust (wsV RX6 90 RX3 yX3_worstEnd wsX3_worstEnd) := goodIn_app (goodIn_of _ (by decide +kernel)) ggX6_trust_X3_worstEnd
set_option maxRecDepth 20000 in
theorem ggX6_trust_X3_ratioPart : GoodIn wsX6_trust wsX3_ratioPart := goodIn_r _ [55, 34, 35, 36, 5, 37, 16, 38, 39, 40, 41, 42, 43, 44, 20, 45, 56, 9, 57, 58, 59, 60, 48, 49, 50, 65, 66, 67, 68, 69, 70, 71, 72, 73, 74, 75, 76] (by decide +kernel) (by decide +kernel)
set_option maxRecDepth 20000 in
theorem gX6_trust_X3_ratioPart : GoodIn wsX6_trust (wsV RX6 93 RX3 yX3_ratioPart wsX3_ratioPart) := goodIn_app (goodIn_of _ (by decide +kernel)) ggX6_trust_X3_ratioPart
theorem dX6_trust_0 : decode cX6_trust 0 = .ok (.aload_n 0, 1) := by decide +kernel
theorem dX6_trust_1 : decode cX6_trust 1 = .ok (.getfield 10, 3) := by decide +kernel
theorem dX6_trust_4 : decode cX6_trust 4 = .ok (.iload_n 1, 1) := by decide +kernel
theorem dX6_trust_5 : decode cX6_trust 5 = .ok (.invokevirtual 83, 3) := by decide +kernel
theorem dX6_trust_8 : decode cX6_trust 8 = .ok (.ifCond .eq 13, 3) := by decide +kernel
theorem dX6_trust_11 : decode cX6_trust 11 = .ok (.iload_n 2, 1) := by decide +kernel
theorem dX6_trust_12 : decode cX6_trust 12 = .ok (.iconst 1, 1) := by decide +kernel
theorem dX6_trust_13 : decode cX6_trust 13 = .ok (.bipush 9, 2) := by decide +kernel
theorem dX6_trust_15 : decode cX6_trust 15 = .ok (.invokestatic 34, 3) := by decide +kernel
theorem dX6_trust_18 : decode cX6_trust 18 = .ok (.ifCond .ne 5, 3) := by decide +kernel
theorem dX6_trust_21 : decode cX6_trust 21 = .ok (.iconst (-1), 1) := by decide +kernel
theorem dX6_trust_22 : decode cX6_trust 22 = .ok (.ireturn, 1) := by decide +kernel
theorem dX6_trust_23 : decode cX6_trust 23 = .ok (.iload_n 3, 1) := by decide +kernel
theorem dX6_trust_24 : decode cX6_trust 24 = .ok (.iconst 0, 1) := by decide +kernel
theorem dX6_trust_25 : decode cX6_trust 25 = .ok (.iconst 1, 1) := by decide +kernel
theorem dX6_trust_26 : decode cX6_trust 26 = .ok (.invokestatic 34, 3) := by decide +kernel
theorem dX6_trust_29 : decode cX6_trust 29 = .ok (.ifCond .eq 13, 3) := by decide +kernel
theorem dX6_trust_32 : decode cX6_trust 32 = .ok (.iload 4, 2) := by decide +kernel
theorem dX6_trust_34 : decode cX6_trust 34 = .ok (.iconst 0, 1) := by decide +kernel
theorem dX6_trust_35 : decode cX6_trust 35 = .ok (.iconst 1, 1) := by decide +kernel
theorem dX6_trust_36 : decode cX6_trust 36 = .ok (.invokestatic 34, 3) := by decide +kernel
theorem dX6_trust_39 : decode cX6_trust 39 = .ok (.ifCond .ne 5, 3) := by decide +kernel
theorem dX6_trust_42 : decode cX6_trust 42 = .ok (.iconst (-1), 1) := by decide +kernel
theorem dX6_trust_43 : decode cX6_trust 43 = .ok (.ireturn, 1) := by decide +kernel
theorem dX6_trust_44 : decode cX6_trust 44 = .ok (.aload_n 0, 1) := by decide +kernel
theorem dX6_trust_45 : decode cX6_trust 45 = .ok (.getfield 10, 3) := by decide +kernel
theorem dX6_trust_48 : decode cX6_trust 48 = .ok (.iload_n 1, 1) := by decide +kernel
theorem dX6_trust_49 : decode cX6_trust 49 = .ok (.iload_n 2, 1) := by decide +kernel
theorem dX6_trust_50 : decode cX6_trust 50 = .ok (.invokevirtual 133, 3) := by decide +kernel
theorem dX6_trust_53 : decode cX6_trust 53 = .ok (.istore 5, 2) := by decide +kernel
theorem dX6_trust_55 : decode cX6_trust 55 = .ok (.aload_n 0, 1) := by decide +kernel
theorem dX6_trust_56 : decode cX6_trust 56 = .ok (.getfield 10, 3) := by decide +kernel
theorem dX6_trust_59 : decode cX6_trust 59 = .ok (.iload 5, 2) := by decide +kernel
theorem dX6_trust_61 : decode cX6_trust 61 = .ok (.iload_n 3, 1) := by decide +kernel
