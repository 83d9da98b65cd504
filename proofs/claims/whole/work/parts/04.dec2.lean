theorem dX5_sale_72 : decode cX5_sale 72 = .ok (.getfield 12, 3) := by decide +kernel
theorem dX5_sale_75 : decode cX5_sale 75 = .ok (.iload_n 1, 1) := by decide +kernel
theorem dX5_sale_76 : decode cX5_sale 76 = .ok (.iload_n 2, 1) := by decide +kernel
theorem dX5_sale_77 : decode cX5_sale 77 = .ok (.iload_n 3, 1) := by decide +kernel
theorem dX5_sale_78 : decode cX5_sale 78 = .ok (.iload 4, 2) := by decide +kernel
theorem dX5_sale_80 : decode cX5_sale 80 = .ok (.iload 5, 2) := by decide +kernel
theorem dX5_sale_82 : decode cX5_sale 82 = .ok (.aload_n 0, 1) := by decide +kernel
theorem dX5_sale_83 : decode cX5_sale 83 = .ok (.getfield 48, 3) := by decide +kernel
theorem dX5_sale_86 : decode cX5_sale 86 = .ok (.invokevirtual 66, 3) := by decide +kernel
theorem dX5_sale_89 : decode cX5_sale 89 = .ok (.ireturn, 1) := by decide +kernel
set_option maxRecDepth 20000 in
theorem ggX5_strike_X3_has : GoodIn wsX5_strike wsX3_has := goodIn_r _ [8, 9, 18, 19, 20, 21, 22, 23, 24, 25] (by decide +kernel) (by decide +kernel)
set_option maxRecDepth 20000 in
theorem gX5_strike_X3_has : GoodIn wsX5_strike (wsV RX5 70 RX3 yX3_has wsX3_has) := goodIn_app (goodIn_of _ (by decide +kernel)) ggX5_strike_X3_has
theorem dX5_strike_0 : decode cX5_strike 0 = .ok (.aload_n 0, 1) := by decide +kernel
theorem dX5_strike_1 : decode cX5_strike 1 = .ok (.getfield 12, 3) := by decide +kernel
theorem dX5_strike_4 : decode cX5_strike 4 = .ok (.iload_n 1, 1) := by decide +kernel
theorem dX5_strike_5 : decode cX5_strike 5 = .ok (.invokevirtual 70, 3) := by decide +kernel
theorem dX5_strike_8 : decode cX5_strike 8 = .ok (.ifCond .ne 6, 3) := by decide +kernel
theorem dX5_strike_11 : decode cX5_strike 11 = .ok (.bipush (-2), 2) := by decide +kernel
theorem dX5_strike_13 : decode cX5_strike 13 = .ok (.ireturn, 1) := by decide +kernel
theorem dX5_strike_14 : decode cX5_strike 14 = .ok (.aload_n 0, 1) := by decide +kernel
theorem dX5_strike_15 : decode cX5_strike 15 = .ok (.getfield 12, 3) := by decide +kernel
theorem dX5_strike_18 : decode cX5_strike 18 = .ok (.getfield 73, 3) := by decide +kernel
theorem dX5_strike_21 : decode cX5_strike 21 = .ok (.iload_n 1, 1) := by decide +kernel
theorem dX5_strike_22 : decode cX5_strike 22 = .ok (.iaload, 1) := by decide +kernel
theorem dX5_strike_23 : decode cX5_strike 23 = .ok (.iconst (-1), 1) := by decide +kernel
theorem dX5_strike_24 : decode cX5_strike 24 = .ok (.if_icmp .eq 6, 3) := by decide +kernel
theorem dX5_strike_27 : decode cX5_strike 27 = .ok (.bipush (-3), 2) := by decide +kernel
theorem dX5_strike_29 : decode cX5_strike 29 = .ok (.ireturn, 1) := by decide +kernel
theorem dX5_strike_30 : decode cX5_strike 30 = .ok (.aload_n 0, 1) := by decide +kernel
theorem dX5_strike_31 : decode cX5_strike 31 = .ok (.getfield 12, 3) := by decide +kernel
theorem dX5_strike_34 : decode cX5_strike 34 = .ok (.getfield 73, 3) := by decide +kernel
theorem dX5_strike_37 : decode cX5_strike 37 = .ok (.iload_n 1, 1) := by decide +kernel
theorem dX5_strike_38 : decode cX5_strike 38 = .ok (.aload_n 0, 1) := by decide +kernel
theorem dX5_strike_39 : decode cX5_strike 39 = .ok (.getfield 48, 3) := by decide +kernel
theorem dX5_strike_42 : decode cX5_strike 42 = .ok (.iastore, 1) := by decide +kernel
theorem dX5_strike_43 : decode cX5_strike 43 = .ok (.iconst 1, 1) := by decide +kernel
theorem dX5_strike_44 : decode cX5_strike 44 = .ok (.ireturn, 1) := by decide +kernel
set_option maxRecDepth 20000 in
theorem ggX5_sold_X3_has : GoodIn wsX5_sold wsX3_has := goodIn_r _ [13, 14, 23, 24, 25, 26, 27, 28, 29, 30] (by decide +kernel) (by decide +kernel)
set_option maxRecDepth 20000 in
theorem gX5_sold_X3_has : GoodIn wsX5_sold (wsV RX5 70 RX3 yX3_has wsX3_has) := goodIn_app (goodIn_of _ (by decide +kernel)) ggX5_sold_X3_has
theorem dX5_sold_0 : decode cX5_sold 0 = .ok (.aload_n 0, 1) := by decide +kernel
theorem dX5_sold_1 : decode cX5_sold 1 = .ok (.getfield 12, 3) := by decide +kernel
theorem dX5_sold_4 : decode cX5_sold 4 = .ok (.iload_n 1, 1) := by decide +kernel
theorem dX5_sold_5 : decode cX5_sold 5 = .ok (.invokevirtual 70, 3) := by decide +kernel
theorem dX5_sold_8 : decode cX5_sold 8 = .ok (.ifCond .ne 6, 3) := by decide +kernel
theorem dX5_sold_11 : decode cX5_sold 11 = .ok (.bipush (-2), 2) := by decide +kernel
theorem dX5_sold_13 : decode cX5_sold 13 = .ok (.ireturn, 1) := by decide +kernel
theorem dX5_sold_14 : decode cX5_sold 14 = .ok (.iload_n 2, 1) := by decide +kernel
theorem dX5_sold_15 : decode cX5_sold 15 = .ok (.tableswitch 111 0 6 #[41, 51, 61, 71, 81, 91, 101], 41) := by decide +kernel
theorem dX5_sold_56 : decode cX5_sold 56 = .ok (.aload_n 0, 1) := by decide +kernel
theorem dX5_sold_57 : decode cX5_sold 57 = .ok (.getfield 12, 3) := by decide +kernel
theorem dX5_sold_60 : decode cX5_sold 60 = .ok (.getfield 77, 3) := by decide +kernel
theorem dX5_sold_63 : decode cX5_sold 63 = .ok (.iload_n 1, 1) := by decide +kernel
theorem dX5_sold_64 : decode cX5_sold 64 = .ok (.iaload, 1) := by decide +kernel
theorem dX5_sold_65 : decode cX5_sold 65 = .ok (.ireturn, 1) := by decide +kernel
theorem dX5_sold_66 : decode cX5_sold 66 = .ok (.aload_n 0, 1) := by decide +kernel
theorem dX5_sold_67 : decode cX5_sold 67 = .ok (.getfield 12, 3) := by decide +kernel
theorem dX5_sold_70 : decode cX5_sold 70 = .ok (.getfield 80, 3) := by decide +kernel
theorem dX5_sold_73 : decode cX5_sold 73 = .ok (.iload_n 1, 1) := by decide +kernel
theorem dX5_sold_74 : decode cX5_sold 74 = .ok (.iaload, 1) := by decide +kernel
theorem dX5_sold_75 : decode cX5_sold 75 = .ok (.ireturn, 1) := by decide +kernel
theorem dX5_sold_76 : decode cX5_sold 76 = .ok (.aload_n 0, 1) := by decide +kernel
theorem dX5_sold_77 : decode cX5_sold 77 = .ok (.getfield 12, 3) := by decide +kernel
theorem dX5_sold_80 : decode cX5_sold 80 = .ok (.getfield 83, 3) := by decide +kernel
theorem dX5_sold_83 : decode cX5_sold 83 = .ok (.iload_n 1, 1) := by decide +kernel
theorem dX5_sold_84 : decode cX5_sold 84 = .ok (.iaload, 1) := by decide +kernel
theorem dX5_sold_85 : decode cX5_sold 85 = .ok (.ireturn, 1) := by decide +kernel
theorem dX5_sold_86 : decode cX5_sold 86 = .ok (.aload_n 0, 1) := by decide +kernel
theorem dX5_sold_87 : decode cX5_sold 87 = .ok (.getfield 12, 3) := by decide +kernel
theorem dX5_sold_90 : decode cX5_sold 90 = .ok (.getfield 86, 3) := by decide +kernel
theorem dX5_sold_93 : decode cX5_sold 93 = .ok (.iload_n 1, 1) := by decide +kernel
theorem dX5_sold_94 : decode cX5_sold 94 = .ok (.iaload, 1) := by decide +kernel
theorem dX5_sold_95 : decode cX5_sold 95 = .ok (.ireturn, 1) := by decide +kernel
theorem dX5_sold_96 : decode cX5_sold 96 = .ok (.aload_n 0, 1) := by decide +kernel
theorem dX5_sold_97 : decode cX5_sold 97 = .ok (.getfield 12, 3) := by decide +kernel
theorem dX5_sold_100 : decode cX5_sold 100 = .ok (.getfield 89, 3) := by decide +kernel
theorem dX5_sold_103 : decode cX5_sold 103 = .ok (.iload_n 1, 1) := by decide +kernel
theorem dX5_sold_104 : decode cX5_sold 104 = .ok (.iaload, 1) := by decide +kernel
theorem dX5_sold_105 : decode cX5_sold 105 = .ok (.ireturn, 1) := by decide +kernel
theorem dX5_sold_106 : decode cX5_sold 106 = .ok (.aload_n 0, 1) := by decide +kernel
theorem dX5_sold_107 : decode cX5_sold 107 = .ok (.getfield 12, 3) := by decide +kernel
theorem dX5_sold_110 : decode cX5_sold 110 = .ok (.getfield 92, 3) := by decide +kernel
theorem dX5_sold_113 : decode cX5_sold 113 = .ok (.iload_n 1, 1) := by decide +kernel
theorem dX5_sold_114 : decode cX5_sold 114 = .ok (.iaload, 1) := by decide +kernel
theorem dX5_sold_115 : decode cX5_sold 115 = .ok (.ireturn, 1) := by decide +kernel
theorem dX5_sold_116 : decode cX5_sold 116 = .ok (.aload_n 0, 1) := by decide +kernel
theorem dX5_sold_117 : decode cX5_sold 117 = .ok (.getfield 12, 3) := by decide +kernel
theorem dX5_sold_120 : decode cX5_sold 120 = .ok (.getfield 73, 3) := by decide +kernel
theorem dX5_sold_123 : decode cX5_sold 123 = .ok (.iload_n 1, 1) := by decide +kernel
theorem dX5_sold_124 : decode cX5_sold 124 = .ok (.iaload, 1) := by decide +kernel
theorem dX5_sold_125 : decode cX5_sold 125 = .ok (.ireturn, 1) := by decide +kernel
theorem dX5_sold_126 : decode cX5_sold 126 = .ok (.bipush (-2), 2) := by decide +kernel
theorem dX5_sold_128 : decode cX5_sold 128 = .ok (.ireturn, 1) := by decide +kernel
set_option maxRecDepth 20000 in
theorem ggX5_weekly_X5_isNoGrain : GoodIn wsX5_weekly wsX5_isNoGrain := goodIn_r _ [5, 6, 7, 4, 8] (by decide +kernel) (by decide +kernel)
set_option maxRecDepth 20000 in
theorem gX5_weekly_X5_isNoGrain : GoodIn wsX5_weekly (va_wsS RX5 59 yX5_isNoGrain wsX5_isNoGrain) := goodIn_app (goodIn_of _ (by decide +kernel)) ggX5_weekly_X5_isNoGrain
set_option maxRecDepth 20000 in
theorem ggX5_weekly_X5_isOutside : GoodIn wsX5_weekly wsX5_isOutside := goodIn_r _ [8] (by decide +kernel) (by decide +kernel)
set_option maxRecDepth 20000 in
theorem gX5_weekly_X5_isOutside : GoodIn wsX5_weekly (va_wsS RX5 44 yX5_isOutside wsX5_isOutside) := goodIn_app (goodIn_of _ (by decide +kernel)) ggX5_weekly_X5_isOutside
set_option maxRecDepth 20000 in
theorem ggX5_weekly_X3_weeklyKnown : GoodIn wsX5_weekly wsX3_weeklyKnown := goodIn_r _ [13, 14, 15, 16, 17, 18, 19, 20, 21, 12, 22, 23, 24, 33, 34, 35, 36, 37, 38, 39, 40] (by decide +kernel) (by decide +kernel)
set_option maxRecDepth 20000 in
theorem gX5_weekly_X3_weeklyKnown : GoodIn wsX5_weekly (wsV RX5 95 RX3 yX3_weeklyKnown wsX3_weeklyKnown) := goodIn_app (goodIn_of _ (by decide +kernel)) ggX5_weekly_X3_weeklyKnown
theorem dX5_weekly_0 : decode cX5_weekly 0 = .ok (.iload_n 1, 1) := by decide +kernel
theorem dX5_weekly_1 : decode cX5_weekly 1 = .ok (.invokestatic 59, 3) := by decide +kernel
theorem dX5_weekly_4 : decode cX5_weekly 4 = .ok (.ifCond .ne 25, 3) := by decide +kernel
theorem dX5_weekly_7 : decode cX5_weekly 7 = .ok (.iload_n 2, 1) := by decide +kernel
theorem dX5_weekly_8 : decode cX5_weekly 8 = .ok (.iconst 0, 1) := by decide +kernel
theorem dX5_weekly_9 : decode cX5_weekly 9 = .ok (.sipush 200, 3) := by decide +kernel
theorem dX5_weekly_12 : decode cX5_weekly 12 = .ok (.invokestatic 44, 3) := by decide +kernel
theorem dX5_weekly_15 : decode cX5_weekly 15 = .ok (.ifCond .ne 14, 3) := by decide +kernel
theorem dX5_weekly_18 : decode cX5_weekly 18 = .ok (.iload_n 3, 1) := by decide +kernel
theorem dX5_weekly_19 : decode cX5_weekly 19 = .ok (.iconst 0, 1) := by decide +kernel
theorem dX5_weekly_20 : decode cX5_weekly 20 = .ok (.sipush 200, 3) := by decide +kernel
theorem dX5_weekly_23 : decode cX5_weekly 23 = .ok (.invokestatic 44, 3) := by decide +kernel
theorem dX5_weekly_26 : decode cX5_weekly 26 = .ok (.ifCond .eq 6, 3) := by decide +kernel
theorem dX5_weekly_29 : decode cX5_weekly 29 = .ok (.bipush (-2), 2) := by decide +kernel
theorem dX5_weekly_31 : decode cX5_weekly 31 = .ok (.ireturn, 1) := by decide +kernel
theorem dX5_weekly_32 : decode cX5_weekly 32 = .ok (.aload_n 0, 1) := by decide +kernel
theorem dX5_weekly_33 : decode cX5_weekly 33 = .ok (.getfield 12, 3) := by decide +kernel
theorem dX5_weekly_36 : decode cX5_weekly 36 = .ok (.iload_n 1, 1) := by decide +kernel
theorem dX5_weekly_37 : decode cX5_weekly 37 = .ok (.iload_n 2, 1) := by decide +kernel
theorem dX5_weekly_38 : decode cX5_weekly 38 = .ok (.iload_n 3, 1) := by decide +kernel
theorem dX5_weekly_39 : decode cX5_weekly 39 = .ok (.iconst (-1), 1) := by decide +kernel
theorem dX5_weekly_40 : decode cX5_weekly 40 = .ok (.invokevirtual 95, 3) := by decide +kernel
theorem dX5_weekly_43 : decode cX5_weekly 43 = .ok (.ireturn, 1) := by decide +kernel
set_option maxRecDepth 20000 in
theorem ggX5_average_X5_isNoGrain : GoodIn wsX5_average wsX5_isNoGrain := goodIn_r _ [5, 6, 7, 4, 8] (by decide +kernel) (by decide +kernel)
set_option maxRecDepth 20000 in
theorem gX5_average_X5_isNoGrain : GoodIn wsX5_average (va_wsS RX5 59 yX5_isNoGrain wsX5_isNoGrain) := goodIn_app (goodIn_of _ (by decide +kernel)) ggX5_average_X5_isNoGrain
set_option maxRecDepth 20000 in
theorem ggX5_average_X5_isOutside : GoodIn wsX5_average wsX5_isOutside := goodIn_r _ [8] (by decide +kernel) (by decide +kernel)
set_option maxRecDepth 20000 in
theorem gX5_average_X5_isOutside : GoodIn wsX5_average (va_wsS RX5 44 yX5_isOutside wsX5_isOutside) := goodIn_app (goodIn_of _ (by decide +kernel)) ggX5_average_X5_isOutside
set_option maxRecDepth 20000 in
theorem ggX5_average_X3_averageKnown : GoodIn wsX5_average wsX3_averageKnown := goodIn_r _ [13, 14, 15, 16, 12, 17, 18, 19, 20, 21, 22, 23, 24, 25, 26, 27, 28, 37, 38, 39, 40, 41, 42, 43, 44] (by decide +kernel) (by decide +kernel)
set_option maxRecDepth 20000 in
theorem gX5_average_X3_averageKnown : GoodIn wsX5_average (wsV RX5 99 RX3 yX3_averageKnown wsX3_averageKnown) := goodIn_app (goodIn_of _ (by decide +kernel)) ggX5_average_X3_averageKnown
theorem dX5_average_0 : decode cX5_average 0 = .ok (.iload_n 1, 1) := by decide +kernel
theorem dX5_average_1 : decode cX5_average 1 = .ok (.invokestatic 59, 3) := by decide +kernel
theorem dX5_average_4 : decode cX5_average 4 = .ok (.ifCond .ne 14, 3) := by decide +kernel
theorem dX5_average_7 : decode cX5_average 7 = .ok (.iload_n 2, 1) := by decide +kernel
theorem dX5_average_8 : decode cX5_average 8 = .ok (.iconst 0, 1) := by decide +kernel
theorem dX5_average_9 : decode cX5_average 9 = .ok (.sipush 220, 3) := by decide +kernel
theorem dX5_average_12 : decode cX5_average 12 = .ok (.invokestatic 44, 3) := by decide +kernel
theorem dX5_average_15 : decode cX5_average 15 = .ok (.ifCond .eq 6, 3) := by decide +kernel
theorem dX5_average_18 : decode cX5_average 18 = .ok (.bipush (-2), 2) := by decide +kernel
theorem dX5_average_20 : decode cX5_average 20 = .ok (.ireturn, 1) := by decide +kernel
theorem dX5_average_21 : decode cX5_average 21 = .ok (.aload_n 0, 1) := by decide +kernel
theorem dX5_average_22 : decode cX5_average 22 = .ok (.getfield 12, 3) := by decide +kernel
theorem dX5_average_25 : decode cX5_average 25 = .ok (.iload_n 1, 1) := by decide +kernel
theorem dX5_average_26 : decode cX5_average 26 = .ok (.iload_n 2, 1) := by decide +kernel
theorem dX5_average_27 : decode cX5_average 27 = .ok (.iconst (-1), 1) := by decide +kernel
theorem dX5_average_28 : decode cX5_average 28 = .ok (.invokevirtual 99, 3) := by decide +kernel
theorem dX5_average_31 : decode cX5_average 31 = .ok (.ireturn, 1) := by decide +kernel
set_option maxRecDepth 20000 in
theorem ggX5_towns_X5_isOutside : GoodIn wsX5_towns wsX5_isOutside := goodIn_r _ [5] (by decide +kernel) (by decide +kernel)
set_option maxRecDepth 20000 in
theorem gX5_towns_X5_isOutside : GoodIn wsX5_towns (va_wsS RX5 44 yX5_isOutside wsX5_isOutside) := goodIn_app (goodIn_of _ (by decide +kernel)) ggX5_towns_X5_isOutside
set_option maxRecDepth 20000 in
theorem ggX5_towns_X3_townsKnown : GoodIn wsX5_towns wsX3_townsKnown := goodIn_r _ [10, 11, 12, 13, 14, 15, 16, 9, 17, 18, 19, 20, 21, 22, 23, 24, 25, 26, 35, 36, 37, 38, 39, 40, 41, 42] (by decide +kernel) (by decide +kernel)
set_option maxRecDepth 20000 in
theorem gX5_towns_X3_townsKnown : GoodIn wsX5_towns (wsV RX5 103 RX3 yX3_townsKnown wsX3_townsKnown) := goodIn_app (goodIn_of _ (by decide +kernel)) ggX5_towns_X3_townsKnown
theorem dX5_towns_0 : decode cX5_towns 0 = .ok (.iload_n 1, 1) := by decide +kernel
theorem dX5_towns_1 : decode cX5_towns 1 = .ok (.iconst 0, 1) := by decide +kernel
theorem dX5_towns_2 : decode cX5_towns 2 = .ok (.sipush 200, 3) := by decide +kernel
theorem dX5_towns_5 : decode cX5_towns 5 = .ok (.invokestatic 44, 3) := by decide +kernel
theorem dX5_towns_8 : decode cX5_towns 8 = .ok (.ifCond .ne 14, 3) := by decide +kernel
theorem dX5_towns_11 : decode cX5_towns 11 = .ok (.iload_n 2, 1) := by decide +kernel
theorem dX5_towns_12 : decode cX5_towns 12 = .ok (.iconst 0, 1) := by decide +kernel
theorem dX5_towns_13 : decode cX5_towns 13 = .ok (.sipush 200, 3) := by decide +kernel
theorem dX5_towns_16 : decode cX5_towns 16 = .ok (.invokestatic 44, 3) := by decide +kernel
theorem dX5_towns_19 : decode cX5_towns 19 = .ok (.ifCond .eq 6, 3) := by decide +kernel
theorem dX5_towns_22 : decode cX5_towns 22 = .ok (.bipush (-2), 2) := by decide +kernel
theorem dX5_towns_24 : decode cX5_towns 24 = .ok (.ireturn, 1) := by decide +kernel
theorem dX5_towns_25 : decode cX5_towns 25 = .ok (.aload_n 0, 1) := by decide +kernel
theorem dX5_towns_26 : decode cX5_towns 26 = .ok (.getfield 12, 3) := by decide +kernel
theorem dX5_towns_29 : decode cX5_towns 29 = .ok (.iload_n 1, 1) := by decide +kernel
theorem dX5_towns_30 : decode cX5_towns 30 = .ok (.iload_n 2, 1) := by decide +kernel
theorem dX5_towns_31 : decode cX5_towns 31 = .ok (.invokevirtual 103, 3) := by decide +kernel
theorem dX5_towns_34 : decode cX5_towns 34 = .ok (.ireturn, 1) := by decide +kernel
set_option maxRecDepth 20000 in
theorem ggX5_scale_X5_isNoGrain : GoodIn wsX5_scale wsX5_isNoGrain := goodIn_r _ [7, 8, 9, 6, 10] (by decide +kernel) (by decide +kernel)
set_option maxRecDepth 20000 in
theorem gX5_scale_X5_isNoGrain : GoodIn wsX5_scale (va_wsS RX5 59 yX5_isNoGrain wsX5_isNoGrain) := goodIn_app (goodIn_of _ (by decide +kernel)) ggX5_scale_X5_isNoGrain
set_option maxRecDepth 20000 in
theorem ggX5_scale_X5_isOutside : GoodIn wsX5_scale wsX5_isOutside := goodIn_r _ [10] (by decide +kernel) (by decide +kernel)
set_option maxRecDepth 20000 in
theorem gX5_scale_X5_isOutside : GoodIn wsX5_scale (va_wsS RX5 44 yX5_isOutside wsX5_isOutside) := goodIn_app (goodIn_of _ (by decide +kernel)) ggX5_scale_X5_isOutside
set_option maxRecDepth 20000 in
theorem ggX5_scale_X4_add : GoodIn wsX5_scale wsX4_add := goodIn_r _ [15, 16, 17, 18, 19, 28, 29, 30, 31, 32, 33, 34] (by decide +kernel) (by decide +kernel)
set_option maxRecDepth 20000 in
theorem gX5_scale_X4_add : GoodIn wsX5_scale (wsV RX5 108 RX4 yX4_add wsX4_add) := goodIn_app (goodIn_of _ (by decide +kernel)) ggX5_scale_X4_add
theorem dX5_scale_0 : decode cX5_scale 0 = .ok (.iload_n 1, 1) := by decide +kernel
theorem dX5_scale_1 : decode cX5_scale 1 = .ok (.invokestatic 59, 3) := by decide +kernel
theorem dX5_scale_4 : decode cX5_scale 4 = .ok (.ifCond .ne 17, 3) := by decide +kernel
theorem dX5_scale_7 : decode cX5_scale 7 = .ok (.iload_n 2, 1) := by decide +kernel
theorem dX5_scale_8 : decode cX5_scale 8 = .ok (.aload_n 0, 1) := by decide +kernel
theorem dX5_scale_9 : decode cX5_scale 9 = .ok (.getfield 48, 3) := by decide +kernel
theorem dX5_scale_12 : decode cX5_scale 12 = .ok (.sipush 200, 3) := by decide +kernel
theorem dX5_scale_15 : decode cX5_scale 15 = .ok (.invokestatic 44, 3) := by decide +kernel
theorem dX5_scale_18 : decode cX5_scale 18 = .ok (.ifCond .eq 6, 3) := by decide +kernel
theorem dX5_scale_21 : decode cX5_scale 21 = .ok (.bipush (-2), 2) := by decide +kernel
theorem dX5_scale_23 : decode cX5_scale 23 = .ok (.ireturn, 1) := by decide +kernel
theorem dX5_scale_24 : decode cX5_scale 24 = .ok (.aload_n 0, 1) := by decide +kernel
theorem dX5_scale_25 : decode cX5_scale 25 = .ok (.getfield 19, 3) := by decide +kernel
theorem dX5_scale_28 : decode cX5_scale 28 = .ok (.getfield 107, 3) := by decide +kernel
theorem dX5_scale_31 : decode cX5_scale 31 = .ok (.bipush 8, 2) := by decide +kernel
theorem dX5_scale_33 : decode cX5_scale 33 = .ok (.if_icmp .lt 6, 3) := by decide +kernel
theorem dX5_scale_36 : decode cX5_scale 36 = .ok (.bipush (-4), 2) := by decide +kernel
theorem dX5_scale_38 : decode cX5_scale 38 = .ok (.ireturn, 1) := by decide +kernel
theorem dX5_scale_39 : decode cX5_scale 39 = .ok (.aload_n 0, 1) := by decide +kernel
theorem dX5_scale_40 : decode cX5_scale 40 = .ok (.getfield 19, 3) := by decide +kernel
theorem dX5_scale_43 : decode cX5_scale 43 = .ok (.iload_n 1, 1) := by decide +kernel
theorem dX5_scale_44 : decode cX5_scale 44 = .ok (.iload_n 2, 1) := by decide +kernel
theorem dX5_scale_45 : decode cX5_scale 45 = .ok (.aload_n 0, 1) := by decide +kernel
theorem dX5_scale_46 : decode cX5_scale 46 = .ok (.getfield 48, 3) := by decide +kernel
theorem dX5_scale_49 : decode cX5_scale 49 = .ok (.invokevirtual 108, 3) := by decide +kernel
theorem dX5_scale_52 : decode cX5_scale 52 = .ok (.ireturn, 1) := by decide +kernel
set_option maxRecDepth 20000 in
theorem ggX5_step_X4_has : GoodIn wsX5_step wsX4_has := goodIn_r _ [8, 9, 39, 40, 41, 42, 43, 44, 45] (by decide +kernel) (by decide +kernel)
set_option maxRecDepth 20000 in
theorem gX5_step_X4_has : GoodIn wsX5_step (wsV RX5 110 RX4 yX4_has wsX4_has) := goodIn_app (goodIn_of _ (by decide +kernel)) ggX5_step_X4_has
set_option maxRecDepth 20000 in
theorem ggX5_step_X5_isOutside : GoodIn wsX5_step wsX5_isOutside := goodIn_r _ [13] (by decide +kernel) (by decide +kernel)
set_option maxRecDepth 20000 in
theorem gX5_step_X5_isOutside : GoodIn wsX5_step (va_wsS RX5 44 yX5_isOutside wsX5_isOutside) := goodIn_app (goodIn_of _ (by decide +kernel)) ggX5_step_X5_isOutside
set_option maxRecDepth 20000 in
theorem ggX5_step_X4_lastPrice : GoodIn wsX5_step wsX4_lastPrice := goodIn_r _ [17, 18, 19, 39, 40, 41, 42, 43, 44, 45] (by decide +kernel) (by decide +kernel)
set_option maxRecDepth 20000 in
theorem gX5_step_X4_lastPrice : GoodIn wsX5_step (wsV RX5 111 RX4 yX4_lastPrice wsX4_lastPrice) := goodIn_app (goodIn_of _ (by decide +kernel)) ggX5_step_X4_lastPrice
set_option maxRecDepth 20000 in
theorem ggX5_step_X4_isSettled : GoodIn wsX5_step wsX4_isSettled := goodIn_r _ [23, 24, 25, 39, 40, 41, 42, 43, 44, 45] (by decide +kernel) (by decide +kernel)
set_option maxRecDepth 20000 in
theorem gX5_step_X4_isSettled : GoodIn wsX5_step (wsV RX5 115 RX4 yX4_isSettled wsX4_isSettled) := goodIn_app (goodIn_of _ (by decide +kernel)) ggX5_step_X4_isSettled
set_option maxRecDepth 20000 in
theorem ggX5_step_X4_addStep : GoodIn wsX5_step wsX4_addStep := goodIn_r _ [29, 19, 18, 30, 39, 40, 41, 42, 43, 44, 45] (by decide +kernel) (by decide +kernel)
set_option maxRecDepth 20000 in
theorem gX5_step_X4_addStep : GoodIn wsX5_step (wsV RX5 122 RX4 yX4_addStep wsX4_addStep) := goodIn_app (goodIn_of _ (by decide +kernel)) ggX5_step_X4_addStep
theorem dX5_step_0 : decode cX5_step 0 = .ok (.aload_n 0, 1) := by decide +kernel
theorem dX5_step_1 : decode cX5_step 1 = .ok (.getfield 19, 3) := by decide +kernel
theorem dX5_step_4 : decode cX5_step 4 = .ok (.iload_n 1, 1) := by decide +kernel
theorem dX5_step_5 : decode cX5_step 5 = .ok (.invokevirtual 110, 3) := by decide +kernel
theorem dX5_step_8 : decode cX5_step 8 = .ok (.ifCond .eq 37, 3) := by decide +kernel
theorem dX5_step_11 : decode cX5_step 11 = .ok (.iload_n 2, 1) := by decide +kernel
theorem dX5_step_12 : decode cX5_step 12 = .ok (.iconst 0, 1) := by decide +kernel
theorem dX5_step_13 : decode cX5_step 13 = .ok (.sipush 2000, 3) := by decide +kernel
theorem dX5_step_16 : decode cX5_step 16 = .ok (.invokestatic 44, 3) := by decide +kernel
theorem dX5_step_19 : decode cX5_step 19 = .ok (.ifCond .ne 26, 3) := by decide +kernel
theorem dX5_step_22 : decode cX5_step 22 = .ok (.iload_n 3, 1) := by decide +kernel
theorem dX5_step_23 : decode cX5_step 23 = .ok (.iconst 0, 1) := by decide +kernel
theorem dX5_step_24 : decode cX5_step 24 = .ok (.sipush 2000, 3) := by decide +kernel
theorem dX5_step_27 : decode cX5_step 27 = .ok (.invokestatic 44, 3) := by decide +kernel
theorem dX5_step_30 : decode cX5_step 30 = .ok (.ifCond .ne 15, 3) := by decide +kernel
theorem dX5_step_33 : decode cX5_step 33 = .ok (.iload_n 2, 1) := by decide +kernel
theorem dX5_step_34 : decode cX5_step 34 = .ok (.aload_n 0, 1) := by decide +kernel
theorem dX5_step_35 : decode cX5_step 35 = .ok (.getfield 19, 3) := by decide +kernel
theorem dX5_step_38 : decode cX5_step 38 = .ok (.iload_n 1, 1) := by decide +kernel
theorem dX5_step_39 : decode cX5_step 39 = .ok (.invokevirtual 111, 3) := by decide +kernel
theorem dX5_step_42 : decode cX5_step 42 = .ok (.if_icmp .gt 6, 3) := by decide +kernel
theorem dX5_step_45 : decode cX5_step 45 = .ok (.bipush (-2), 2) := by decide +kernel
theorem dX5_step_47 : decode cX5_step 47 = .ok (.ireturn, 1) := by decide +kernel
theorem dX5_step_48 : decode cX5_step 48 = .ok (.aload_n 0, 1) := by decide +kernel
theorem dX5_step_49 : decode cX5_step 49 = .ok (.getfield 19, 3) := by decide +kernel
theorem dX5_step_52 : decode cX5_step 52 = .ok (.iload_n 1, 1) := by decide +kernel
theorem dX5_step_53 : decode cX5_step 53 = .ok (.aload_n 0, 1) := by decide +kernel
theorem dX5_step_54 : decode cX5_step 54 = .ok (.getfield 48, 3) := by decide +kernel
theorem dX5_step_57 : decode cX5_step 57 = .ok (.invokevirtual 115, 3) := by decide +kernel
theorem dX5_step_60 : decode cX5_step 60 = .ok (.ifCond .eq 6, 3) := by decide +kernel
theorem dX5_step_63 : decode cX5_step 63 = .ok (.bipush (-3), 2) := by decide +kernel
theorem dX5_step_65 : decode cX5_step 65 = .ok (.ireturn, 1) := by decide +kernel
theorem dX5_step_66 : decode cX5_step 66 = .ok (.aload_n 0, 1) := by decide +kernel
theorem dX5_step_67 : decode cX5_step 67 = .ok (.getfield 19, 3) := by decide +kernel
theorem dX5_step_70 : decode cX5_step 70 = .ok (.getfield 119, 3) := by decide +kernel
theorem dX5_step_73 : decode cX5_step 73 = .ok (.iload_n 1, 1) := by decide +kernel
theorem dX5_step_74 : decode cX5_step 74 = .ok (.iaload, 1) := by decide +kernel
theorem dX5_step_75 : decode cX5_step 75 = .ok (.bipush 8, 2) := by decide +kernel
theorem dX5_step_77 : decode cX5_step 77 = .ok (.if_icmp .lt 6, 3) := by decide +kernel
theorem dX5_step_80 : decode cX5_step 80 = .ok (.bipush (-4), 2) := by decide +kernel
theorem dX5_step_82 : decode cX5_step 82 = .ok (.ireturn, 1) := by decide +kernel
theorem dX5_step_83 : decode cX5_step 83 = .ok (.aload_n 0, 1) := by decide +kernel
theorem dX5_step_84 : decode cX5_step 84 = .ok (.getfield 19, 3) := by decide +kernel
theorem dX5_step_87 : decode cX5_step 87 = .ok (.iload_n 1, 1) := by decide +kernel
theorem dX5_step_88 : decode cX5_step 88 = .ok (.iload_n 2, 1) := by decide +kernel
theorem dX5_step_89 : decode cX5_step 89 = .ok (.iload_n 3, 1) := by decide +kernel
theorem dX5_step_90 : decode cX5_step 90 = .ok (.invokevirtual 122, 3) := by decide +kernel
theorem dX5_step_93 : decode cX5_step 93 = .ok (.ireturn, 1) := by decide +kernel
set_option maxRecDepth 20000 in
theorem ggX5_hang_X5_isNoGrain : GoodIn wsX5_hang wsX5_isNoGrain := goodIn_r _ [5, 6, 7, 4, 8] (by decide +kernel) (by decide +kernel)
set_option maxRecDepth 20000 in
theorem gX5_hang_X5_isNoGrain : GoodIn wsX5_hang (va_wsS RX5 59 yX5_isNoGrain wsX5_isNoGrain) := goodIn_app (goodIn_of _ (by decide +kernel)) ggX5_hang_X5_isNoGrain
set_option maxRecDepth 20000 in
theorem ggX5_hang_X5_isOutside : GoodIn wsX5_hang wsX5_isOutside := goodIn_r _ [8] (by decide +kernel) (by decide +kernel)
set_option maxRecDepth 20000 in
theorem gX5_hang_X5_isOutside : GoodIn wsX5_hang (va_wsS RX5 44 yX5_isOutside wsX5_isOutside) := goodIn_app (goodIn_of _ (by decide +kernel)) ggX5_hang_X5_isOutside
set_option maxRecDepth 20000 in
theorem ggX5_hang_X1_hangs : GoodIn wsX5_hang wsX1_hangs := goodIn_r _ [13, 14, 34, 35, 36] (by decide +kernel) (by decide +kernel)
set_option maxRecDepth 20000 in
theorem gX5_hang_X1_hangs : GoodIn wsX5_hang (wsV RX5 125 RX1 yX1_hangs wsX1_hangs) := goodIn_app (goodIn_of _ (by decide +kernel)) ggX5_hang_X1_hangs
set_option maxRecDepth 20000 in
theorem ggX5_hang_X1_bearsOne : GoodIn wsX5_hang wsX1_bearsOne := goodIn_r _ [18, 19, 20, 10, 11, 12, 13, 14, 34, 35, 36] (by decide +kernel) (by decide +kernel)
set_option maxRecDepth 20000 in
theorem gX5_hang_X1_bearsOne : GoodIn wsX5_hang (wsV RX5 128 RX1 yX1_bearsOne wsX1_bearsOne) := goodIn_app (goodIn_of _ (by decide +kernel)) ggX5_hang_X1_bearsOne
set_option maxRecDepth 20000 in
theorem ggX5_hang_X1_put : GoodIn wsX5_hang wsX1_put := goodIn_r _ [24, 19, 25, 14, 34, 35, 36] (by decide +kernel) (by decide +kernel)
set_option maxRecDepth 20000 in
theorem gX5_hang_X1_put : GoodIn wsX5_hang (wsV RX5 131 RX1 yX1_put wsX1_put) := goodIn_app (goodIn_of _ (by decide +kernel)) ggX5_hang_X1_put
theorem dX5_hang_0 : decode cX5_hang 0 = .ok (.iload_n 1, 1) := by decide +kernel
theorem dX5_hang_1 : decode cX5_hang 1 = .ok (.invokestatic 59, 3) := by decide +kernel
theorem dX5_hang_4 : decode cX5_hang 4 = .ok (.ifCond .ne 36, 3) := by decide +kernel
theorem dX5_hang_7 : decode cX5_hang 7 = .ok (.iload_n 2, 1) := by decide +kernel
theorem dX5_hang_8 : decode cX5_hang 8 = .ok (.invokestatic 59, 3) := by decide +kernel
theorem dX5_hang_11 : decode cX5_hang 11 = .ok (.ifCond .ne 29, 3) := by decide +kernel
theorem dX5_hang_14 : decode cX5_hang 14 = .ok (.iload_n 1, 1) := by decide +kernel
theorem dX5_hang_15 : decode cX5_hang 15 = .ok (.iload_n 2, 1) := by decide +kernel
theorem dX5_hang_16 : decode cX5_hang 16 = .ok (.if_icmp .eq 24, 3) := by decide +kernel
theorem dX5_hang_19 : decode cX5_hang 19 = .ok (.iload_n 3, 1) := by decide +kernel
theorem dX5_hang_20 : decode cX5_hang 20 = .ok (.iconst 1, 1) := by decide +kernel
theorem dX5_hang_21 : decode cX5_hang 21 = .ok (.bipush 100, 2) := by decide +kernel
theorem dX5_hang_23 : decode cX5_hang 23 = .ok (.invokestatic 44, 3) := by decide +kernel
theorem dX5_hang_26 : decode cX5_hang 26 = .ok (.ifCond .ne 14, 3) := by decide +kernel
theorem dX5_hang_29 : decode cX5_hang 29 = .ok (.iload 4, 2) := by decide +kernel
theorem dX5_hang_31 : decode cX5_hang 31 = .ok (.iconst 1, 1) := by decide +kernel
theorem dX5_hang_32 : decode cX5_hang 32 = .ok (.bipush 100, 2) := by decide +kernel
theorem dX5_hang_34 : decode cX5_hang 34 = .ok (.invokestatic 44, 3) := by decide +kernel
theorem dX5_hang_37 : decode cX5_hang 37 = .ok (.ifCond .eq 6, 3) := by decide +kernel
theorem dX5_hang_40 : decode cX5_hang 40 = .ok (.bipush (-2), 2) := by decide +kernel
theorem dX5_hang_42 : decode cX5_hang 42 = .ok (.ireturn, 1) := by decide +kernel
theorem dX5_hang_43 : decode cX5_hang 43 = .ok (.aload_n 0, 1) := by decide +kernel
theorem dX5_hang_44 : decode cX5_hang 44 = .ok (.getfield 26, 3) := by decide +kernel
theorem dX5_hang_47 : decode cX5_hang 47 = .ok (.iload_n 2, 1) := by decide +kernel
theorem dX5_hang_48 : decode cX5_hang 48 = .ok (.invokevirtual 125, 3) := by decide +kernel
theorem dX5_hang_51 : decode cX5_hang 51 = .ok (.ifCond .ne 14, 3) := by decide +kernel
theorem dX5_hang_54 : decode cX5_hang 54 = .ok (.aload_n 0, 1) := by decide +kernel
theorem dX5_hang_55 : decode cX5_hang 55 = .ok (.getfield 26, 3) := by decide +kernel
theorem dX5_hang_58 : decode cX5_hang 58 = .ok (.iload_n 1, 1) := by decide +kernel
theorem dX5_hang_59 : decode cX5_hang 59 = .ok (.invokevirtual 128, 3) := by decide +kernel
theorem dX5_hang_62 : decode cX5_hang 62 = .ok (.ifCond .eq 6, 3) := by decide +kernel
theorem dX5_hang_65 : decode cX5_hang 65 = .ok (.bipush (-3), 2) := by decide +kernel
theorem dX5_hang_67 : decode cX5_hang 67 = .ok (.ireturn, 1) := by decide +kernel
theorem dX5_hang_68 : decode cX5_hang 68 = .ok (.aload_n 0, 1) := by decide +kernel
theorem dX5_hang_69 : decode cX5_hang 69 = .ok (.getfield 26, 3) := by decide +kernel
theorem dX5_hang_72 : decode cX5_hang 72 = .ok (.iload_n 1, 1) := by decide +kernel
theorem dX5_hang_73 : decode cX5_hang 73 = .ok (.iload_n 2, 1) := by decide +kernel
theorem dX5_hang_74 : decode cX5_hang 74 = .ok (.iload_n 3, 1) := by decide +kernel
theorem dX5_hang_75 : decode cX5_hang 75 = .ok (.iload 4, 2) := by decide +kernel
theorem dX5_hang_77 : decode cX5_hang 77 = .ok (.invokevirtual 131, 3) := by decide +kernel
theorem dX5_hang_80 : decode cX5_hang 80 = .ok (.iconst 1, 1) := by decide +kernel
theorem dX5_hang_81 : decode cX5_hang 81 = .ok (.ireturn, 1) := by decide +kernel
set_option maxRecDepth 20000 in
theorem ggX5_unhang_X5_isNoGrain : GoodIn wsX5_unhang wsX5_isNoGrain := goodIn_r _ [5, 6, 7, 4, 8] (by decide +kernel) (by decide +kernel)
set_option maxRecDepth 20000 in
theorem gX5_unhang_X5_isNoGrain : GoodIn wsX5_unhang (va_wsS RX5 59 yX5_isNoGrain wsX5_isNoGrain) := goodIn_app (goodIn_of _ (by decide +kernel)) ggX5_unhang_X5_isNoGrain
set_option maxRecDepth 20000 in
theorem ggX5_unhang_X1_hangs : GoodIn wsX5_unhang wsX1_hangs := goodIn_r _ [13, 14, 27, 28, 29] (by decide +kernel) (by decide +kernel)
set_option maxRecDepth 20000 in
theorem gX5_unhang_X1_hangs : GoodIn wsX5_unhang (wsV RX5 125 RX1 yX1_hangs wsX1_hangs) := goodIn_app (goodIn_of _ (by decide +kernel)) ggX5_unhang_X1_hangs
set_option maxRecDepth 20000 in
theorem ggX5_unhang_X1_take : GoodIn wsX5_unhang wsX1_take := goodIn_r _ [18, 14, 27, 28, 29] (by decide +kernel) (by decide +kernel)
set_option maxRecDepth 20000 in
theorem gX5_unhang_X1_take : GoodIn wsX5_unhang (wsV RX5 135 RX1 yX1_take wsX1_take) := goodIn_app (goodIn_of _ (by decide +kernel)) ggX5_unhang_X1_take
theorem dX5_unhang_0 : decode cX5_unhang 0 = .ok (.iload_n 1, 1) := by decide +kernel
theorem dX5_unhang_1 : decode cX5_unhang 1 = .ok (.invokestatic 59, 3) := by decide +kernel
theorem dX5_unhang_4 : decode cX5_unhang 4 = .ok (.ifCond .eq 6, 3) := by decide +kernel
theorem dX5_unhang_7 : decode cX5_unhang 7 = .ok (.bipush (-2), 2) := by decide +kernel
theorem dX5_unhang_9 : decode cX5_unhang 9 = .ok (.ireturn, 1) := by decide +kernel
theorem dX5_unhang_10 : decode cX5_unhang 10 = .ok (.aload_n 0, 1) := by decide +kernel
theorem dX5_unhang_11 : decode cX5_unhang 11 = .ok (.getfield 26, 3) := by decide +kernel
theorem dX5_unhang_14 : decode cX5_unhang 14 = .ok (.iload_n 1, 1) := by decide +kernel
theorem dX5_unhang_15 : decode cX5_unhang 15 = .ok (.invokevirtual 125, 3) := by decide +kernel
theorem dX5_unhang_18 : decode cX5_unhang 18 = .ok (.ifCond .ne 6, 3) := by decide +kernel
theorem dX5_unhang_21 : decode cX5_unhang 21 = .ok (.bipush (-3), 2) := by decide +kernel
theorem dX5_unhang_23 : decode cX5_unhang 23 = .ok (.ireturn, 1) := by decide +kernel
theorem dX5_unhang_24 : decode cX5_unhang 24 = .ok (.aload_n 0, 1) := by decide +kernel
theorem dX5_unhang_25 : decode cX5_unhang 25 = .ok (.getfield 26, 3) := by decide +kernel
theorem dX5_unhang_28 : decode cX5_unhang 28 = .ok (.iload_n 1, 1) := by decide +kernel
theorem dX5_unhang_29 : decode cX5_unhang 29 = .ok (.invokevirtual 135, 3) := by decide +kernel
theorem dX5_unhang_32 : decode cX5_unhang 32 = .ok (.iconst 1, 1) := by decide +kernel
theorem dX5_unhang_33 : decode cX5_unhang 33 = .ok (.ireturn, 1) := by decide +kernel
set_option maxRecDepth 20000 in
theorem ggX5_force_X5_isNoGrain : GoodIn wsX5_force wsX5_isNoGrain := goodIn_r _ [5, 6, 7, 4, 8] (by decide +kernel) (by decide +kernel)
set_option maxRecDepth 20000 in
theorem gX5_force_X5_isNoGrain : GoodIn wsX5_force (va_wsS RX5 59 yX5_isNoGrain wsX5_isNoGrain) := goodIn_app (goodIn_of _ (by decide +kernel)) ggX5_force_X5_isNoGrain
set_option maxRecDepth 20000 in
theorem ggX5_force_X5_isOutside : GoodIn wsX5_force wsX5_isOutside := goodIn_r _ [8] (by decide +kernel) (by decide +kernel)
set_option maxRecDepth 20000 in
theorem gX5_force_X5_isOutside : GoodIn wsX5_force (va_wsS RX5 44 yX5_isOutside wsX5_isOutside) := goodIn_app (goodIn_of _ (by decide +kernel)) ggX5_force_X5_isOutside
set_option maxRecDepth 20000 in
theorem ggX5_force_X4_inForce : GoodIn wsX5_force wsX4_inForce := goodIn_r _ [13, 14, 15, 16, 17, 26, 27, 28, 29, 30, 31, 32] (by decide +kernel) (by decide +kernel)
set_option maxRecDepth 20000 in
theorem gX5_force_X4_inForce : GoodIn wsX5_force (wsV RX5 138 RX4 yX4_inForce wsX4_inForce) := goodIn_app (goodIn_of _ (by decide +kernel)) ggX5_force_X4_inForce
theorem dX5_force_0 : decode cX5_force 0 = .ok (.iload_n 1, 1) := by decide +kernel
theorem dX5_force_1 : decode cX5_force 1 = .ok (.invokestatic 59, 3) := by decide +kernel
theorem dX5_force_4 : decode cX5_force 4 = .ok (.ifCond .ne 14, 3) := by decide +kernel
theorem dX5_force_7 : decode cX5_force 7 = .ok (.iload_n 2, 1) := by decide +kernel
theorem dX5_force_8 : decode cX5_force 8 = .ok (.iconst 0, 1) := by decide +kernel
theorem dX5_force_9 : decode cX5_force 9 = .ok (.sipush 220, 3) := by decide +kernel
theorem dX5_force_12 : decode cX5_force 12 = .ok (.invokestatic 44, 3) := by decide +kernel
theorem dX5_force_15 : decode cX5_force 15 = .ok (.ifCond .eq 6, 3) := by decide +kernel
theorem dX5_force_18 : decode cX5_force 18 = .ok (.bipush (-2), 2) := by decide +kernel
theorem dX5_force_20 : decode cX5_force 20 = .ok (.ireturn, 1) := by decide +kernel
theorem dX5_force_21 : decode cX5_force 21 = .ok (.aload_n 0, 1) := by decide +kernel
theorem dX5_force_22 : decode cX5_force 22 = .ok (.getfield 19, 3) := by decide +kernel
theorem dX5_force_25 : decode cX5_force 25 = .ok (.iload_n 1, 1) := by decide +kernel
theorem dX5_force_26 : decode cX5_force 26 = .ok (.iload_n 2, 1) := by decide +kernel
theorem dX5_force_27 : decode cX5_force 27 = .ok (.invokevirtual 138, 3) := by decide +kernel
theorem dX5_force_30 : decode cX5_force 30 = .ok (.ireturn, 1) := by decide +kernel
set_option maxRecDepth 20000 in
theorem ggX5_duty_X5_isNoGrain : GoodIn wsX5_duty wsX5_isNoGrain := goodIn_r _ [4, 5, 6, 3, 7] (by decide +kernel) (by decide +kernel)
set_option maxRecDepth 20000 in
theorem gX5_duty_X5_isNoGrain : GoodIn wsX5_duty (va_wsS RX5 59 yX5_isNoGrain wsX5_isNoGrain) := goodIn_app (goodIn_of _ (by decide +kernel)) ggX5_duty_X5_isNoGrain
set_option maxRecDepth 20000 in
theorem ggX5_duty_X5_isOutside : GoodIn wsX5_duty wsX5_isOutside := goodIn_r _ [7] (by decide +kernel) (by decide +kernel)
set_option maxRecDepth 20000 in
theorem gX5_duty_X5_isOutside : GoodIn wsX5_duty (va_wsS RX5 44 yX5_isOutside wsX5_isOutside) := goodIn_app (goodIn_of _ (by decide +kernel)) ggX5_duty_X5_isOutside
set_option maxRecDepth 20000 in
theorem ggX5_duty_X5_dutyAt : GoodIn wsX5_duty wsX5_dutyAt := goodIn_r _ [11, 12, 13, 14, 15, 16, 17, 18, 19, 20, 21, 22, 23, 24, 25, 26, 27, 28, 29, 30, 31, 32, 33, 34, 35, 36, 37, 38, 39, 40, 41, 42, 43, 44, 45, 46, 47, 48, 49, 50, 51, 52, 53, 54, 55, 56, 57, 58, 59, 60, 61, 62, 63, 64, 65, 66, 67, 68, 69, 70, 71, 72, 73, 74, 75, 76, 77, 78, 79, 80, 81, 82, 83, 84, 85, 86, 87, 88, 89, 90, 91, 92, 93, 94, 95, 96, 97, 98, 99] (by decide +kernel) (by decide +kernel)
set_option maxRecDepth 20000 in
theorem gX5_duty_X5_dutyAt : GoodIn wsX5_duty (wsV RX5 141 RX5 yX5_dutyAt wsX5_dutyAt) := goodIn_app (goodIn_of _ (by decide +kernel)) ggX5_duty_X5_dutyAt
theorem dX5_duty_0 : decode cX5_duty 0 = .ok (.iload_n 1, 1) := by decide +kernel
theorem dX5_duty_1 : decode cX5_duty 1 = .ok (.invokestatic 59, 3) := by decide +kernel
theorem dX5_duty_4 : decode cX5_duty 4 = .ok (.ifCond .ne 14, 3) := by decide +kernel
theorem dX5_duty_7 : decode cX5_duty 7 = .ok (.iload_n 2, 1) := by decide +kernel
theorem dX5_duty_8 : decode cX5_duty 8 = .ok (.iconst 0, 1) := by decide +kernel
theorem dX5_duty_9 : decode cX5_duty 9 = .ok (.sipush 220, 3) := by decide +kernel
theorem dX5_duty_12 : decode cX5_duty 12 = .ok (.invokestatic 44, 3) := by decide +kernel
theorem dX5_duty_15 : decode cX5_duty 15 = .ok (.ifCond .eq 6, 3) := by decide +kernel
theorem dX5_duty_18 : decode cX5_duty 18 = .ok (.bipush (-2), 2) := by decide +kernel
theorem dX5_duty_20 : decode cX5_duty 20 = .ok (.ireturn, 1) := by decide +kernel
theorem dX5_duty_21 : decode cX5_duty 21 = .ok (.aload_n 0, 1) := by decide +kernel
theorem dX5_duty_22 : decode cX5_duty 22 = .ok (.iload_n 1, 1) := by decide +kernel
theorem dX5_duty_23 : decode cX5_duty 23 = .ok (.iload_n 2, 1) := by decide +kernel
theorem dX5_duty_24 : decode cX5_duty 24 = .ok (.iconst (-1), 1) := by decide +kernel
theorem dX5_duty_25 : decode cX5_duty 25 = .ok (.iconst (-1), 1) := by decide +kernel
theorem dX5_duty_26 : decode cX5_duty 26 = .ok (.invokevirtual 141, 3) := by decide +kernel
theorem dX5_duty_29 : decode cX5_duty 29 = .ok (.ireturn, 1) := by decide +kernel
set_option maxRecDepth 20000 in
theorem ggX5_cargo_X5_isNoGrain : GoodIn wsX5_cargo wsX5_isNoGrain := goodIn_r _ [7, 8, 9, 6, 10] (by decide +kernel) (by decide +kernel)
set_option maxRecDepth 20000 in
theorem gX5_cargo_X5_isNoGrain : GoodIn wsX5_cargo (va_wsS RX5 59 yX5_isNoGrain wsX5_isNoGrain) := goodIn_app (goodIn_of _ (by decide +kernel)) ggX5_cargo_X5_isNoGrain
set_option maxRecDepth 20000 in
theorem ggX5_cargo_X5_isOutside : GoodIn wsX5_cargo wsX5_isOutside := goodIn_r _ [10] (by decide +kernel) (by decide +kernel)
set_option maxRecDepth 20000 in
theorem gX5_cargo_X5_isOutside : GoodIn wsX5_cargo (va_wsS RX5 44 yX5_isOutside wsX5_isOutside) := goodIn_app (goodIn_of _ (by decide +kernel)) ggX5_cargo_X5_isOutside
set_option maxRecDepth 20000 in
theorem ggX5_cargo_X0_add : GoodIn wsX5_cargo wsX0_add := goodIn_r _ [15, 16, 17, 18, 19, 28, 29, 30, 31, 32, 33, 34] (by decide +kernel) (by decide +kernel)
set_option maxRecDepth 20000 in
theorem gX5_cargo_X0_add : GoodIn wsX5_cargo (wsV RX5 145 RX0 yX0_add wsX0_add) := goodIn_app (goodIn_of _ (by decide +kernel)) ggX5_cargo_X0_add
theorem dX5_cargo_0 : decode cX5_cargo 0 = .ok (.iload_n 1, 1) := by decide +kernel
theorem dX5_cargo_1 : decode cX5_cargo 1 = .ok (.invokestatic 59, 3) := by decide +kernel
theorem dX5_cargo_4 : decode cX5_cargo 4 = .ok (.ifCond .ne 14, 3) := by decide +kernel
theorem dX5_cargo_7 : decode cX5_cargo 7 = .ok (.iload_n 2, 1) := by decide +kernel
theorem dX5_cargo_8 : decode cX5_cargo 8 = .ok (.iconst 1, 1) := by decide +kernel
theorem dX5_cargo_9 : decode cX5_cargo 9 = .ok (.sipush 10000, 3) := by decide +kernel
theorem dX5_cargo_12 : decode cX5_cargo 12 = .ok (.invokestatic 44, 3) := by decide +kernel
theorem dX5_cargo_15 : decode cX5_cargo 15 = .ok (.ifCond .eq 6, 3) := by decide +kernel
theorem dX5_cargo_18 : decode cX5_cargo 18 = .ok (.bipush (-2), 2) := by decide +kernel
theorem dX5_cargo_20 : decode cX5_cargo 20 = .ok (.ireturn, 1) := by decide +kernel
theorem dX5_cargo_21 : decode cX5_cargo 21 = .ok (.aload_n 0, 1) := by decide +kernel
theorem dX5_cargo_22 : decode cX5_cargo 22 = .ok (.getfield 33, 3) := by decide +kernel
theorem dX5_cargo_25 : decode cX5_cargo 25 = .ok (.getfield 144, 3) := by decide +kernel
theorem dX5_cargo_28 : decode cX5_cargo 28 = .ok (.bipush 20, 2) := by decide +kernel
theorem dX5_cargo_30 : decode cX5_cargo 30 = .ok (.if_icmp .lt 6, 3) := by decide +kernel
theorem dX5_cargo_33 : decode cX5_cargo 33 = .ok (.bipush (-4), 2) := by decide +kernel
theorem dX5_cargo_35 : decode cX5_cargo 35 = .ok (.ireturn, 1) := by decide +kernel
theorem dX5_cargo_36 : decode cX5_cargo 36 = .ok (.aload_n 0, 1) := by decide +kernel
theorem dX5_cargo_37 : decode cX5_cargo 37 = .ok (.getfield 33, 3) := by decide +kernel
theorem dX5_cargo_40 : decode cX5_cargo 40 = .ok (.iload_n 1, 1) := by decide +kernel
theorem dX5_cargo_41 : decode cX5_cargo 41 = .ok (.iload_n 2, 1) := by decide +kernel
theorem dX5_cargo_42 : decode cX5_cargo 42 = .ok (.aload_n 0, 1) := by decide +kernel
theorem dX5_cargo_43 : decode cX5_cargo 43 = .ok (.getfield 48, 3) := by decide +kernel
theorem dX5_cargo_46 : decode cX5_cargo 46 = .ok (.invokevirtual 145, 3) := by decide +kernel
theorem dX5_cargo_49 : decode cX5_cargo 49 = .ok (.ireturn, 1) := by decide +kernel
set_option maxRecDepth 20000 in
theorem ggX5_spoil_X5_isOutside : GoodIn wsX5_spoil wsX5_isOutside := goodIn_r _ [5] (by decide +kernel) (by decide +kernel)
set_option maxRecDepth 20000 in
theorem gX5_spoil_X5_isOutside : GoodIn wsX5_spoil (va_wsS RX5 44 yX5_isOutside wsX5_isOutside) := goodIn_app (goodIn_of _ (by decide +kernel)) ggX5_spoil_X5_isOutside
theorem dX5_spoil_0 : decode cX5_spoil 0 = .ok (.iload_n 1, 1) := by decide +kernel
theorem dX5_spoil_1 : decode cX5_spoil 1 = .ok (.iconst 0, 1) := by decide +kernel
theorem dX5_spoil_2 : decode cX5_spoil 2 = .ok (.bipush 100, 2) := by decide +kernel
theorem dX5_spoil_4 : decode cX5_spoil 4 = .ok (.invokestatic 44, 3) := by decide +kernel
theorem dX5_spoil_7 : decode cX5_spoil 7 = .ok (.ifCond .eq 6, 3) := by decide +kernel
theorem dX5_spoil_10 : decode cX5_spoil 10 = .ok (.bipush (-2), 2) := by decide +kernel
theorem dX5_spoil_12 : decode cX5_spoil 12 = .ok (.ireturn, 1) := by decide +kernel
theorem dX5_spoil_13 : decode cX5_spoil 13 = .ok (.aload_n 0, 1) := by decide +kernel
theorem dX5_spoil_14 : decode cX5_spoil 14 = .ok (.getfield 52, 3) := by decide +kernel
theorem dX5_spoil_17 : decode cX5_spoil 17 = .ok (.istore_n 2, 1) := by decide +kernel
theorem dX5_spoil_18 : decode cX5_spoil 18 = .ok (.aload_n 0, 1) := by decide +kernel
theorem dX5_spoil_19 : decode cX5_spoil 19 = .ok (.iload_n 1, 1) := by decide +kernel
theorem dX5_spoil_20 : decode cX5_spoil 20 = .ok (.putfield 52, 3) := by decide +kernel
theorem dX5_spoil_23 : decode cX5_spoil 23 = .ok (.iload_n 2, 1) := by decide +kernel
theorem dX5_spoil_24 : decode cX5_spoil 24 = .ok (.ireturn, 1) := by decide +kernel
set_option maxRecDepth 20000 in
theorem ggX5_letOut_X0_has : GoodIn wsX5_letOut wsX0_has := goodIn_r _ [16, 17, 105, 106, 107, 108, 109, 110, 111] (by decide +kernel) (by decide +kernel)
set_option maxRecDepth 20000 in
theorem gX5_letOut_X0_has : GoodIn wsX5_letOut (wsV RX5 146 RX0 yX0_has wsX0_has) := goodIn_app (goodIn_of _ (by decide +kernel)) ggX5_letOut_X0_has
set_option maxRecDepth 20000 in
theorem ggX5_letOut_X5_isOutside : GoodIn wsX5_letOut wsX5_isOutside := goodIn_r _ [21] (by decide +kernel) (by decide +kernel)
set_option maxRecDepth 20000 in
theorem gX5_letOut_X5_isOutside : GoodIn wsX5_letOut (va_wsS RX5 44 yX5_isOutside wsX5_isOutside) := goodIn_app (goodIn_of _ (by decide +kernel)) ggX5_letOut_X5_isOutside
set_option maxRecDepth 20000 in
theorem ggX5_letOut_X5_dutyAt : GoodIn wsX5_letOut wsX5_dutyAt := goodIn_r _ [25, 26, 27, 28, 29, 30, 31, 32, 33, 34, 35, 36, 37, 38, 39, 40, 41, 42, 43, 44, 45, 46, 47, 48, 49, 50, 51, 52, 53, 54, 55, 56, 57, 58, 59, 60, 61, 62, 63, 64, 65, 66, 67, 68, 69, 70, 71, 72, 73, 74, 75, 76, 77, 78, 79, 80, 81, 82, 83, 84, 85, 86, 87, 97, 98, 99, 100, 101, 102, 103, 104, 116, 117, 118, 119, 120, 121, 122, 123, 124, 125, 126, 127, 128, 129, 130, 131, 132, 133] (by decide +kernel) (by decide +kernel)
set_option maxRecDepth 20000 in
theorem gX5_letOut_X5_dutyAt : GoodIn wsX5_letOut (wsV RX5 141 RX5 yX5_dutyAt wsX5_dutyAt) := goodIn_app (goodIn_of _ (by decide +kernel)) ggX5_letOut_X5_dutyAt
set_option maxRecDepth 20000 in
theorem ggX5_letOut_X2_add : GoodIn wsX5_letOut wsX2_add := goodIn_r _ [92, 93, 94, 95, 96, 112, 113, 114, 115] (by decide +kernel) (by decide +kernel)
set_option maxRecDepth 20000 in
theorem gX5_letOut_X2_add : GoodIn wsX5_letOut (wsV RX5 161 RX2 yX2_add wsX2_add) := goodIn_app (goodIn_of _ (by decide +kernel)) ggX5_letOut_X2_add
theorem dX5_letOut_0 : decode cX5_letOut 0 = .ok (.aload_n 0, 1) := by decide +kernel
theorem dX5_letOut_1 : decode cX5_letOut 1 = .ok (.getfield 33, 3) := by decide +kernel
theorem dX5_letOut_4 : decode cX5_letOut 4 = .ok (.iload_n 1, 1) := by decide +kernel
theorem dX5_letOut_5 : decode cX5_letOut 5 = .ok (.invokevirtual 146, 3) := by decide +kernel
theorem dX5_letOut_8 : decode cX5_letOut 8 = .ok (.ifCond .eq 14, 3) := by decide +kernel
theorem dX5_letOut_11 : decode cX5_letOut 11 = .ok (.iload_n 2, 1) := by decide +kernel
theorem dX5_letOut_12 : decode cX5_letOut 12 = .ok (.iconst 1, 1) := by decide +kernel
theorem dX5_letOut_13 : decode cX5_letOut 13 = .ok (.sipush 10000, 3) := by decide +kernel
theorem dX5_letOut_16 : decode cX5_letOut 16 = .ok (.invokestatic 44, 3) := by decide +kernel
theorem dX5_letOut_19 : decode cX5_letOut 19 = .ok (.ifCond .eq 7, 3) := by decide +kernel
theorem dX5_letOut_22 : decode cX5_letOut 22 = .ok (.ldc2_w 147, 3) := by decide +kernel
theorem dX5_letOut_25 : decode cX5_letOut 25 = .ok (.lreturn, 1) := by decide +kernel
theorem dX5_letOut_26 : decode cX5_letOut 26 = .ok (.iload_n 2, 1) := by decide +kernel
theorem dX5_letOut_27 : decode cX5_letOut 27 = .ok (.aload_n 0, 1) := by decide +kernel
theorem dX5_letOut_28 : decode cX5_letOut 28 = .ok (.getfield 33, 3) := by decide +kernel
theorem dX5_letOut_31 : decode cX5_letOut 31 = .ok (.getfield 149, 3) := by decide +kernel
theorem dX5_letOut_34 : decode cX5_letOut 34 = .ok (.iload_n 1, 1) := by decide +kernel
theorem dX5_letOut_35 : decode cX5_letOut 35 = .ok (.iaload, 1) := by decide +kernel
theorem dX5_letOut_36 : decode cX5_letOut 36 = .ok (.if_icmp .le 7, 3) := by decide +kernel
theorem dX5_letOut_39 : decode cX5_letOut 39 = .ok (.ldc2_w 152, 3) := by decide +kernel
theorem dX5_letOut_42 : decode cX5_letOut 42 = .ok (.lreturn, 1) := by decide +kernel
theorem dX5_letOut_43 : decode cX5_letOut 43 = .ok (.aload_n 0, 1) := by decide +kernel
theorem dX5_letOut_44 : decode cX5_letOut 44 = .ok (.getfield 40, 3) := by decide +kernel
theorem dX5_letOut_47 : decode cX5_letOut 47 = .ok (.getfield 154, 3) := by decide +kernel
theorem dX5_letOut_50 : decode cX5_letOut 50 = .ok (.bipush 100, 2) := by decide +kernel
theorem dX5_letOut_52 : decode cX5_letOut 52 = .ok (.if_icmp .lt 7, 3) := by decide +kernel
theorem dX5_letOut_55 : decode cX5_letOut 55 = .ok (.ldc2_w 155, 3) := by decide +kernel
theorem dX5_letOut_58 : decode cX5_letOut 58 = .ok (.lreturn, 1) := by decide +kernel
theorem dX5_letOut_59 : decode cX5_letOut 59 = .ok (.aload_n 0, 1) := by decide +kernel
theorem dX5_letOut_60 : decode cX5_letOut 60 = .ok (.getfield 33, 3) := by decide +kernel
theorem dX5_letOut_63 : decode cX5_letOut 63 = .ok (.getfield 157, 3) := by decide +kernel
theorem dX5_letOut_66 : decode cX5_letOut 66 = .ok (.iload_n 1, 1) := by decide +kernel
theorem dX5_letOut_67 : decode cX5_letOut 67 = .ok (.iaload, 1) := by decide +kernel
theorem dX5_letOut_68 : decode cX5_letOut 68 = .ok (.istore_n 3, 1) := by decide +kernel
theorem dX5_letOut_69 : decode cX5_letOut 69 = .ok (.iload_n 2, 1) := by decide +kernel
theorem dX5_letOut_70 : decode cX5_letOut 70 = .ok (.i2l, 1) := by decide +kernel
theorem dX5_letOut_71 : decode cX5_letOut 71 = .ok (.aload_n 0, 1) := by decide +kernel
theorem dX5_letOut_72 : decode cX5_letOut 72 = .ok (.iload_n 3, 1) := by decide +kernel
theorem dX5_letOut_73 : decode cX5_letOut 73 = .ok (.aload_n 0, 1) := by decide +kernel
theorem dX5_letOut_74 : decode cX5_letOut 74 = .ok (.getfield 48, 3) := by decide +kernel
theorem dX5_letOut_77 : decode cX5_letOut 77 = .ok (.iconst (-1), 1) := by decide +kernel
theorem dX5_letOut_78 : decode cX5_letOut 78 = .ok (.iconst (-1), 1) := by decide +kernel
theorem dX5_letOut_79 : decode cX5_letOut 79 = .ok (.invokevirtual 141, 3) := by decide +kernel
theorem dX5_letOut_82 : decode cX5_letOut 82 = .ok (.i2l, 1) := by decide +kernel
theorem dX5_letOut_83 : decode cX5_letOut 83 = .ok (.lmul, 1) := by decide +kernel
theorem dX5_letOut_84 : decode cX5_letOut 84 = .ok (.lstore 4, 2) := by decide +kernel
theorem dX5_letOut_86 : decode cX5_letOut 86 = .ok (.aload_n 0, 1) := by decide +kernel
theorem dX5_letOut_87 : decode cX5_letOut 87 = .ok (.getfield 33, 3) := by decide +kernel
theorem dX5_letOut_90 : decode cX5_letOut 90 = .ok (.getfield 149, 3) := by decide +kernel
theorem dX5_letOut_93 : decode cX5_letOut 93 = .ok (.iload_n 1, 1) := by decide +kernel
theorem dX5_letOut_94 : decode cX5_letOut 94 = .ok (.dup2, 1) := by decide +kernel
theorem dX5_letOut_95 : decode cX5_letOut 95 = .ok (.iaload, 1) := by decide +kernel
theorem dX5_letOut_96 : decode cX5_letOut 96 = .ok (.iload_n 2, 1) := by decide +kernel
theorem dX5_letOut_97 : decode cX5_letOut 97 = .ok (.isub, 1) := by decide +kernel
theorem dX5_letOut_98 : decode cX5_letOut 98 = .ok (.iastore, 1) := by decide +kernel
theorem dX5_letOut_99 : decode cX5_letOut 99 = .ok (.aload_n 0, 1) := by decide +kernel
theorem dX5_letOut_100 : decode cX5_letOut 100 = .ok (.getfield 33, 3) := by decide +kernel
theorem dX5_letOut_103 : decode cX5_letOut 103 = .ok (.getfield 158, 3) := by decide +kernel
theorem dX5_letOut_106 : decode cX5_letOut 106 = .ok (.iload_n 1, 1) := by decide +kernel
theorem dX5_letOut_107 : decode cX5_letOut 107 = .ok (.dup2, 1) := by decide +kernel
theorem dX5_letOut_108 : decode cX5_letOut 108 = .ok (.iaload, 1) := by decide +kernel
theorem dX5_letOut_109 : decode cX5_letOut 109 = .ok (.iload_n 2, 1) := by decide +kernel
theorem dX5_letOut_110 : decode cX5_letOut 110 = .ok (.iadd, 1) := by decide +kernel
theorem dX5_letOut_111 : decode cX5_letOut 111 = .ok (.iastore, 1) := by decide +kernel
theorem dX5_letOut_112 : decode cX5_letOut 112 = .ok (.aload_n 0, 1) := by decide +kernel
theorem dX5_letOut_113 : decode cX5_letOut 113 = .ok (.getfield 40, 3) := by decide +kernel
theorem dX5_letOut_116 : decode cX5_letOut 116 = .ok (.iload_n 3, 1) := by decide +kernel
theorem dX5_letOut_117 : decode cX5_letOut 117 = .ok (.iload_n 2, 1) := by decide +kernel
theorem dX5_letOut_118 : decode cX5_letOut 118 = .ok (.aload_n 0, 1) := by decide +kernel
theorem dX5_letOut_119 : decode cX5_letOut 119 = .ok (.getfield 48, 3) := by decide +kernel
theorem dX5_letOut_122 : decode cX5_letOut 122 = .ok (.invokevirtual 161, 3) := by decide +kernel
theorem dX5_letOut_125 : decode cX5_letOut 125 = .ok (.aload_n 0, 1) := by decide +kernel
theorem dX5_letOut_126 : decode cX5_letOut 126 = .ok (.dup, 1) := by decide +kernel
theorem dX5_letOut_127 : decode cX5_letOut 127 = .ok (.getfield 164, 3) := by decide +kernel
theorem dX5_letOut_130 : decode cX5_letOut 130 = .ok (.lload 4, 2) := by decide +kernel
theorem dX5_letOut_132 : decode cX5_letOut 132 = .ok (.ladd, 1) := by decide +kernel
theorem dX5_letOut_133 : decode cX5_letOut 133 = .ok (.putfield 164, 3) := by decide +kernel
theorem dX5_letOut_136 : decode cX5_letOut 136 = .ok (.lload 4, 2) := by decide +kernel
theorem dX5_letOut_138 : decode cX5_letOut 138 = .ok (.lreturn, 1) := by decide +kernel
set_option maxRecDepth 20000 in
theorem ggX5_ship_X0_has : GoodIn wsX5_ship wsX0_has := goodIn_r _ [8, 9, 22, 23, 24, 25, 26, 27, 28] (by decide +kernel) (by decide +kernel)
set_option maxRecDepth 20000 in
theorem gX5_ship_X0_has : GoodIn wsX5_ship (wsV RX5 146 RX0 yX0_has wsX0_has) := goodIn_app (goodIn_of _ (by decide +kernel)) ggX5_ship_X0_has
set_option maxRecDepth 20000 in
theorem ggX5_ship_X5_isOutside : GoodIn wsX5_ship wsX5_isOutside := goodIn_r _ [13] (by decide +kernel) (by decide +kernel)
set_option maxRecDepth 20000 in
theorem gX5_ship_X5_isOutside : GoodIn wsX5_ship (va_wsS RX5 44 yX5_isOutside wsX5_isOutside) := goodIn_app (goodIn_of _ (by decide +kernel)) ggX5_ship_X5_isOutside
theorem dX5_ship_0 : decode cX5_ship 0 = .ok (.aload_n 0, 1) := by decide +kernel
theorem dX5_ship_1 : decode cX5_ship 1 = .ok (.getfield 33, 3) := by decide +kernel
theorem dX5_ship_4 : decode cX5_ship 4 = .ok (.iload_n 1, 1) := by decide +kernel
theorem dX5_ship_5 : decode cX5_ship 5 = .ok (.invokevirtual 146, 3) := by decide +kernel
theorem dX5_ship_8 : decode cX5_ship 8 = .ok (.ifCond .eq 14, 3) := by decide +kernel
theorem dX5_ship_11 : decode cX5_ship 11 = .ok (.iload_n 2, 1) := by decide +kernel
theorem dX5_ship_12 : decode cX5_ship 12 = .ok (.iconst 1, 1) := by decide +kernel
theorem dX5_ship_13 : decode cX5_ship 13 = .ok (.sipush 10000, 3) := by decide +kernel
theorem dX5_ship_16 : decode cX5_ship 16 = .ok (.invokestatic 44, 3) := by decide +kernel
theorem dX5_ship_19 : decode cX5_ship 19 = .ok (.ifCond .eq 6, 3) := by decide +kernel
theorem dX5_ship_22 : decode cX5_ship 22 = .ok (.bipush (-2), 2) := by decide +kernel
theorem dX5_ship_24 : decode cX5_ship 24 = .ok (.ireturn, 1) := by decide +kernel
theorem dX5_ship_25 : decode cX5_ship 25 = .ok (.iload_n 2, 1) := by decide +kernel
theorem dX5_ship_26 : decode cX5_ship 26 = .ok (.aload_n 0, 1) := by decide +kernel
theorem dX5_ship_27 : decode cX5_ship 27 = .ok (.getfield 33, 3) := by decide +kernel
theorem dX5_ship_30 : decode cX5_ship 30 = .ok (.getfield 149, 3) := by decide +kernel
theorem dX5_ship_33 : decode cX5_ship 33 = .ok (.iload_n 1, 1) := by decide +kernel
theorem dX5_ship_34 : decode cX5_ship 34 = .ok (.iaload, 1) := by decide +kernel
theorem dX5_ship_35 : decode cX5_ship 35 = .ok (.if_icmp .le 6, 3) := by decide +kernel
theorem dX5_ship_38 : decode cX5_ship 38 = .ok (.bipush (-3), 2) := by decide +kernel
theorem dX5_ship_40 : decode cX5_ship 40 = .ok (.ireturn, 1) := by decide +kernel
theorem dX5_ship_41 : decode cX5_ship 41 = .ok (.aload_n 0, 1) := by decide +kernel
theorem dX5_ship_42 : decode cX5_ship 42 = .ok (.getfield 33, 3) := by decide +kernel
theorem dX5_ship_45 : decode cX5_ship 45 = .ok (.getfield 149, 3) := by decide +kernel
theorem dX5_ship_48 : decode cX5_ship 48 = .ok (.iload_n 1, 1) := by decide +kernel
theorem dX5_ship_49 : decode cX5_ship 49 = .ok (.dup2, 1) := by decide +kernel
theorem dX5_ship_50 : decode cX5_ship 50 = .ok (.iaload, 1) := by decide +kernel
theorem dX5_ship_51 : decode cX5_ship 51 = .ok (.iload_n 2, 1) := by decide +kernel
theorem dX5_ship_52 : decode cX5_ship 52 = .ok (.isub, 1) := by decide +kernel
theorem dX5_ship_53 : decode cX5_ship 53 = .ok (.iastore, 1) := by decide +kernel
theorem dX5_ship_54 : decode cX5_ship 54 = .ok (.aload_n 0, 1) := by decide +kernel
theorem dX5_ship_55 : decode cX5_ship 55 = .ok (.getfield 33, 3) := by decide +kernel
theorem dX5_ship_58 : decode cX5_ship 58 = .ok (.getfield 168, 3) := by decide +kernel
theorem dX5_ship_61 : decode cX5_ship 61 = .ok (.iload_n 1, 1) := by decide +kernel
theorem dX5_ship_62 : decode cX5_ship 62 = .ok (.dup2, 1) := by decide +kernel
theorem dX5_ship_63 : decode cX5_ship 63 = .ok (.iaload, 1) := by decide +kernel
theorem dX5_ship_64 : decode cX5_ship 64 = .ok (.iload_n 2, 1) := by decide +kernel
theorem dX5_ship_65 : decode cX5_ship 65 = .ok (.iadd, 1) := by decide +kernel
theorem dX5_ship_66 : decode cX5_ship 66 = .ok (.iastore, 1) := by decide +kernel
theorem dX5_ship_67 : decode cX5_ship 67 = .ok (.aload_n 0, 1) := by decide +kernel
theorem dX5_ship_68 : decode cX5_ship 68 = .ok (.getfield 33, 3) := by decide +kernel
theorem dX5_ship_71 : decode cX5_ship 71 = .ok (.getfield 149, 3) := by decide +kernel
theorem dX5_ship_74 : decode cX5_ship 74 = .ok (.iload_n 1, 1) := by decide +kernel
theorem dX5_ship_75 : decode cX5_ship 75 = .ok (.iaload, 1) := by decide +kernel
theorem dX5_ship_76 : decode cX5_ship 76 = .ok (.ireturn, 1) := by decide +kernel
set_option maxRecDepth 20000 in
theorem ggX5_bond_X0_has : GoodIn wsX5_bond wsX0_has := goodIn_r _ [12, 13, 22, 23, 24, 25, 26, 27, 28] (by decide +kernel) (by decide +kernel)
set_option maxRecDepth 20000 in
theorem gX5_bond_X0_has : GoodIn wsX5_bond (wsV RX5 146 RX0 yX0_has wsX0_has) := goodIn_app (goodIn_of _ (by decide +kernel)) ggX5_bond_X0_has
theorem dX5_bond_0 : decode cX5_bond 0 = .ok (.aload_n 0, 1) := by decide +kernel
theorem dX5_bond_1 : decode cX5_bond 1 = .ok (.getfield 33, 3) := by decide +kernel
theorem dX5_bond_4 : decode cX5_bond 4 = .ok (.iload_n 1, 1) := by decide +kernel
theorem dX5_bond_5 : decode cX5_bond 5 = .ok (.invokevirtual 146, 3) := by decide +kernel
theorem dX5_bond_8 : decode cX5_bond 8 = .ok (.ifCond .ne 6, 3) := by decide +kernel
theorem dX5_bond_11 : decode cX5_bond 11 = .ok (.bipush (-2), 2) := by decide +kernel
theorem dX5_bond_13 : decode cX5_bond 13 = .ok (.ireturn, 1) := by decide +kernel
theorem dX5_bond_14 : decode cX5_bond 14 = .ok (.iload_n 2, 1) := by decide +kernel
theorem dX5_bond_15 : decode cX5_bond 15 = .ok (.tableswitch 97 0 5 #[37, 47, 57, 67, 77, 87], 37) := by decide +kernel
theorem dX5_bond_52 : decode cX5_bond 52 = .ok (.aload_n 0, 1) := by decide +kernel
theorem dX5_bond_53 : decode cX5_bond 53 = .ok (.getfield 33, 3) := by decide +kernel
theorem dX5_bond_56 : decode cX5_bond 56 = .ok (.getfield 157, 3) := by decide +kernel
theorem dX5_bond_59 : decode cX5_bond 59 = .ok (.iload_n 1, 1) := by decide +kernel
theorem dX5_bond_60 : decode cX5_bond 60 = .ok (.iaload, 1) := by decide +kernel
theorem dX5_bond_61 : decode cX5_bond 61 = .ok (.ireturn, 1) := by decide +kernel
theorem dX5_bond_62 : decode cX5_bond 62 = .ok (.aload_n 0, 1) := by decide +kernel
theorem dX5_bond_63 : decode cX5_bond 63 = .ok (.getfield 33, 3) := by decide +kernel
theorem dX5_bond_66 : decode cX5_bond 66 = .ok (.getfield 149, 3) := by decide +kernel
theorem dX5_bond_69 : decode cX5_bond 69 = .ok (.iload_n 1, 1) := by decide +kernel
theorem dX5_bond_70 : decode cX5_bond 70 = .ok (.iaload, 1) := by decide +kernel
theorem dX5_bond_71 : decode cX5_bond 71 = .ok (.ireturn, 1) := by decide +kernel
theorem dX5_bond_72 : decode cX5_bond 72 = .ok (.aload_n 0, 1) := by decide +kernel
theorem dX5_bond_73 : decode cX5_bond 73 = .ok (.getfield 33, 3) := by decide +kernel
theorem dX5_bond_76 : decode cX5_bond 76 = .ok (.getfield 158, 3) := by decide +kernel
theorem dX5_bond_79 : decode cX5_bond 79 = .ok (.iload_n 1, 1) := by decide +kernel
theorem dX5_bond_80 : decode cX5_bond 80 = .ok (.iaload, 1) := by decide +kernel
theorem dX5_bond_81 : decode cX5_bond 81 = .ok (.ireturn, 1) := by decide +kernel
theorem dX5_bond_82 : decode cX5_bond 82 = .ok (.aload_n 0, 1) := by decide +kernel
theorem dX5_bond_83 : decode cX5_bond 83 = .ok (.getfield 33, 3) := by decide +kernel
theorem dX5_bond_86 : decode cX5_bond 86 = .ok (.getfield 168, 3) := by decide +kernel
theorem dX5_bond_89 : decode cX5_bond 89 = .ok (.iload_n 1, 1) := by decide +kernel
theorem dX5_bond_90 : decode cX5_bond 90 = .ok (.iaload, 1) := by decide +kernel
theorem dX5_bond_91 : decode cX5_bond 91 = .ok (.ireturn, 1) := by decide +kernel
theorem dX5_bond_92 : decode cX5_bond 92 = .ok (.aload_n 0, 1) := by decide +kernel
theorem dX5_bond_93 : decode cX5_bond 93 = .ok (.getfield 33, 3) := by decide +kernel
theorem dX5_bond_96 : decode cX5_bond 96 = .ok (.getfield 171, 3) := by decide +kernel
theorem dX5_bond_99 : decode cX5_bond 99 = .ok (.iload_n 1, 1) := by decide +kernel
theorem dX5_bond_100 : decode cX5_bond 100 = .ok (.iaload, 1) := by decide +kernel
theorem dX5_bond_101 : decode cX5_bond 101 = .ok (.ireturn, 1) := by decide +kernel
theorem dX5_bond_102 : decode cX5_bond 102 = .ok (.aload_n 0, 1) := by decide +kernel
theorem dX5_bond_103 : decode cX5_bond 103 = .ok (.getfield 33, 3) := by decide +kernel
theorem dX5_bond_106 : decode cX5_bond 106 = .ok (.getfield 174, 3) := by decide +kernel
theorem dX5_bond_109 : decode cX5_bond 109 = .ok (.iload_n 1, 1) := by decide +kernel
theorem dX5_bond_110 : decode cX5_bond 110 = .ok (.iaload, 1) := by decide +kernel
theorem dX5_bond_111 : decode cX5_bond 111 = .ok (.ireturn, 1) := by decide +kernel
theorem dX5_bond_112 : decode cX5_bond 112 = .ok (.bipush (-2), 2) := by decide +kernel
theorem dX5_bond_114 : decode cX5_bond 114 = .ok (.ireturn, 1) := by decide +kernel
theorem dX5_chest_0 : decode cX5_chest 0 = .ok (.aload_n 0, 1) := by decide +kernel
theorem dX5_chest_1 : decode cX5_chest 1 = .ok (.getfield 164, 3) := by decide +kernel
theorem dX5_chest_4 : decode cX5_chest 4 = .ok (.lreturn, 1) := by decide +kernel
set_option maxRecDepth 20000 in
theorem ggX5_worth_X3_has : GoodIn wsX5_worth wsX3_has := goodIn_r _ [8, 9, 91, 92, 93, 94, 95, 96, 97, 98] (by decide +kernel) (by decide +kernel)
set_option maxRecDepth 20000 in
theorem gX5_worth_X3_has : GoodIn wsX5_worth (wsV RX5 70 RX3 yX3_has wsX3_has) := goodIn_app (goodIn_of _ (by decide +kernel)) ggX5_worth_X3_has
set_option maxRecDepth 20000 in
theorem ggX5_worth_X5_chestAnew : GoodIn wsX5_worth wsX5_chestAnew := goodIn_r _ [14, 15, 16, 17, 18, 19, 20, 21, 22, 13, 23, 24, 25, 1, 26, 27, 28, 29, 30, 31, 32, 33, 34, 35, 36, 37, 38, 39, 40, 41, 42, 43, 44, 45, 46, 47, 48, 49, 50, 51, 52, 53, 54, 55, 56, 7, 57, 58, 59, 60, 61, 9, 62, 63, 64, 65, 66, 67, 68, 69, 70, 71, 72, 73, 74, 75, 76, 77, 78, 79, 80, 81, 82, 83, 84, 85, 86, 87, 88, 89, 90, 99, 100, 101, 102, 103, 104, 105, 106, 107, 108, 109, 110, 111, 112, 91, 92, 93, 94, 95, 96, 97, 98] (by decide +kernel) (by decide +kernel)
set_option maxRecDepth 20000 in
theorem gX5_worth_X5_chestAnew : GoodIn wsX5_worth (wsV RX5 179 RX5 yX5_chestAnew wsX5_chestAnew) := goodIn_app (goodIn_of _ (by decide +kernel)) ggX5_worth_X5_chestAnew
theorem dX5_worth_0 : decode cX5_worth 0 = .ok (.aload_n 0, 1) := by decide +kernel
theorem dX5_worth_1 : decode cX5_worth 1 = .ok (.getfield 12, 3) := by decide +kernel
theorem dX5_worth_4 : decode cX5_worth 4 = .ok (.iload_n 1, 1) := by decide +kernel
theorem dX5_worth_5 : decode cX5_worth 5 = .ok (.invokevirtual 70, 3) := by decide +kernel
theorem dX5_worth_8 : decode cX5_worth 8 = .ok (.ifCond .ne 7, 3) := by decide +kernel
theorem dX5_worth_11 : decode cX5_worth 11 = .ok (.ldc2_w 177, 3) := by decide +kernel
theorem dX5_worth_14 : decode cX5_worth 14 = .ok (.lreturn, 1) := by decide +kernel
theorem dX5_worth_15 : decode cX5_worth 15 = .ok (.aload_n 0, 1) := by decide +kernel
theorem dX5_worth_16 : decode cX5_worth 16 = .ok (.iload_n 1, 1) := by decide +kernel
theorem dX5_worth_17 : decode cX5_worth 17 = .ok (.iconst (-1), 1) := by decide +kernel
theorem dX5_worth_18 : decode cX5_worth 18 = .ok (.invokevirtual 179, 3) := by decide +kernel
theorem dX5_worth_21 : decode cX5_worth 21 = .ok (.aload_n 0, 1) := by decide +kernel
theorem dX5_worth_22 : decode cX5_worth 22 = .ok (.getfield 164, 3) := by decide +kernel
theorem dX5_worth_25 : decode cX5_worth 25 = .ok (.lsub, 1) := by decide +kernel
theorem dX5_worth_26 : decode cX5_worth 26 = .ok (.lreturn, 1) := by decide +kernel
set_option maxRecDepth 20000 in
theorem ggX5_other_X4_has : GoodIn wsX5_other wsX4_has := goodIn_r _ [7, 8, 87, 88, 89, 90, 91, 92, 93] (by decide +kernel) (by decide +kernel)
set_option maxRecDepth 20000 in
theorem gX5_other_X4_has : GoodIn wsX5_other (wsV RX5 110 RX4 yX4_has wsX4_has) := goodIn_app (goodIn_of _ (by decide +kernel)) ggX5_other_X4_has
set_option maxRecDepth 20000 in
theorem ggX5_other_X5_chestAnew : GoodIn wsX5_other wsX5_chestAnew := goodIn_r _ [13, 14, 15, 16, 17, 18, 19, 20, 21, 12, 22, 23, 1, 24, 25, 26, 27, 28, 29, 30, 31, 32, 33, 34, 35, 36, 37, 38, 6, 39, 40, 41, 4, 5, 7, 8, 42, 43, 44, 45, 46, 47, 48, 49, 50, 51, 52, 53, 54, 55, 56, 57, 58, 59, 60, 61, 62, 63, 64, 65, 66, 67, 68, 69, 70, 71, 72, 73, 74, 75, 76, 77, 78, 79, 80, 81, 82, 83, 84, 85, 86, 94, 95, 96, 97, 98, 99, 100, 87, 88, 89, 90, 91, 92, 93, 101, 102, 103, 104, 105, 106, 107, 108] (by decide +kernel) (by decide +kernel)
set_option maxRecDepth 20000 in
theorem gX5_other_X5_chestAnew : GoodIn wsX5_other (wsV RX5 179 RX5 yX5_chestAnew wsX5_chestAnew) := goodIn_app (goodIn_of _ (by decide +kernel)) ggX5_other_X5_chestAnew
theorem dX5_other_0 : decode cX5_other 0 = .ok (.aload_n 0, 1) := by decide +kernel
theorem dX5_other_1 : decode cX5_other 1 = .ok (.getfield 19, 3) := by decide +kernel
theorem dX5_other_4 : decode cX5_other 4 = .ok (.iload_n 1, 1) := by decide +kernel
theorem dX5_other_5 : decode cX5_other 5 = .ok (.invokevirtual 110, 3) := by decide +kernel
theorem dX5_other_8 : decode cX5_other 8 = .ok (.ifCond .ne 7, 3) := by decide +kernel
theorem dX5_other_11 : decode cX5_other 11 = .ok (.ldc2_w 147, 3) := by decide +kernel
theorem dX5_other_14 : decode cX5_other 14 = .ok (.lreturn, 1) := by decide +kernel
theorem dX5_other_15 : decode cX5_other 15 = .ok (.aload_n 0, 1) := by decide +kernel
theorem dX5_other_16 : decode cX5_other 16 = .ok (.iconst (-1), 1) := by decide +kernel
theorem dX5_other_17 : decode cX5_other 17 = .ok (.iload_n 1, 1) := by decide +kernel
theorem dX5_other_18 : decode cX5_other 18 = .ok (.invokevirtual 179, 3) := by decide +kernel
theorem dX5_other_21 : decode cX5_other 21 = .ok (.lreturn, 1) := by decide +kernel
set_option maxRecDepth 20000 in
theorem ggX5_gain_X0_has : GoodIn wsX5_gain wsX0_has := goodIn_r _ [8, 9, 102, 103, 104, 105, 106, 107, 108] (by decide +kernel) (by decide +kernel)
set_option maxRecDepth 20000 in
theorem gX5_gain_X0_has : GoodIn wsX5_gain (wsV RX5 146 RX0 yX0_has wsX0_has) := goodIn_app (goodIn_of _ (by decide +kernel)) ggX5_gain_X0_has
set_option maxRecDepth 20000 in
theorem ggX5_gain_X5_isOutside : GoodIn wsX5_gain wsX5_isOutside := goodIn_r _ [13] (by decide +kernel) (by decide +kernel)
set_option maxRecDepth 20000 in
theorem gX5_gain_X5_isOutside : GoodIn wsX5_gain (va_wsS RX5 44 yX5_isOutside wsX5_isOutside) := goodIn_app (goodIn_of _ (by decide +kernel)) ggX5_gain_X5_isOutside
set_option maxRecDepth 20000 in
theorem ggX5_gain_X5_gainAt : GoodIn wsX5_gain wsX5_gainAt := goodIn_r _ [17, 1, 18, 2, 19, 20, 21, 22, 12, 23, 24, 25, 26, 27, 28, 29, 30, 31, 32, 33, 34, 35, 36, 37, 38, 39, 40, 41, 42, 43, 44, 45, 46, 47, 48, 49, 50, 51, 52, 53, 54, 55, 56, 57, 58, 59, 60, 61, 62, 63, 64, 65, 66, 67, 68, 69, 70, 71, 72, 73, 74, 75, 76, 77, 78, 79, 80, 81, 82, 83, 84, 85, 86, 87, 88, 7, 89, 90, 91, 92, 93, 94, 95, 96, 97, 98, 99, 100, 101, 102, 103, 104, 105, 106, 107, 108, 109, 110, 111, 112, 113, 114, 115, 116, 117, 118, 119, 120, 121, 122, 123, 124, 125, 126] (by decide +kernel) (by decide +kernel)
set_option maxRecDepth 20000 in
theorem gX5_gain_X5_gainAt : GoodIn wsX5_gain (wsV RX5 183 RX5 yX5_gainAt wsX5_gainAt) := goodIn_app (goodIn_of _ (by decide +kernel)) ggX5_gain_X5_gainAt
theorem dX5_gain_0 : decode cX5_gain 0 = .ok (.aload_n 0, 1) := by decide +kernel
theorem dX5_gain_1 : decode cX5_gain 1 = .ok (.getfield 33, 3) := by decide +kernel
theorem dX5_gain_4 : decode cX5_gain 4 = .ok (.iload_n 1, 1) := by decide +kernel
theorem dX5_gain_5 : decode cX5_gain 5 = .ok (.invokevirtual 146, 3) := by decide +kernel
theorem dX5_gain_8 : decode cX5_gain 8 = .ok (.ifCond .eq 32, 3) := by decide +kernel
theorem dX5_gain_11 : decode cX5_gain 11 = .ok (.iload_n 2, 1) := by decide +kernel
theorem dX5_gain_12 : decode cX5_gain 12 = .ok (.aload_n 0, 1) := by decide +kernel
theorem dX5_gain_13 : decode cX5_gain 13 = .ok (.getfield 48, 3) := by decide +kernel
theorem dX5_gain_16 : decode cX5_gain 16 = .ok (.aload_n 0, 1) := by decide +kernel
theorem dX5_gain_17 : decode cX5_gain 17 = .ok (.getfield 48, 3) := by decide +kernel
theorem dX5_gain_20 : decode cX5_gain 20 = .ok (.bipush 20, 2) := by decide +kernel
theorem dX5_gain_22 : decode cX5_gain 22 = .ok (.iadd, 1) := by decide +kernel
theorem dX5_gain_23 : decode cX5_gain 23 = .ok (.invokestatic 44, 3) := by decide +kernel
theorem dX5_gain_26 : decode cX5_gain 26 = .ok (.ifCond .ne 14, 3) := by decide +kernel
theorem dX5_gain_29 : decode cX5_gain 29 = .ok (.iload_n 3, 1) := by decide +kernel
theorem dX5_gain_30 : decode cX5_gain 30 = .ok (.iconst 0, 1) := by decide +kernel
theorem dX5_gain_31 : decode cX5_gain 31 = .ok (.sipush 2000, 3) := by decide +kernel
theorem dX5_gain_34 : decode cX5_gain 34 = .ok (.invokestatic 44, 3) := by decide +kernel
theorem dX5_gain_37 : decode cX5_gain 37 = .ok (.ifCond .eq 7, 3) := by decide +kernel
theorem dX5_gain_40 : decode cX5_gain 40 = .ok (.ldc2_w 177, 3) := by decide +kernel
theorem dX5_gain_43 : decode cX5_gain 43 = .ok (.lreturn, 1) := by decide +kernel
theorem dX5_gain_44 : decode cX5_gain 44 = .ok (.aload_n 0, 1) := by decide +kernel
theorem dX5_gain_45 : decode cX5_gain 45 = .ok (.iload_n 1, 1) := by decide +kernel
theorem dX5_gain_46 : decode cX5_gain 46 = .ok (.iload_n 2, 1) := by decide +kernel
theorem dX5_gain_47 : decode cX5_gain 47 = .ok (.iload_n 3, 1) := by decide +kernel
theorem dX5_gain_48 : decode cX5_gain 48 = .ok (.invokevirtual 183, 3) := by decide +kernel
theorem dX5_gain_51 : decode cX5_gain 51 = .ok (.lreturn, 1) := by decide +kernel
set_option maxRecDepth 20000 in
theorem ggX5_best_X0_has : GoodIn wsX5_best wsX0_has := goodIn_r _ [7, 8, 101, 102, 103, 104, 105, 106, 107] (by decide +kernel) (by decide +kernel)
set_option maxRecDepth 20000 in
theorem gX5_best_X0_has : GoodIn wsX5_best (wsV RX5 146 RX0 yX0_has wsX0_has) := goodIn_app (goodIn_of _ (by decide +kernel)) ggX5_best_X0_has
set_option maxRecDepth 20000 in
theorem ggX5_best_X5_isOutside : GoodIn wsX5_best wsX5_isOutside := goodIn_r _ [12] (by decide +kernel) (by decide +kernel)
set_option maxRecDepth 20000 in
theorem gX5_best_X5_isOutside : GoodIn wsX5_best (va_wsS RX5 44 yX5_isOutside wsX5_isOutside) := goodIn_app (goodIn_of _ (by decide +kernel)) ggX5_best_X5_isOutside
set_option maxRecDepth 20000 in
theorem ggX5_best_X5_gainAt : GoodIn wsX5_best wsX5_gainAt := goodIn_r _ [16, 1, 17, 2, 18, 19, 20, 21, 11, 22, 23, 24, 25, 26, 27, 28, 29, 30, 31, 32, 33, 34, 35, 36, 37, 38, 39, 40, 41, 42, 43, 44, 45, 46, 47, 48, 49, 50, 51, 52, 53, 54, 55, 56, 57, 58, 59, 60, 61, 62, 63, 64, 65, 66, 67, 68, 69, 70, 71, 72, 73, 74, 75, 76, 77, 78, 79, 80, 81, 82, 83, 84, 85, 86, 87, 6, 88, 89, 90, 91, 92, 93, 94, 95, 96, 97, 98, 99, 100, 101, 102, 103, 104, 105, 106, 107, 108, 109, 110, 111, 112, 113, 114, 115, 116, 117, 118, 119, 120, 121, 122, 123, 124, 125] (by decide +kernel) (by decide +kernel)
set_option maxRecDepth 20000 in
theorem gX5_best_X5_gainAt : GoodIn wsX5_best (wsV RX5 183 RX5 yX5_gainAt wsX5_gainAt) := goodIn_app (goodIn_of _ (by decide +kernel)) ggX5_best_X5_gainAt
theorem dX5_best_0 : decode cX5_best 0 = .ok (.aload_n 0, 1) := by decide +kernel
theorem dX5_best_1 : decode cX5_best 1 = .ok (.getfield 33, 3) := by decide +kernel
theorem dX5_best_4 : decode cX5_best 4 = .ok (.iload_n 1, 1) := by decide +kernel
theorem dX5_best_5 : decode cX5_best 5 = .ok (.invokevirtual 146, 3) := by decide +kernel
theorem dX5_best_8 : decode cX5_best 8 = .ok (.ifCond .eq 24, 3) := by decide +kernel
theorem dX5_best_11 : decode cX5_best 11 = .ok (.iload_n 2, 1) := by decide +kernel
theorem dX5_best_12 : decode cX5_best 12 = .ok (.iconst 0, 1) := by decide +kernel
theorem dX5_best_13 : decode cX5_best 13 = .ok (.bipush 20, 2) := by decide +kernel
theorem dX5_best_15 : decode cX5_best 15 = .ok (.invokestatic 44, 3) := by decide +kernel
theorem dX5_best_18 : decode cX5_best 18 = .ok (.ifCond .ne 14, 3) := by decide +kernel
theorem dX5_best_21 : decode cX5_best 21 = .ok (.iload_n 3, 1) := by decide +kernel
theorem dX5_best_22 : decode cX5_best 22 = .ok (.iconst 0, 1) := by decide +kernel
theorem dX5_best_23 : decode cX5_best 23 = .ok (.sipush 2000, 3) := by decide +kernel
theorem dX5_best_26 : decode cX5_best 26 = .ok (.invokestatic 44, 3) := by decide +kernel
theorem dX5_best_29 : decode cX5_best 29 = .ok (.ifCond .eq 6, 3) := by decide +kernel
theorem dX5_best_32 : decode cX5_best 32 = .ok (.bipush (-2), 2) := by decide +kernel
theorem dX5_best_34 : decode cX5_best 34 = .ok (.ireturn, 1) := by decide +kernel
theorem dX5_best_35 : decode cX5_best 35 = .ok (.aload_n 0, 1) := by decide +kernel
theorem dX5_best_36 : decode cX5_best 36 = .ok (.getfield 48, 3) := by decide +kernel
theorem dX5_best_39 : decode cX5_best 39 = .ok (.istore 4, 2) := by decide +kernel
theorem dX5_best_41 : decode cX5_best 41 = .ok (.aload_n 0, 1) := by decide +kernel
theorem dX5_best_42 : decode cX5_best 42 = .ok (.iload_n 1, 1) := by decide +kernel
theorem dX5_best_43 : decode cX5_best 43 = .ok (.aload_n 0, 1) := by decide +kernel
theorem dX5_best_44 : decode cX5_best 44 = .ok (.getfield 48, 3) := by decide +kernel
theorem dX5_best_47 : decode cX5_best 47 = .ok (.iload_n 3, 1) := by decide +kernel
theorem dX5_best_48 : decode cX5_best 48 = .ok (.invokevirtual 183, 3) := by decide +kernel
theorem dX5_best_51 : decode cX5_best 51 = .ok (.lstore 5, 2) := by decide +kernel
theorem dX5_best_53 : decode cX5_best 53 = .ok (.aload_n 0, 1) := by decide +kernel
theorem dX5_best_54 : decode cX5_best 54 = .ok (.getfield 48, 3) := by decide +kernel
theorem dX5_best_57 : decode cX5_best 57 = .ok (.iconst 1, 1) := by decide +kernel
theorem dX5_best_58 : decode cX5_best 58 = .ok (.iadd, 1) := by decide +kernel
theorem dX5_best_59 : decode cX5_best 59 = .ok (.istore 7, 2) := by decide +kernel
theorem dX5_best_61 : decode cX5_best 61 = .ok (.iload 7, 2) := by decide +kernel
theorem dX5_best_63 : decode cX5_best 63 = .ok (.aload_n 0, 1) := by decide +kernel
theorem dX5_best_64 : decode cX5_best 64 = .ok (.getfield 48, 3) := by decide +kernel
theorem dX5_best_67 : decode cX5_best 67 = .ok (.iload_n 2, 1) := by decide +kernel
theorem dX5_best_68 : decode cX5_best 68 = .ok (.iadd, 1) := by decide +kernel
theorem dX5_best_69 : decode cX5_best 69 = .ok (.if_icmp .gt 35, 3) := by decide +kernel
theorem dX5_best_72 : decode cX5_best 72 = .ok (.aload_n 0, 1) := by decide +kernel
theorem dX5_best_73 : decode cX5_best 73 = .ok (.iload_n 1, 1) := by decide +kernel
theorem dX5_best_74 : decode cX5_best 74 = .ok (.iload 7, 2) := by decide +kernel
theorem dX5_best_76 : decode cX5_best 76 = .ok (.iload_n 3, 1) := by decide +kernel
theorem dX5_best_77 : decode cX5_best 77 = .ok (.invokevirtual 183, 3) := by decide +kernel
theorem dX5_best_80 : decode cX5_best 80 = .ok (.lstore 8, 2) := by decide +kernel
theorem dX5_best_82 : decode cX5_best 82 = .ok (.lload 8, 2) := by decide +kernel
theorem dX5_best_84 : decode cX5_best 84 = .ok (.lload 5, 2) := by decide +kernel
theorem dX5_best_86 : decode cX5_best 86 = .ok (.lcmp, 1) := by decide +kernel
theorem dX5_best_87 : decode cX5_best 87 = .ok (.ifCond .le 11, 3) := by decide +kernel
theorem dX5_best_90 : decode cX5_best 90 = .ok (.lload 8, 2) := by decide +kernel
theorem dX5_best_92 : decode cX5_best 92 = .ok (.lstore 5, 2) := by decide +kernel
theorem dX5_best_94 : decode cX5_best 94 = .ok (.iload 7, 2) := by decide +kernel
theorem dX5_best_96 : decode cX5_best 96 = .ok (.istore 4, 2) := by decide +kernel
theorem dX5_best_98 : decode cX5_best 98 = .ok (.iinc 7 1, 3) := by decide +kernel
theorem dX5_best_101 : decode cX5_best 101 = .ok (.goto (-40), 3) := by decide +kernel
theorem dX5_best_104 : decode cX5_best 104 = .ok (.iload 4, 2) := by decide +kernel
theorem dX5_best_106 : decode cX5_best 106 = .ok (.ireturn, 1) := by decide +kernel
set_option maxRecDepth 20000 in
theorem ggX5_count_X3_struckOnes : GoodIn wsX5_count wsX3_struckOnes := goodIn_r _ [14, 15, 16, 25, 26, 27, 28, 29, 30, 31, 32] (by decide +kernel) (by decide +kernel)
set_option maxRecDepth 20000 in
theorem gX5_count_X3_struckOnes : GoodIn wsX5_count (wsV RX5 187 RX3 yX3_struckOnes wsX3_struckOnes) := goodIn_app (goodIn_of _ (by decide +kernel)) ggX5_count_X3_struckOnes
theorem dX5_count_0 : decode cX5_count 0 = .ok (.iload_n 1, 1) := by decide +kernel
theorem dX5_count_1 : decode cX5_count 1 = .ok (.tableswitch 84 0 5 #[39, 44, 52, 60, 68, 76], 39) := by decide +kernel
theorem dX5_count_40 : decode cX5_count 40 = .ok (.aload_n 0, 1) := by decide +kernel
theorem dX5_count_41 : decode cX5_count 41 = .ok (.getfield 48, 3) := by decide +kernel
theorem dX5_count_44 : decode cX5_count 44 = .ok (.ireturn, 1) := by decide +kernel
theorem dX5_count_45 : decode cX5_count 45 = .ok (.aload_n 0, 1) := by decide +kernel
theorem dX5_count_46 : decode cX5_count 46 = .ok (.getfield 12, 3) := by decide +kernel
theorem dX5_count_49 : decode cX5_count 49 = .ok (.getfield 63, 3) := by decide +kernel
theorem dX5_count_52 : decode cX5_count 52 = .ok (.ireturn, 1) := by decide +kernel
theorem dX5_count_53 : decode cX5_count 53 = .ok (.aload_n 0, 1) := by decide +kernel
theorem dX5_count_54 : decode cX5_count 54 = .ok (.getfield 12, 3) := by decide +kernel
theorem dX5_count_57 : decode cX5_count 57 = .ok (.invokevirtual 187, 3) := by decide +kernel
theorem dX5_count_60 : decode cX5_count 60 = .ok (.ireturn, 1) := by decide +kernel
theorem dX5_count_61 : decode cX5_count 61 = .ok (.aload_n 0, 1) := by decide +kernel
theorem dX5_count_62 : decode cX5_count 62 = .ok (.getfield 19, 3) := by decide +kernel
theorem dX5_count_65 : decode cX5_count 65 = .ok (.getfield 107, 3) := by decide +kernel
theorem dX5_count_68 : decode cX5_count 68 = .ok (.ireturn, 1) := by decide +kernel
theorem dX5_count_69 : decode cX5_count 69 = .ok (.aload_n 0, 1) := by decide +kernel
theorem dX5_count_70 : decode cX5_count 70 = .ok (.getfield 33, 3) := by decide +kernel
theorem dX5_count_73 : decode cX5_count 73 = .ok (.getfield 144, 3) := by decide +kernel
theorem dX5_count_76 : decode cX5_count 76 = .ok (.ireturn, 1) := by decide +kernel
theorem dX5_count_77 : decode cX5_count 77 = .ok (.aload_n 0, 1) := by decide +kernel
theorem dX5_count_78 : decode cX5_count 78 = .ok (.getfield 40, 3) := by decide +kernel
theorem dX5_count_81 : decode cX5_count 81 = .ok (.getfield 154, 3) := by decide +kernel
theorem dX5_count_84 : decode cX5_count 84 = .ok (.ireturn, 1) := by decide +kernel
theorem dX5_count_85 : decode cX5_count 85 = .ok (.bipush (-2), 2) := by decide +kernel
theorem dX5_count_87 : decode cX5_count 87 = .ok (.ireturn, 1) := by decide +kernel
theorem dX5_isOutside_0 : decode cX5_isOutside 0 = .ok (.iload_n 0, 1) := by decide +kernel
theorem dX5_isOutside_1 : decode cX5_isOutside 1 = .ok (.iload_n 1, 1) := by decide +kernel
theorem dX5_isOutside_2 : decode cX5_isOutside 2 = .ok (.if_icmp .lt 8, 3) := by decide +kernel
theorem dX5_isOutside_5 : decode cX5_isOutside 5 = .ok (.iload_n 0, 1) := by decide +kernel
theorem dX5_isOutside_6 : decode cX5_isOutside 6 = .ok (.iload_n 2, 1) := by decide +kernel
theorem dX5_isOutside_7 : decode cX5_isOutside 7 = .ok (.if_icmp .le 7, 3) := by decide +kernel
theorem dX5_isOutside_10 : decode cX5_isOutside 10 = .ok (.iconst 1, 1) := by decide +kernel
theorem dX5_isOutside_11 : decode cX5_isOutside 11 = .ok (.goto 4, 3) := by decide +kernel
theorem dX5_isOutside_14 : decode cX5_isOutside 14 = .ok (.iconst 0, 1) := by decide +kernel
theorem dX5_isOutside_15 : decode cX5_isOutside 15 = .ok (.ireturn, 1) := by decide +kernel
set_option maxRecDepth 20000 in
theorem ggX5_isNoGrain_X5_isOutside : GoodIn wsX5_isNoGrain wsX5_isOutside := goodIn_r _ [4] (by decide +kernel) (by decide +kernel)
set_option maxRecDepth 20000 in
theorem gX5_isNoGrain_X5_isOutside : GoodIn wsX5_isNoGrain (va_wsS RX5 44 yX5_isOutside wsX5_isOutside) := goodIn_app (goodIn_of _ (by decide +kernel)) ggX5_isNoGrain_X5_isOutside
theorem dX5_isNoGrain_0 : decode cX5_isNoGrain 0 = .ok (.iload_n 0, 1) := by decide +kernel
theorem dX5_isNoGrain_1 : decode cX5_isNoGrain 1 = .ok (.iconst 0, 1) := by decide +kernel
theorem dX5_isNoGrain_2 : decode cX5_isNoGrain 2 = .ok (.iconst 2, 1) := by decide +kernel
theorem dX5_isNoGrain_3 : decode cX5_isNoGrain 3 = .ok (.invokestatic 44, 3) := by decide +kernel
theorem dX5_isNoGrain_6 : decode cX5_isNoGrain 6 = .ok (.ireturn, 1) := by decide +kernel
set_option maxRecDepth 20000 in
theorem ggX5_dutyAt_X1_rulingOver : GoodIn wsX5_dutyAt wsX1_rulingOver := goodIn_r _ [8, 9, 10, 11, 12, 7, 13, 14, 71, 72, 73] (by decide +kernel) (by decide +kernel)
set_option maxRecDepth 20000 in
theorem gX5_dutyAt_X1_rulingOver : GoodIn wsX5_dutyAt (wsV RX5 191 RX1 yX1_rulingOver wsX1_rulingOver) := goodIn_app (goodIn_of _ (by decide +kernel)) ggX5_dutyAt_X1_rulingOver
set_option maxRecDepth 20000 in
theorem ggX5_dutyAt_X4_isOf : GoodIn wsX5_dutyAt wsX4_isOf := goodIn_r _ [19, 20, 21, 22, 23, 18, 24, 25, 74, 75, 76, 77, 78, 79, 80] (by decide +kernel) (by decide +kernel)
set_option maxRecDepth 20000 in
theorem gX5_dutyAt_X4_isOf : GoodIn wsX5_dutyAt (wsV RX5 194 RX4 yX4_isOf wsX4_isOf) := goodIn_app (goodIn_of _ (by decide +kernel)) ggX5_dutyAt_X4_isOf
set_option maxRecDepth 20000 in
theorem ggX5_dutyAt_X4_inForce : GoodIn wsX5_dutyAt wsX4_inForce := goodIn_r _ [29, 25, 20, 30, 31, 74, 75, 76, 77, 78, 79, 80] (by decide +kernel) (by decide +kernel)
set_option maxRecDepth 20000 in
theorem gX5_dutyAt_X4_inForce : GoodIn wsX5_dutyAt (wsV RX5 138 RX4 yX4_inForce wsX4_inForce) := goodIn_app (goodIn_of _ (by decide +kernel)) ggX5_dutyAt_X4_inForce
set_option maxRecDepth 20000 in
theorem ggX5_dutyAt_X3_averageKnown : GoodIn wsX5_dutyAt wsX3_averageKnown := goodIn_r _ [36, 37, 38, 39, 35, 40, 41, 42, 43, 44, 45, 46, 47, 48, 49, 50, 51, 81, 82, 83, 84, 85, 86, 87, 88] (by decide +kernel) (by decide +kernel)
set_option maxRecDepth 20000 in
theorem gX5_dutyAt_X3_averageKnown : GoodIn wsX5_dutyAt (wsV RX5 99 RX3 yX3_averageKnown wsX3_averageKnown) := goodIn_app (goodIn_of _ (by decide +kernel)) ggX5_dutyAt_X3_averageKnown
set_option maxRecDepth 20000 in
theorem ggX5_dutyAt_X4_dutyBy : GoodIn wsX5_dutyAt wsX4_dutyBy := goodIn_r _ [55, 30, 56, 57, 21, 22, 23, 18, 24, 25, 74, 75, 76, 77, 78, 79, 80] (by decide +kernel) (by decide +kernel)
set_option maxRecDepth 20000 in
theorem gX5_dutyAt_X4_dutyBy : GoodIn wsX5_dutyAt (wsV RX5 197 RX4 yX4_dutyBy wsX4_dutyBy) := goodIn_app (goodIn_of _ (by decide +kernel)) ggX5_dutyAt_X4_dutyBy
set_option maxRecDepth 20000 in
theorem ggX5_dutyAt_X1_inProportion : GoodIn wsX5_dutyAt wsX1_inProportion := goodIn_r _ [61, 62, 14, 10, 11, 12, 7, 13, 71, 72, 73] (by decide +kernel) (by decide +kernel)
set_option maxRecDepth 20000 in
theorem gX5_dutyAt_X1_inProportion : GoodIn wsX5_dutyAt (wsV RX5 200 RX1 yX1_inProportion wsX1_inProportion) := goodIn_app (goodIn_of _ (by decide +kernel)) ggX5_dutyAt_X1_inProportion
theorem dX5_dutyAt_0 : decode cX5_dutyAt 0 = .ok (.aload_n 0, 1) := by decide +kernel
theorem dX5_dutyAt_1 : decode cX5_dutyAt 1 = .ok (.getfield 26, 3) := by decide +kernel
theorem dX5_dutyAt_4 : decode cX5_dutyAt 4 = .ok (.iload_n 1, 1) := by decide +kernel
theorem dX5_dutyAt_5 : decode cX5_dutyAt 5 = .ok (.invokevirtual 191, 3) := by decide +kernel
theorem dX5_dutyAt_8 : decode cX5_dutyAt 8 = .ok (.istore 5, 2) := by decide +kernel
theorem dX5_dutyAt_10 : decode cX5_dutyAt 10 = .ok (.aload_n 0, 1) := by decide +kernel
theorem dX5_dutyAt_11 : decode cX5_dutyAt 11 = .ok (.getfield 19, 3) := by decide +kernel
theorem dX5_dutyAt_14 : decode cX5_dutyAt 14 = .ok (.iload 4, 2) := by decide +kernel
theorem dX5_dutyAt_16 : decode cX5_dutyAt 16 = .ok (.iload 5, 2) := by decide +kernel
theorem dX5_dutyAt_18 : decode cX5_dutyAt 18 = .ok (.invokevirtual 194, 3) := by decide +kernel
theorem dX5_dutyAt_21 : decode cX5_dutyAt 21 = .ok (.ifCond .eq 8, 3) := by decide +kernel
theorem dX5_dutyAt_24 : decode cX5_dutyAt 24 = .ok (.iload 4, 2) := by decide +kernel
theorem dX5_dutyAt_26 : decode cX5_dutyAt 26 = .ok (.goto 13, 3) := by decide +kernel
theorem dX5_dutyAt_29 : decode cX5_dutyAt 29 = .ok (.aload_n 0, 1) := by decide +kernel
theorem dX5_dutyAt_30 : decode cX5_dutyAt 30 = .ok (.getfield 19, 3) := by decide +kernel
theorem dX5_dutyAt_33 : decode cX5_dutyAt 33 = .ok (.iload 5, 2) := by decide +kernel
theorem dX5_dutyAt_35 : decode cX5_dutyAt 35 = .ok (.iload_n 2, 1) := by decide +kernel
theorem dX5_dutyAt_36 : decode cX5_dutyAt 36 = .ok (.invokevirtual 138, 3) := by decide +kernel
theorem dX5_dutyAt_39 : decode cX5_dutyAt 39 = .ok (.istore 6, 2) := by decide +kernel
theorem dX5_dutyAt_41 : decode cX5_dutyAt 41 = .ok (.aload_n 0, 1) := by decide +kernel
theorem dX5_dutyAt_42 : decode cX5_dutyAt 42 = .ok (.getfield 12, 3) := by decide +kernel
theorem dX5_dutyAt_45 : decode cX5_dutyAt 45 = .ok (.iload 5, 2) := by decide +kernel
theorem dX5_dutyAt_47 : decode cX5_dutyAt 47 = .ok (.iload_n 2, 1) := by decide +kernel
theorem dX5_dutyAt_48 : decode cX5_dutyAt 48 = .ok (.iload_n 3, 1) := by decide +kernel
theorem dX5_dutyAt_49 : decode cX5_dutyAt 49 = .ok (.invokevirtual 99, 3) := by decide +kernel
theorem dX5_dutyAt_52 : decode cX5_dutyAt 52 = .ok (.istore 7, 2) := by decide +kernel
theorem dX5_dutyAt_54 : decode cX5_dutyAt 54 = .ok (.aload_n 0, 1) := by decide +kernel
