theorem dX6_hang_47 : decode cX6_hang 47 = .ok (.iload_n 2, 1) := by decide +kernel
theorem dX6_hang_48 : decode cX6_hang 48 = .ok (.iaload, 1) := by decide +kernel
theorem dX6_hang_49 : decode cX6_hang 49 = .ok (.iconst (-1), 1) := by decide +kernel
theorem dX6_hang_50 : decode cX6_hang 50 = .ok (.if_icmp .eq 7, 3) := by decide +kernel
theorem dX6_hang_53 : decode cX6_hang 53 = .ok (.iconst 1, 1) := by decide +kernel
theorem dX6_hang_54 : decode cX6_hang 54 = .ok (.goto 4, 3) := by decide +kernel
theorem dX6_hang_57 : decode cX6_hang 57 = .ok (.iconst 0, 1) := by decide +kernel
theorem dX6_hang_58 : decode cX6_hang 58 = .ok (.istore 5, 2) := by decide +kernel
theorem dX6_hang_60 : decode cX6_hang 60 = .ok (.iconst 0, 1) := by decide +kernel
theorem dX6_hang_61 : decode cX6_hang 61 = .ok (.istore 6, 2) := by decide +kernel
theorem dX6_hang_63 : decode cX6_hang 63 = .ok (.iload 6, 2) := by decide +kernel
theorem dX6_hang_65 : decode cX6_hang 65 = .ok (.iconst 3, 1) := by decide +kernel
theorem dX6_hang_66 : decode cX6_hang 66 = .ok (.if_icmp .ge 32, 3) := by decide +kernel
theorem dX6_hang_69 : decode cX6_hang 69 = .ok (.iload 5, 2) := by decide +kernel
theorem dX6_hang_71 : decode cX6_hang 71 = .ok (.ifCond .ne 14, 3) := by decide +kernel
theorem dX6_hang_74 : decode cX6_hang 74 = .ok (.aload_n 0, 1) := by decide +kernel
theorem dX6_hang_75 : decode cX6_hang 75 = .ok (.getfield 49, 3) := by decide +kernel
theorem dX6_hang_78 : decode cX6_hang 78 = .ok (.iload 6, 2) := by decide +kernel
theorem dX6_hang_80 : decode cX6_hang 80 = .ok (.iaload, 1) := by decide +kernel
theorem dX6_hang_81 : decode cX6_hang 81 = .ok (.iload_n 1, 1) := by decide +kernel
theorem dX6_hang_82 : decode cX6_hang 82 = .ok (.if_icmp .ne 7, 3) := by decide +kernel
theorem dX6_hang_85 : decode cX6_hang 85 = .ok (.iconst 1, 1) := by decide +kernel
theorem dX6_hang_86 : decode cX6_hang 86 = .ok (.goto 4, 3) := by decide +kernel
theorem dX6_hang_89 : decode cX6_hang 89 = .ok (.iconst 0, 1) := by decide +kernel
theorem dX6_hang_90 : decode cX6_hang 90 = .ok (.istore 5, 2) := by decide +kernel
theorem dX6_hang_92 : decode cX6_hang 92 = .ok (.iinc 6 1, 3) := by decide +kernel
theorem dX6_hang_95 : decode cX6_hang 95 = .ok (.goto (-32), 3) := by decide +kernel
theorem dX6_hang_98 : decode cX6_hang 98 = .ok (.iload 5, 2) := by decide +kernel
theorem dX6_hang_100 : decode cX6_hang 100 = .ok (.ifCond .eq 6, 3) := by decide +kernel
theorem dX6_hang_103 : decode cX6_hang 103 = .ok (.bipush (-3), 2) := by decide +kernel
theorem dX6_hang_105 : decode cX6_hang 105 = .ok (.ireturn, 1) := by decide +kernel
theorem dX6_hang_106 : decode cX6_hang 106 = .ok (.aload_n 0, 1) := by decide +kernel
theorem dX6_hang_107 : decode cX6_hang 107 = .ok (.getfield 49, 3) := by decide +kernel
theorem dX6_hang_110 : decode cX6_hang 110 = .ok (.iload_n 1, 1) := by decide +kernel
theorem dX6_hang_111 : decode cX6_hang 111 = .ok (.iload_n 2, 1) := by decide +kernel
theorem dX6_hang_112 : decode cX6_hang 112 = .ok (.iastore, 1) := by decide +kernel
theorem dX6_hang_113 : decode cX6_hang 113 = .ok (.aload_n 0, 1) := by decide +kernel
theorem dX6_hang_114 : decode cX6_hang 114 = .ok (.getfield 52, 3) := by decide +kernel
theorem dX6_hang_117 : decode cX6_hang 117 = .ok (.iload_n 1, 1) := by decide +kernel
theorem dX6_hang_118 : decode cX6_hang 118 = .ok (.iload_n 3, 1) := by decide +kernel
theorem dX6_hang_119 : decode cX6_hang 119 = .ok (.iastore, 1) := by decide +kernel
theorem dX6_hang_120 : decode cX6_hang 120 = .ok (.aload_n 0, 1) := by decide +kernel
theorem dX6_hang_121 : decode cX6_hang 121 = .ok (.getfield 55, 3) := by decide +kernel
theorem dX6_hang_124 : decode cX6_hang 124 = .ok (.iload_n 1, 1) := by decide +kernel
theorem dX6_hang_125 : decode cX6_hang 125 = .ok (.iload 4, 2) := by decide +kernel
theorem dX6_hang_127 : decode cX6_hang 127 = .ok (.iastore, 1) := by decide +kernel
theorem dX6_hang_128 : decode cX6_hang 128 = .ok (.iconst 1, 1) := by decide +kernel
theorem dX6_hang_129 : decode cX6_hang 129 = .ok (.ireturn, 1) := by decide +kernel
set_option maxRecDepth 20000 in
theorem ggX6_unhang_X6_isGrain : GoodIn wsX6_unhang wsX6_isGrain := goodIn_r _ [5, 6, 7, 4, 8] (by decide +kernel) (by decide +kernel)
set_option maxRecDepth 20000 in
theorem gX6_unhang_X6_isGrain : GoodIn wsX6_unhang (va_wsS RX6 105 yX6_isGrain wsX6_isGrain) := goodIn_app (goodIn_of _ (by decide +kernel)) ggX6_unhang_X6_isGrain
theorem dX6_unhang_0 : decode cX6_unhang 0 = .ok (.iload_n 1, 1) := by decide +kernel
theorem dX6_unhang_1 : decode cX6_unhang 1 = .ok (.invokestatic 105, 3) := by decide +kernel
theorem dX6_unhang_4 : decode cX6_unhang 4 = .ok (.ifCond .ne 6, 3) := by decide +kernel
theorem dX6_unhang_7 : decode cX6_unhang 7 = .ok (.bipush (-2), 2) := by decide +kernel
theorem dX6_unhang_9 : decode cX6_unhang 9 = .ok (.ireturn, 1) := by decide +kernel
theorem dX6_unhang_10 : decode cX6_unhang 10 = .ok (.aload_n 0, 1) := by decide +kernel
theorem dX6_unhang_11 : decode cX6_unhang 11 = .ok (.getfield 49, 3) := by decide +kernel
theorem dX6_unhang_14 : decode cX6_unhang 14 = .ok (.iload_n 1, 1) := by decide +kernel
theorem dX6_unhang_15 : decode cX6_unhang 15 = .ok (.iaload, 1) := by decide +kernel
theorem dX6_unhang_16 : decode cX6_unhang 16 = .ok (.iconst (-1), 1) := by decide +kernel
theorem dX6_unhang_17 : decode cX6_unhang 17 = .ok (.if_icmp .ne 6, 3) := by decide +kernel
theorem dX6_unhang_20 : decode cX6_unhang 20 = .ok (.bipush (-3), 2) := by decide +kernel
theorem dX6_unhang_22 : decode cX6_unhang 22 = .ok (.ireturn, 1) := by decide +kernel
theorem dX6_unhang_23 : decode cX6_unhang 23 = .ok (.aload_n 0, 1) := by decide +kernel
theorem dX6_unhang_24 : decode cX6_unhang 24 = .ok (.getfield 49, 3) := by decide +kernel
theorem dX6_unhang_27 : decode cX6_unhang 27 = .ok (.iload_n 1, 1) := by decide +kernel
theorem dX6_unhang_28 : decode cX6_unhang 28 = .ok (.iconst (-1), 1) := by decide +kernel
theorem dX6_unhang_29 : decode cX6_unhang 29 = .ok (.iastore, 1) := by decide +kernel
theorem dX6_unhang_30 : decode cX6_unhang 30 = .ok (.iconst 1, 1) := by decide +kernel
theorem dX6_unhang_31 : decode cX6_unhang 31 = .ok (.ireturn, 1) := by decide +kernel
theorem dX6_forceAt_0 : decode cX6_forceAt 0 = .ok (.iconst (-1), 1) := by decide +kernel
theorem dX6_forceAt_1 : decode cX6_forceAt 1 = .ok (.istore_n 3, 1) := by decide +kernel
theorem dX6_forceAt_2 : decode cX6_forceAt 2 = .ok (.iconst 0, 1) := by decide +kernel
theorem dX6_forceAt_3 : decode cX6_forceAt 3 = .ok (.istore 4, 2) := by decide +kernel
theorem dX6_forceAt_5 : decode cX6_forceAt 5 = .ok (.iload 4, 2) := by decide +kernel
theorem dX6_forceAt_7 : decode cX6_forceAt 7 = .ok (.aload_n 0, 1) := by decide +kernel
theorem dX6_forceAt_8 : decode cX6_forceAt 8 = .ok (.getfield 123, 3) := by decide +kernel
theorem dX6_forceAt_11 : decode cX6_forceAt 11 = .ok (.if_icmp .ge 69, 3) := by decide +kernel
theorem dX6_forceAt_14 : decode cX6_forceAt 14 = .ok (.aload_n 0, 1) := by decide +kernel
theorem dX6_forceAt_15 : decode cX6_forceAt 15 = .ok (.getfield 31, 3) := by decide +kernel
theorem dX6_forceAt_18 : decode cX6_forceAt 18 = .ok (.iload 4, 2) := by decide +kernel
theorem dX6_forceAt_20 : decode cX6_forceAt 20 = .ok (.iaload, 1) := by decide +kernel
theorem dX6_forceAt_21 : decode cX6_forceAt 21 = .ok (.iload_n 1, 1) := by decide +kernel
theorem dX6_forceAt_22 : decode cX6_forceAt 22 = .ok (.if_icmp .ne 52, 3) := by decide +kernel
theorem dX6_forceAt_25 : decode cX6_forceAt 25 = .ok (.aload_n 0, 1) := by decide +kernel
theorem dX6_forceAt_26 : decode cX6_forceAt 26 = .ok (.getfield 40, 3) := by decide +kernel
theorem dX6_forceAt_29 : decode cX6_forceAt 29 = .ok (.iload 4, 2) := by decide +kernel
theorem dX6_forceAt_31 : decode cX6_forceAt 31 = .ok (.iaload, 1) := by decide +kernel
theorem dX6_forceAt_32 : decode cX6_forceAt 32 = .ok (.ifCond .le 42, 3) := by decide +kernel
theorem dX6_forceAt_35 : decode cX6_forceAt 35 = .ok (.aload_n 0, 1) := by decide +kernel
theorem dX6_forceAt_36 : decode cX6_forceAt 36 = .ok (.getfield 34, 3) := by decide +kernel
theorem dX6_forceAt_39 : decode cX6_forceAt 39 = .ok (.iload 4, 2) := by decide +kernel
theorem dX6_forceAt_41 : decode cX6_forceAt 41 = .ok (.iaload, 1) := by decide +kernel
theorem dX6_forceAt_42 : decode cX6_forceAt 42 = .ok (.iload_n 2, 1) := by decide +kernel
theorem dX6_forceAt_43 : decode cX6_forceAt 43 = .ok (.if_icmp .gt 31, 3) := by decide +kernel
theorem dX6_forceAt_46 : decode cX6_forceAt 46 = .ok (.iload_n 3, 1) := by decide +kernel
theorem dX6_forceAt_47 : decode cX6_forceAt 47 = .ok (.iconst (-1), 1) := by decide +kernel
theorem dX6_forceAt_48 : decode cX6_forceAt 48 = .ok (.if_icmp .eq 19, 3) := by decide +kernel
theorem dX6_forceAt_51 : decode cX6_forceAt 51 = .ok (.aload_n 0, 1) := by decide +kernel
theorem dX6_forceAt_52 : decode cX6_forceAt 52 = .ok (.getfield 34, 3) := by decide +kernel
theorem dX6_forceAt_55 : decode cX6_forceAt 55 = .ok (.iload 4, 2) := by decide +kernel
theorem dX6_forceAt_57 : decode cX6_forceAt 57 = .ok (.iaload, 1) := by decide +kernel
theorem dX6_forceAt_58 : decode cX6_forceAt 58 = .ok (.aload_n 0, 1) := by decide +kernel
theorem dX6_forceAt_59 : decode cX6_forceAt 59 = .ok (.getfield 34, 3) := by decide +kernel
theorem dX6_forceAt_62 : decode cX6_forceAt 62 = .ok (.iload_n 3, 1) := by decide +kernel
theorem dX6_forceAt_63 : decode cX6_forceAt 63 = .ok (.iaload, 1) := by decide +kernel
theorem dX6_forceAt_64 : decode cX6_forceAt 64 = .ok (.if_icmp .lt 8, 3) := by decide +kernel
theorem dX6_forceAt_67 : decode cX6_forceAt 67 = .ok (.iload 4, 2) := by decide +kernel
theorem dX6_forceAt_69 : decode cX6_forceAt 69 = .ok (.goto 4, 3) := by decide +kernel
theorem dX6_forceAt_72 : decode cX6_forceAt 72 = .ok (.iload_n 3, 1) := by decide +kernel
theorem dX6_forceAt_73 : decode cX6_forceAt 73 = .ok (.istore_n 3, 1) := by decide +kernel
theorem dX6_forceAt_74 : decode cX6_forceAt 74 = .ok (.iinc 4 1, 3) := by decide +kernel
theorem dX6_forceAt_77 : decode cX6_forceAt 77 = .ok (.goto (-72), 3) := by decide +kernel
theorem dX6_forceAt_80 : decode cX6_forceAt 80 = .ok (.iload_n 3, 1) := by decide +kernel
theorem dX6_forceAt_81 : decode cX6_forceAt 81 = .ok (.ireturn, 1) := by decide +kernel
set_option maxRecDepth 20000 in
theorem ggX6_force_X6_isGrain : GoodIn wsX6_force wsX6_isGrain := goodIn_r _ [4, 5, 6, 3, 7] (by decide +kernel) (by decide +kernel)
set_option maxRecDepth 20000 in
theorem gX6_force_X6_isGrain : GoodIn wsX6_force (va_wsS RX6 105 yX6_isGrain wsX6_isGrain) := goodIn_app (goodIn_of _ (by decide +kernel)) ggX6_force_X6_isGrain
set_option maxRecDepth 20000 in
theorem ggX6_force_X6_in : GoodIn wsX6_force wsX6_in := goodIn_r _ [7] (by decide +kernel) (by decide +kernel)
set_option maxRecDepth 20000 in
theorem gX6_force_X6_in : GoodIn wsX6_force (va_wsS RX6 92 yX6_in wsX6_in) := goodIn_app (goodIn_of _ (by decide +kernel)) ggX6_force_X6_in
set_option maxRecDepth 20000 in
theorem ggX6_force_X6_forceAt : GoodIn wsX6_force wsX6_forceAt := goodIn_r _ [11, 12, 13, 14, 15, 16, 17, 18, 19, 20, 21, 22, 23, 24, 25, 26, 27, 28, 29, 30, 31, 32, 33, 34, 35, 36, 37, 38, 39, 40, 41, 42, 43, 44, 45, 46, 47, 48, 49] (by decide +kernel) (by decide +kernel)
set_option maxRecDepth 20000 in
theorem gX6_force_X6_forceAt : GoodIn wsX6_force (wsV RX6 129 RX6 yX6_forceAt wsX6_forceAt) := goodIn_app (goodIn_of _ (by decide +kernel)) ggX6_force_X6_forceAt
theorem dX6_force_0 : decode cX6_force 0 = .ok (.iload_n 1, 1) := by decide +kernel
theorem dX6_force_1 : decode cX6_force 1 = .ok (.invokestatic 105, 3) := by decide +kernel
theorem dX6_force_4 : decode cX6_force 4 = .ok (.ifCond .eq 23, 3) := by decide +kernel
theorem dX6_force_7 : decode cX6_force 7 = .ok (.iload_n 2, 1) := by decide +kernel
theorem dX6_force_8 : decode cX6_force 8 = .ok (.iconst 0, 1) := by decide +kernel
theorem dX6_force_9 : decode cX6_force 9 = .ok (.sipush 220, 3) := by decide +kernel
theorem dX6_force_12 : decode cX6_force 12 = .ok (.invokestatic 92, 3) := by decide +kernel
theorem dX6_force_15 : decode cX6_force 15 = .ok (.ifCond .eq 12, 3) := by decide +kernel
theorem dX6_force_18 : decode cX6_force 18 = .ok (.aload_n 0, 1) := by decide +kernel
theorem dX6_force_19 : decode cX6_force 19 = .ok (.iload_n 1, 1) := by decide +kernel
theorem dX6_force_20 : decode cX6_force 20 = .ok (.iload_n 2, 1) := by decide +kernel
theorem dX6_force_21 : decode cX6_force 21 = .ok (.invokevirtual 129, 3) := by decide +kernel
theorem dX6_force_24 : decode cX6_force 24 = .ok (.goto 5, 3) := by decide +kernel
theorem dX6_force_27 : decode cX6_force 27 = .ok (.bipush (-2), 2) := by decide +kernel
theorem dX6_force_29 : decode cX6_force 29 = .ok (.ireturn, 1) := by decide +kernel
set_option maxRecDepth 20000 in
theorem ggX6_ownDuty_X6_forceAt : GoodIn wsX6_ownDuty wsX6_forceAt := goodIn_r _ [10, 11, 2, 3, 12, 33, 34, 35, 36, 37, 38, 39, 40, 41, 42, 43, 44, 45, 46, 47, 48, 49, 50, 51, 52, 53, 54, 55, 56, 57, 58, 59, 60, 61, 62, 63, 64, 65, 66] (by decide +kernel) (by decide +kernel)
set_option maxRecDepth 20000 in
theorem gX6_ownDuty_X6_forceAt : GoodIn wsX6_ownDuty (wsV RX6 129 RX6 yX6_forceAt wsX6_forceAt) := goodIn_app (goodIn_of _ (by decide +kernel)) ggX6_ownDuty_X6_forceAt
set_option maxRecDepth 20000 in
theorem ggX6_ownDuty_X6_averageAt : GoodIn wsX6_ownDuty wsX6_averageAt := goodIn_r _ [16, 17, 18, 19, 9, 20, 21, 22, 23, 24, 25, 26, 27, 28, 29, 30, 31, 32, 33, 34, 35, 36, 37, 38, 39, 40, 41, 42, 43, 44, 45, 46, 47, 48, 49, 50, 51, 52, 53, 54, 55, 56, 57, 58, 59, 60, 61, 62, 63, 64, 65, 66] (by decide +kernel) (by decide +kernel)
set_option maxRecDepth 20000 in
theorem gX6_ownDuty_X6_averageAt : GoodIn wsX6_ownDuty (wsV RX6 120 RX6 yX6_averageAt wsX6_averageAt) := goodIn_app (goodIn_of _ (by decide +kernel)) ggX6_ownDuty_X6_averageAt
theorem dX6_ownDuty_0 : decode cX6_ownDuty 0 = .ok (.aload_n 0, 1) := by decide +kernel
theorem dX6_ownDuty_1 : decode cX6_ownDuty 1 = .ok (.getfield 89, 3) := by decide +kernel
theorem dX6_ownDuty_4 : decode cX6_ownDuty 4 = .ok (.iconst (-1), 1) := by decide +kernel
theorem dX6_ownDuty_5 : decode cX6_ownDuty 5 = .ok (.if_icmp .eq 23, 3) := by decide +kernel
theorem dX6_ownDuty_8 : decode cX6_ownDuty 8 = .ok (.aload_n 0, 1) := by decide +kernel
theorem dX6_ownDuty_9 : decode cX6_ownDuty 9 = .ok (.getfield 31, 3) := by decide +kernel
theorem dX6_ownDuty_12 : decode cX6_ownDuty 12 = .ok (.aload_n 0, 1) := by decide +kernel
theorem dX6_ownDuty_13 : decode cX6_ownDuty 13 = .ok (.getfield 89, 3) := by decide +kernel
theorem dX6_ownDuty_16 : decode cX6_ownDuty 16 = .ok (.iaload, 1) := by decide +kernel
theorem dX6_ownDuty_17 : decode cX6_ownDuty 17 = .ok (.iload_n 1, 1) := by decide +kernel
theorem dX6_ownDuty_18 : decode cX6_ownDuty 18 = .ok (.if_icmp .ne 10, 3) := by decide +kernel
theorem dX6_ownDuty_21 : decode cX6_ownDuty 21 = .ok (.aload_n 0, 1) := by decide +kernel
theorem dX6_ownDuty_22 : decode cX6_ownDuty 22 = .ok (.getfield 89, 3) := by decide +kernel
theorem dX6_ownDuty_25 : decode cX6_ownDuty 25 = .ok (.goto 9, 3) := by decide +kernel
theorem dX6_ownDuty_28 : decode cX6_ownDuty 28 = .ok (.aload_n 0, 1) := by decide +kernel
theorem dX6_ownDuty_29 : decode cX6_ownDuty 29 = .ok (.iload_n 1, 1) := by decide +kernel
theorem dX6_ownDuty_30 : decode cX6_ownDuty 30 = .ok (.iload_n 2, 1) := by decide +kernel
theorem dX6_ownDuty_31 : decode cX6_ownDuty 31 = .ok (.invokevirtual 129, 3) := by decide +kernel
theorem dX6_ownDuty_34 : decode cX6_ownDuty 34 = .ok (.istore 4, 2) := by decide +kernel
theorem dX6_ownDuty_36 : decode cX6_ownDuty 36 = .ok (.iload 4, 2) := by decide +kernel
theorem dX6_ownDuty_38 : decode cX6_ownDuty 38 = .ok (.iconst (-1), 1) := by decide +kernel
theorem dX6_ownDuty_39 : decode cX6_ownDuty 39 = .ok (.if_icmp .eq 13, 3) := by decide +kernel
theorem dX6_ownDuty_42 : decode cX6_ownDuty 42 = .ok (.aload_n 0, 1) := by decide +kernel
theorem dX6_ownDuty_43 : decode cX6_ownDuty 43 = .ok (.getfield 40, 3) := by decide +kernel
theorem dX6_ownDuty_46 : decode cX6_ownDuty 46 = .ok (.iload 4, 2) := by decide +kernel
theorem dX6_ownDuty_48 : decode cX6_ownDuty 48 = .ok (.iaload, 1) := by decide +kernel
theorem dX6_ownDuty_49 : decode cX6_ownDuty 49 = .ok (.ifCond .ne 5, 3) := by decide +kernel
theorem dX6_ownDuty_52 : decode cX6_ownDuty 52 = .ok (.iconst 0, 1) := by decide +kernel
theorem dX6_ownDuty_53 : decode cX6_ownDuty 53 = .ok (.ireturn, 1) := by decide +kernel
theorem dX6_ownDuty_54 : decode cX6_ownDuty 54 = .ok (.aload_n 0, 1) := by decide +kernel
theorem dX6_ownDuty_55 : decode cX6_ownDuty 55 = .ok (.iload_n 1, 1) := by decide +kernel
theorem dX6_ownDuty_56 : decode cX6_ownDuty 56 = .ok (.iload_n 2, 1) := by decide +kernel
theorem dX6_ownDuty_57 : decode cX6_ownDuty 57 = .ok (.iload_n 3, 1) := by decide +kernel
theorem dX6_ownDuty_58 : decode cX6_ownDuty 58 = .ok (.invokevirtual 120, 3) := by decide +kernel
theorem dX6_ownDuty_61 : decode cX6_ownDuty 61 = .ok (.istore 5, 2) := by decide +kernel
theorem dX6_ownDuty_63 : decode cX6_ownDuty 63 = .ok (.iconst 0, 1) := by decide +kernel
theorem dX6_ownDuty_64 : decode cX6_ownDuty 64 = .ok (.istore 6, 2) := by decide +kernel
theorem dX6_ownDuty_66 : decode cX6_ownDuty 66 = .ok (.iconst 1, 1) := by decide +kernel
theorem dX6_ownDuty_67 : decode cX6_ownDuty 67 = .ok (.istore 7, 2) := by decide +kernel
theorem dX6_ownDuty_69 : decode cX6_ownDuty 69 = .ok (.iload 7, 2) := by decide +kernel
theorem dX6_ownDuty_71 : decode cX6_ownDuty 71 = .ok (.aload_n 0, 1) := by decide +kernel
theorem dX6_ownDuty_72 : decode cX6_ownDuty 72 = .ok (.getfield 40, 3) := by decide +kernel
theorem dX6_ownDuty_75 : decode cX6_ownDuty 75 = .ok (.iload 4, 2) := by decide +kernel
theorem dX6_ownDuty_77 : decode cX6_ownDuty 77 = .ok (.iaload, 1) := by decide +kernel
theorem dX6_ownDuty_78 : decode cX6_ownDuty 78 = .ok (.if_icmp .ge 36, 3) := by decide +kernel
theorem dX6_ownDuty_81 : decode cX6_ownDuty 81 = .ok (.aload_n 0, 1) := by decide +kernel
theorem dX6_ownDuty_82 : decode cX6_ownDuty 82 = .ok (.getfield 43, 3) := by decide +kernel
theorem dX6_ownDuty_85 : decode cX6_ownDuty 85 = .ok (.bipush 8, 2) := by decide +kernel
theorem dX6_ownDuty_87 : decode cX6_ownDuty 87 = .ok (.iload 4, 2) := by decide +kernel
theorem dX6_ownDuty_89 : decode cX6_ownDuty 89 = .ok (.imul, 1) := by decide +kernel
theorem dX6_ownDuty_90 : decode cX6_ownDuty 90 = .ok (.iload 7, 2) := by decide +kernel
theorem dX6_ownDuty_92 : decode cX6_ownDuty 92 = .ok (.iadd, 1) := by decide +kernel
theorem dX6_ownDuty_93 : decode cX6_ownDuty 93 = .ok (.iaload, 1) := by decide +kernel
theorem dX6_ownDuty_94 : decode cX6_ownDuty 94 = .ok (.iload 5, 2) := by decide +kernel
theorem dX6_ownDuty_96 : decode cX6_ownDuty 96 = .ok (.if_icmp .gt 8, 3) := by decide +kernel
theorem dX6_ownDuty_99 : decode cX6_ownDuty 99 = .ok (.iload 7, 2) := by decide +kernel
theorem dX6_ownDuty_101 : decode cX6_ownDuty 101 = .ok (.goto 5, 3) := by decide +kernel
theorem dX6_ownDuty_104 : decode cX6_ownDuty 104 = .ok (.iload 6, 2) := by decide +kernel
theorem dX6_ownDuty_106 : decode cX6_ownDuty 106 = .ok (.istore 6, 2) := by decide +kernel
theorem dX6_ownDuty_108 : decode cX6_ownDuty 108 = .ok (.iinc 7 1, 3) := by decide +kernel
theorem dX6_ownDuty_111 : decode cX6_ownDuty 111 = .ok (.goto (-42), 3) := by decide +kernel
theorem dX6_ownDuty_114 : decode cX6_ownDuty 114 = .ok (.aload_n 0, 1) := by decide +kernel
theorem dX6_ownDuty_115 : decode cX6_ownDuty 115 = .ok (.getfield 46, 3) := by decide +kernel
theorem dX6_ownDuty_118 : decode cX6_ownDuty 118 = .ok (.bipush 8, 2) := by decide +kernel
theorem dX6_ownDuty_120 : decode cX6_ownDuty 120 = .ok (.iload 4, 2) := by decide +kernel
theorem dX6_ownDuty_122 : decode cX6_ownDuty 122 = .ok (.imul, 1) := by decide +kernel
theorem dX6_ownDuty_123 : decode cX6_ownDuty 123 = .ok (.iload 6, 2) := by decide +kernel
theorem dX6_ownDuty_125 : decode cX6_ownDuty 125 = .ok (.iadd, 1) := by decide +kernel
theorem dX6_ownDuty_126 : decode cX6_ownDuty 126 = .ok (.iaload, 1) := by decide +kernel
theorem dX6_ownDuty_127 : decode cX6_ownDuty 127 = .ok (.ireturn, 1) := by decide +kernel
set_option maxRecDepth 20000 in
theorem ggX6_dutyAt_X6_ownDuty : GoodIn wsX6_dutyAt wsX6_ownDuty := goodIn_r _ [8, 9, 10, 11, 12, 13, 14, 15, 16, 7, 17, 18, 19, 20, 21, 22, 23, 24, 25, 26, 27, 28, 29, 30, 31, 32, 33, 34, 35, 36, 37, 38, 39, 40, 41, 42, 43, 44, 45, 46, 47, 48, 49, 50, 51, 52, 53, 54, 55, 56, 57, 58, 59, 60, 61, 62, 63, 64, 65, 66, 67, 68, 69, 70, 71, 72, 73] (by decide +kernel) (by decide +kernel)
set_option maxRecDepth 20000 in
theorem gX6_dutyAt_X6_ownDuty : GoodIn wsX6_dutyAt (wsV RX6 133 RX6 yX6_ownDuty wsX6_ownDuty) := goodIn_app (goodIn_of _ (by decide +kernel)) ggX6_dutyAt_X6_ownDuty
theorem dX6_dutyAt_0 : decode cX6_dutyAt 0 = .ok (.aload_n 0, 1) := by decide +kernel
theorem dX6_dutyAt_1 : decode cX6_dutyAt 1 = .ok (.getfield 49, 3) := by decide +kernel
theorem dX6_dutyAt_4 : decode cX6_dutyAt 4 = .ok (.iload_n 1, 1) := by decide +kernel
theorem dX6_dutyAt_5 : decode cX6_dutyAt 5 = .ok (.iaload, 1) := by decide +kernel
theorem dX6_dutyAt_6 : decode cX6_dutyAt 6 = .ok (.istore 4, 2) := by decide +kernel
theorem dX6_dutyAt_8 : decode cX6_dutyAt 8 = .ok (.iload 4, 2) := by decide +kernel
theorem dX6_dutyAt_10 : decode cX6_dutyAt 10 = .ok (.iconst (-1), 1) := by decide +kernel
theorem dX6_dutyAt_11 : decode cX6_dutyAt 11 = .ok (.if_icmp .ne 13, 3) := by decide +kernel
theorem dX6_dutyAt_14 : decode cX6_dutyAt 14 = .ok (.aload_n 0, 1) := by decide +kernel
theorem dX6_dutyAt_15 : decode cX6_dutyAt 15 = .ok (.iload_n 1, 1) := by decide +kernel
theorem dX6_dutyAt_16 : decode cX6_dutyAt 16 = .ok (.iload_n 2, 1) := by decide +kernel
theorem dX6_dutyAt_17 : decode cX6_dutyAt 17 = .ok (.iload_n 3, 1) := by decide +kernel
theorem dX6_dutyAt_18 : decode cX6_dutyAt 18 = .ok (.invokevirtual 133, 3) := by decide +kernel
theorem dX6_dutyAt_21 : decode cX6_dutyAt 21 = .ok (.goto 25, 3) := by decide +kernel
theorem dX6_dutyAt_24 : decode cX6_dutyAt 24 = .ok (.aload_n 0, 1) := by decide +kernel
theorem dX6_dutyAt_25 : decode cX6_dutyAt 25 = .ok (.iload 4, 2) := by decide +kernel
theorem dX6_dutyAt_27 : decode cX6_dutyAt 27 = .ok (.iload_n 2, 1) := by decide +kernel
theorem dX6_dutyAt_28 : decode cX6_dutyAt 28 = .ok (.iload_n 3, 1) := by decide +kernel
theorem dX6_dutyAt_29 : decode cX6_dutyAt 29 = .ok (.invokevirtual 133, 3) := by decide +kernel
theorem dX6_dutyAt_32 : decode cX6_dutyAt 32 = .ok (.aload_n 0, 1) := by decide +kernel
theorem dX6_dutyAt_33 : decode cX6_dutyAt 33 = .ok (.getfield 52, 3) := by decide +kernel
theorem dX6_dutyAt_36 : decode cX6_dutyAt 36 = .ok (.iload_n 1, 1) := by decide +kernel
theorem dX6_dutyAt_37 : decode cX6_dutyAt 37 = .ok (.iaload, 1) := by decide +kernel
theorem dX6_dutyAt_38 : decode cX6_dutyAt 38 = .ok (.imul, 1) := by decide +kernel
theorem dX6_dutyAt_39 : decode cX6_dutyAt 39 = .ok (.aload_n 0, 1) := by decide +kernel
theorem dX6_dutyAt_40 : decode cX6_dutyAt 40 = .ok (.getfield 55, 3) := by decide +kernel
theorem dX6_dutyAt_43 : decode cX6_dutyAt 43 = .ok (.iload_n 1, 1) := by decide +kernel
theorem dX6_dutyAt_44 : decode cX6_dutyAt 44 = .ok (.iaload, 1) := by decide +kernel
theorem dX6_dutyAt_45 : decode cX6_dutyAt 45 = .ok (.idiv, 1) := by decide +kernel
theorem dX6_dutyAt_46 : decode cX6_dutyAt 46 = .ok (.ireturn, 1) := by decide +kernel
set_option maxRecDepth 20000 in
theorem ggX6_duty_X6_isGrain : GoodIn wsX6_duty wsX6_isGrain := goodIn_r _ [4, 5, 6, 3, 7] (by decide +kernel) (by decide +kernel)
set_option maxRecDepth 20000 in
theorem gX6_duty_X6_isGrain : GoodIn wsX6_duty (va_wsS RX6 105 yX6_isGrain wsX6_isGrain) := goodIn_app (goodIn_of _ (by decide +kernel)) ggX6_duty_X6_isGrain
set_option maxRecDepth 20000 in
theorem ggX6_duty_X6_in : GoodIn wsX6_duty wsX6_in := goodIn_r _ [7] (by decide +kernel) (by decide +kernel)
set_option maxRecDepth 20000 in
theorem gX6_duty_X6_in : GoodIn wsX6_duty (va_wsS RX6 92 yX6_in wsX6_in) := goodIn_app (goodIn_of _ (by decide +kernel)) ggX6_duty_X6_in
set_option maxRecDepth 20000 in
theorem ggX6_duty_X6_dutyAt : GoodIn wsX6_duty wsX6_dutyAt := goodIn_r _ [11, 12, 13, 14, 15, 16, 17, 3, 18, 19, 20, 21, 22, 23, 24, 25, 26, 27, 28, 29, 30, 31, 32, 33, 34, 35, 36, 37, 38, 39, 40, 41, 42, 43, 44, 45, 46, 47, 48, 49, 50, 51, 52, 53, 54, 55, 56, 57, 58, 59, 60, 61, 62, 63, 64, 65, 66, 67, 68, 69, 70, 71, 72, 73, 74, 75, 76, 77, 78, 79, 80, 81, 82, 83] (by decide +kernel) (by decide +kernel)
set_option maxRecDepth 20000 in
theorem gX6_duty_X6_dutyAt : GoodIn wsX6_duty (wsV RX6 136 RX6 yX6_dutyAt wsX6_dutyAt) := goodIn_app (goodIn_of _ (by decide +kernel)) ggX6_duty_X6_dutyAt
theorem dX6_duty_0 : decode cX6_duty 0 = .ok (.iload_n 1, 1) := by decide +kernel
theorem dX6_duty_1 : decode cX6_duty 1 = .ok (.invokestatic 105, 3) := by decide +kernel
theorem dX6_duty_4 : decode cX6_duty 4 = .ok (.ifCond .eq 24, 3) := by decide +kernel
theorem dX6_duty_7 : decode cX6_duty 7 = .ok (.iload_n 2, 1) := by decide +kernel
theorem dX6_duty_8 : decode cX6_duty 8 = .ok (.iconst 0, 1) := by decide +kernel
theorem dX6_duty_9 : decode cX6_duty 9 = .ok (.sipush 220, 3) := by decide +kernel
theorem dX6_duty_12 : decode cX6_duty 12 = .ok (.invokestatic 92, 3) := by decide +kernel
theorem dX6_duty_15 : decode cX6_duty 15 = .ok (.ifCond .eq 13, 3) := by decide +kernel
theorem dX6_duty_18 : decode cX6_duty 18 = .ok (.aload_n 0, 1) := by decide +kernel
theorem dX6_duty_19 : decode cX6_duty 19 = .ok (.iload_n 1, 1) := by decide +kernel
theorem dX6_duty_20 : decode cX6_duty 20 = .ok (.iload_n 2, 1) := by decide +kernel
theorem dX6_duty_21 : decode cX6_duty 21 = .ok (.iload_n 2, 1) := by decide +kernel
theorem dX6_duty_22 : decode cX6_duty 22 = .ok (.invokevirtual 136, 3) := by decide +kernel
theorem dX6_duty_25 : decode cX6_duty 25 = .ok (.goto 5, 3) := by decide +kernel
theorem dX6_duty_28 : decode cX6_duty 28 = .ok (.bipush (-2), 2) := by decide +kernel
theorem dX6_duty_30 : decode cX6_duty 30 = .ok (.ireturn, 1) := by decide +kernel
set_option maxRecDepth 20000 in
theorem ggX6_cargo_X6_isGrain : GoodIn wsX6_cargo wsX6_isGrain := goodIn_r _ [12, 13, 14, 11, 15] (by decide +kernel) (by decide +kernel)
set_option maxRecDepth 20000 in
theorem gX6_cargo_X6_isGrain : GoodIn wsX6_cargo (va_wsS RX6 105 yX6_isGrain wsX6_isGrain) := goodIn_app (goodIn_of _ (by decide +kernel)) ggX6_cargo_X6_isGrain
set_option maxRecDepth 20000 in
theorem ggX6_cargo_X6_in : GoodIn wsX6_cargo wsX6_in := goodIn_r _ [15] (by decide +kernel) (by decide +kernel)
set_option maxRecDepth 20000 in
theorem gX6_cargo_X6_in : GoodIn wsX6_cargo (va_wsS RX6 92 yX6_in wsX6_in) := goodIn_app (goodIn_of _ (by decide +kernel)) ggX6_cargo_X6_in
theorem dX6_cargo_0 : decode cX6_cargo 0 = .ok (.iload_n 1, 1) := by decide +kernel
theorem dX6_cargo_1 : decode cX6_cargo 1 = .ok (.invokestatic 105, 3) := by decide +kernel
theorem dX6_cargo_4 : decode cX6_cargo 4 = .ok (.ifCond .eq 14, 3) := by decide +kernel
theorem dX6_cargo_7 : decode cX6_cargo 7 = .ok (.iload_n 2, 1) := by decide +kernel
theorem dX6_cargo_8 : decode cX6_cargo 8 = .ok (.iconst 1, 1) := by decide +kernel
theorem dX6_cargo_9 : decode cX6_cargo 9 = .ok (.sipush 10000, 3) := by decide +kernel
theorem dX6_cargo_12 : decode cX6_cargo 12 = .ok (.invokestatic 92, 3) := by decide +kernel
theorem dX6_cargo_15 : decode cX6_cargo 15 = .ok (.ifCond .ne 6, 3) := by decide +kernel
theorem dX6_cargo_18 : decode cX6_cargo 18 = .ok (.bipush (-2), 2) := by decide +kernel
theorem dX6_cargo_20 : decode cX6_cargo 20 = .ok (.ireturn, 1) := by decide +kernel
theorem dX6_cargo_21 : decode cX6_cargo 21 = .ok (.aload_n 0, 1) := by decide +kernel
theorem dX6_cargo_22 : decode cX6_cargo 22 = .ok (.getfield 99, 3) := by decide +kernel
theorem dX6_cargo_25 : decode cX6_cargo 25 = .ok (.bipush 20, 2) := by decide +kernel
theorem dX6_cargo_27 : decode cX6_cargo 27 = .ok (.if_icmp .ne 6, 3) := by decide +kernel
theorem dX6_cargo_30 : decode cX6_cargo 30 = .ok (.bipush (-4), 2) := by decide +kernel
theorem dX6_cargo_32 : decode cX6_cargo 32 = .ok (.ireturn, 1) := by decide +kernel
theorem dX6_cargo_33 : decode cX6_cargo 33 = .ok (.aload_n 0, 1) := by decide +kernel
theorem dX6_cargo_34 : decode cX6_cargo 34 = .ok (.getfield 58, 3) := by decide +kernel
theorem dX6_cargo_37 : decode cX6_cargo 37 = .ok (.aload_n 0, 1) := by decide +kernel
theorem dX6_cargo_38 : decode cX6_cargo 38 = .ok (.getfield 99, 3) := by decide +kernel
theorem dX6_cargo_41 : decode cX6_cargo 41 = .ok (.iload_n 1, 1) := by decide +kernel
theorem dX6_cargo_42 : decode cX6_cargo 42 = .ok (.iastore, 1) := by decide +kernel
theorem dX6_cargo_43 : decode cX6_cargo 43 = .ok (.aload_n 0, 1) := by decide +kernel
theorem dX6_cargo_44 : decode cX6_cargo 44 = .ok (.getfield 61, 3) := by decide +kernel
theorem dX6_cargo_47 : decode cX6_cargo 47 = .ok (.aload_n 0, 1) := by decide +kernel
theorem dX6_cargo_48 : decode cX6_cargo 48 = .ok (.getfield 99, 3) := by decide +kernel
theorem dX6_cargo_51 : decode cX6_cargo 51 = .ok (.iload_n 2, 1) := by decide +kernel
theorem dX6_cargo_52 : decode cX6_cargo 52 = .ok (.iastore, 1) := by decide +kernel
theorem dX6_cargo_53 : decode cX6_cargo 53 = .ok (.aload_n 0, 1) := by decide +kernel
theorem dX6_cargo_54 : decode cX6_cargo 54 = .ok (.getfield 64, 3) := by decide +kernel
theorem dX6_cargo_57 : decode cX6_cargo 57 = .ok (.aload_n 0, 1) := by decide +kernel
theorem dX6_cargo_58 : decode cX6_cargo 58 = .ok (.getfield 99, 3) := by decide +kernel
theorem dX6_cargo_61 : decode cX6_cargo 61 = .ok (.iconst 0, 1) := by decide +kernel
theorem dX6_cargo_62 : decode cX6_cargo 62 = .ok (.iastore, 1) := by decide +kernel
theorem dX6_cargo_63 : decode cX6_cargo 63 = .ok (.aload_n 0, 1) := by decide +kernel
theorem dX6_cargo_64 : decode cX6_cargo 64 = .ok (.getfield 67, 3) := by decide +kernel
theorem dX6_cargo_67 : decode cX6_cargo 67 = .ok (.aload_n 0, 1) := by decide +kernel
theorem dX6_cargo_68 : decode cX6_cargo 68 = .ok (.getfield 99, 3) := by decide +kernel
theorem dX6_cargo_71 : decode cX6_cargo 71 = .ok (.iconst 0, 1) := by decide +kernel
theorem dX6_cargo_72 : decode cX6_cargo 72 = .ok (.iastore, 1) := by decide +kernel
theorem dX6_cargo_73 : decode cX6_cargo 73 = .ok (.aload_n 0, 1) := by decide +kernel
theorem dX6_cargo_74 : decode cX6_cargo 74 = .ok (.getfield 70, 3) := by decide +kernel
theorem dX6_cargo_77 : decode cX6_cargo 77 = .ok (.aload_n 0, 1) := by decide +kernel
theorem dX6_cargo_78 : decode cX6_cargo 78 = .ok (.getfield 99, 3) := by decide +kernel
theorem dX6_cargo_81 : decode cX6_cargo 81 = .ok (.iconst 0, 1) := by decide +kernel
theorem dX6_cargo_82 : decode cX6_cargo 82 = .ok (.iastore, 1) := by decide +kernel
theorem dX6_cargo_83 : decode cX6_cargo 83 = .ok (.aload_n 0, 1) := by decide +kernel
theorem dX6_cargo_84 : decode cX6_cargo 84 = .ok (.getfield 73, 3) := by decide +kernel
theorem dX6_cargo_87 : decode cX6_cargo 87 = .ok (.aload_n 0, 1) := by decide +kernel
theorem dX6_cargo_88 : decode cX6_cargo 88 = .ok (.getfield 99, 3) := by decide +kernel
theorem dX6_cargo_91 : decode cX6_cargo 91 = .ok (.aload_n 0, 1) := by decide +kernel
theorem dX6_cargo_92 : decode cX6_cargo 92 = .ok (.getfield 96, 3) := by decide +kernel
theorem dX6_cargo_95 : decode cX6_cargo 95 = .ok (.iastore, 1) := by decide +kernel
theorem dX6_cargo_96 : decode cX6_cargo 96 = .ok (.aload_n 0, 1) := by decide +kernel
theorem dX6_cargo_97 : decode cX6_cargo 97 = .ok (.dup, 1) := by decide +kernel
theorem dX6_cargo_98 : decode cX6_cargo 98 = .ok (.getfield 99, 3) := by decide +kernel
theorem dX6_cargo_101 : decode cX6_cargo 101 = .ok (.iconst 1, 1) := by decide +kernel
theorem dX6_cargo_102 : decode cX6_cargo 102 = .ok (.iadd, 1) := by decide +kernel
theorem dX6_cargo_103 : decode cX6_cargo 103 = .ok (.putfield 99, 3) := by decide +kernel
theorem dX6_cargo_106 : decode cX6_cargo 106 = .ok (.aload_n 0, 1) := by decide +kernel
theorem dX6_cargo_107 : decode cX6_cargo 107 = .ok (.getfield 99, 3) := by decide +kernel
theorem dX6_cargo_110 : decode cX6_cargo 110 = .ok (.iconst 1, 1) := by decide +kernel
theorem dX6_cargo_111 : decode cX6_cargo 111 = .ok (.isub, 1) := by decide +kernel
theorem dX6_cargo_112 : decode cX6_cargo 112 = .ok (.ireturn, 1) := by decide +kernel
set_option maxRecDepth 20000 in
theorem ggX6_isCargo_X6_in : GoodIn wsX6_isCargo wsX6_in := goodIn_r _ [5] (by decide +kernel) (by decide +kernel)
set_option maxRecDepth 20000 in
theorem gX6_isCargo_X6_in : GoodIn wsX6_isCargo (va_wsS RX6 92 yX6_in wsX6_in) := goodIn_app (goodIn_of _ (by decide +kernel)) ggX6_isCargo_X6_in
theorem dX6_isCargo_0 : decode cX6_isCargo 0 = .ok (.iload_n 1, 1) := by decide +kernel
theorem dX6_isCargo_1 : decode cX6_isCargo 1 = .ok (.iconst 0, 1) := by decide +kernel
theorem dX6_isCargo_2 : decode cX6_isCargo 2 = .ok (.aload_n 0, 1) := by decide +kernel
theorem dX6_isCargo_3 : decode cX6_isCargo 3 = .ok (.getfield 99, 3) := by decide +kernel
theorem dX6_isCargo_6 : decode cX6_isCargo 6 = .ok (.iconst 1, 1) := by decide +kernel
theorem dX6_isCargo_7 : decode cX6_isCargo 7 = .ok (.isub, 1) := by decide +kernel
theorem dX6_isCargo_8 : decode cX6_isCargo 8 = .ok (.invokestatic 92, 3) := by decide +kernel
theorem dX6_isCargo_11 : decode cX6_isCargo 11 = .ok (.ireturn, 1) := by decide +kernel
set_option maxRecDepth 20000 in
theorem ggX6_spoil_X6_in : GoodIn wsX6_spoil wsX6_in := goodIn_r _ [5] (by decide +kernel) (by decide +kernel)
set_option maxRecDepth 20000 in
theorem gX6_spoil_X6_in : GoodIn wsX6_spoil (va_wsS RX6 92 yX6_in wsX6_in) := goodIn_app (goodIn_of _ (by decide +kernel)) ggX6_spoil_X6_in
theorem dX6_spoil_0 : decode cX6_spoil 0 = .ok (.iload_n 1, 1) := by decide +kernel
theorem dX6_spoil_1 : decode cX6_spoil 1 = .ok (.iconst 0, 1) := by decide +kernel
theorem dX6_spoil_2 : decode cX6_spoil 2 = .ok (.bipush 100, 2) := by decide +kernel
theorem dX6_spoil_4 : decode cX6_spoil 4 = .ok (.invokestatic 92, 3) := by decide +kernel
theorem dX6_spoil_7 : decode cX6_spoil 7 = .ok (.ifCond .ne 6, 3) := by decide +kernel
theorem dX6_spoil_10 : decode cX6_spoil 10 = .ok (.bipush (-2), 2) := by decide +kernel
theorem dX6_spoil_12 : decode cX6_spoil 12 = .ok (.ireturn, 1) := by decide +kernel
theorem dX6_spoil_13 : decode cX6_spoil 13 = .ok (.aload_n 0, 1) := by decide +kernel
theorem dX6_spoil_14 : decode cX6_spoil 14 = .ok (.getfield 102, 3) := by decide +kernel
theorem dX6_spoil_17 : decode cX6_spoil 17 = .ok (.istore_n 2, 1) := by decide +kernel
theorem dX6_spoil_18 : decode cX6_spoil 18 = .ok (.aload_n 0, 1) := by decide +kernel
theorem dX6_spoil_19 : decode cX6_spoil 19 = .ok (.iload_n 1, 1) := by decide +kernel
theorem dX6_spoil_20 : decode cX6_spoil 20 = .ok (.putfield 102, 3) := by decide +kernel
theorem dX6_spoil_23 : decode cX6_spoil 23 = .ok (.iload_n 2, 1) := by decide +kernel
theorem dX6_spoil_24 : decode cX6_spoil 24 = .ok (.ireturn, 1) := by decide +kernel
set_option maxRecDepth 20000 in
theorem ggX6_letOut_X6_isCargo : GoodIn wsX6_letOut wsX6_isCargo := goodIn_r _ [17, 18, 19, 20, 16, 21, 64, 65, 66, 67, 68, 69, 70, 71, 72, 73, 74, 75, 76, 77, 78, 79, 80, 81, 82, 83, 84, 85, 86, 87, 88, 89, 90, 91, 92, 93, 94, 95, 96, 97] (by decide +kernel) (by decide +kernel)
set_option maxRecDepth 20000 in
theorem gX6_letOut_X6_isCargo : GoodIn wsX6_letOut (wsV RX6 139 RX6 yX6_isCargo wsX6_isCargo) := goodIn_app (goodIn_of _ (by decide +kernel)) ggX6_letOut_X6_isCargo
set_option maxRecDepth 20000 in
theorem ggX6_letOut_X6_in : GoodIn wsX6_letOut wsX6_in := goodIn_r _ [21] (by decide +kernel) (by decide +kernel)
set_option maxRecDepth 20000 in
theorem gX6_letOut_X6_in : GoodIn wsX6_letOut (va_wsS RX6 92 yX6_in wsX6_in) := goodIn_app (goodIn_of _ (by decide +kernel)) ggX6_letOut_X6_in
set_option maxRecDepth 20000 in
theorem ggX6_letOut_X6_dutyAt : GoodIn wsX6_letOut wsX6_dutyAt := goodIn_r _ [25, 26, 27, 28, 29, 30, 31, 16, 32, 33, 34, 35, 36, 37, 38, 39, 40, 41, 42, 43, 44, 45, 46, 47, 48, 49, 50, 51, 52, 53, 54, 55, 56, 57, 58, 59, 60, 61, 62, 63, 64, 65, 66, 67, 68, 69, 70, 71, 72, 73, 74, 75, 76, 77, 78, 79, 80, 81, 82, 83, 84, 85, 86, 87, 88, 89, 90, 91, 92, 93, 94, 95, 96, 97] (by decide +kernel) (by decide +kernel)
set_option maxRecDepth 20000 in
theorem gX6_letOut_X6_dutyAt : GoodIn wsX6_letOut (wsV RX6 136 RX6 yX6_dutyAt wsX6_dutyAt) := goodIn_app (goodIn_of _ (by decide +kernel)) ggX6_letOut_X6_dutyAt
theorem dX6_letOut_0 : decode cX6_letOut 0 = .ok (.aload_n 0, 1) := by decide +kernel
theorem dX6_letOut_1 : decode cX6_letOut 1 = .ok (.iload_n 1, 1) := by decide +kernel
theorem dX6_letOut_2 : decode cX6_letOut 2 = .ok (.invokevirtual 139, 3) := by decide +kernel
theorem dX6_letOut_5 : decode cX6_letOut 5 = .ok (.ifCond .eq 14, 3) := by decide +kernel
theorem dX6_letOut_8 : decode cX6_letOut 8 = .ok (.iload_n 2, 1) := by decide +kernel
theorem dX6_letOut_9 : decode cX6_letOut 9 = .ok (.iconst 1, 1) := by decide +kernel
theorem dX6_letOut_10 : decode cX6_letOut 10 = .ok (.sipush 10000, 3) := by decide +kernel
theorem dX6_letOut_13 : decode cX6_letOut 13 = .ok (.invokestatic 92, 3) := by decide +kernel
theorem dX6_letOut_16 : decode cX6_letOut 16 = .ok (.ifCond .ne 7, 3) := by decide +kernel
theorem dX6_letOut_19 : decode cX6_letOut 19 = .ok (.ldc2_w 142, 3) := by decide +kernel
theorem dX6_letOut_22 : decode cX6_letOut 22 = .ok (.lreturn, 1) := by decide +kernel
theorem dX6_letOut_23 : decode cX6_letOut 23 = .ok (.aload_n 0, 1) := by decide +kernel
theorem dX6_letOut_24 : decode cX6_letOut 24 = .ok (.getfield 61, 3) := by decide +kernel
theorem dX6_letOut_27 : decode cX6_letOut 27 = .ok (.iload_n 1, 1) := by decide +kernel
theorem dX6_letOut_28 : decode cX6_letOut 28 = .ok (.iaload, 1) := by decide +kernel
theorem dX6_letOut_29 : decode cX6_letOut 29 = .ok (.iload_n 2, 1) := by decide +kernel
theorem dX6_letOut_30 : decode cX6_letOut 30 = .ok (.if_icmp .ge 7, 3) := by decide +kernel
theorem dX6_letOut_33 : decode cX6_letOut 33 = .ok (.ldc2_w 144, 3) := by decide +kernel
theorem dX6_letOut_36 : decode cX6_letOut 36 = .ok (.lreturn, 1) := by decide +kernel
theorem dX6_letOut_37 : decode cX6_letOut 37 = .ok (.aload_n 0, 1) := by decide +kernel
theorem dX6_letOut_38 : decode cX6_letOut 38 = .ok (.getfield 146, 3) := by decide +kernel
theorem dX6_letOut_41 : decode cX6_letOut 41 = .ok (.bipush 100, 2) := by decide +kernel
theorem dX6_letOut_43 : decode cX6_letOut 43 = .ok (.if_icmp .ne 7, 3) := by decide +kernel
theorem dX6_letOut_46 : decode cX6_letOut 46 = .ok (.ldc2_w 149, 3) := by decide +kernel
theorem dX6_letOut_49 : decode cX6_letOut 49 = .ok (.lreturn, 1) := by decide +kernel
theorem dX6_letOut_50 : decode cX6_letOut 50 = .ok (.iload_n 2, 1) := by decide +kernel
theorem dX6_letOut_51 : decode cX6_letOut 51 = .ok (.i2l, 1) := by decide +kernel
theorem dX6_letOut_52 : decode cX6_letOut 52 = .ok (.aload_n 0, 1) := by decide +kernel
theorem dX6_letOut_53 : decode cX6_letOut 53 = .ok (.aload_n 0, 1) := by decide +kernel
theorem dX6_letOut_54 : decode cX6_letOut 54 = .ok (.getfield 58, 3) := by decide +kernel
theorem dX6_letOut_57 : decode cX6_letOut 57 = .ok (.iload_n 1, 1) := by decide +kernel
theorem dX6_letOut_58 : decode cX6_letOut 58 = .ok (.iaload, 1) := by decide +kernel
theorem dX6_letOut_59 : decode cX6_letOut 59 = .ok (.aload_n 0, 1) := by decide +kernel
theorem dX6_letOut_60 : decode cX6_letOut 60 = .ok (.getfield 96, 3) := by decide +kernel
theorem dX6_letOut_63 : decode cX6_letOut 63 = .ok (.aload_n 0, 1) := by decide +kernel
theorem dX6_letOut_64 : decode cX6_letOut 64 = .ok (.getfield 96, 3) := by decide +kernel
theorem dX6_letOut_67 : decode cX6_letOut 67 = .ok (.invokevirtual 136, 3) := by decide +kernel
theorem dX6_letOut_70 : decode cX6_letOut 70 = .ok (.i2l, 1) := by decide +kernel
theorem dX6_letOut_71 : decode cX6_letOut 71 = .ok (.lmul, 1) := by decide +kernel
theorem dX6_letOut_72 : decode cX6_letOut 72 = .ok (.lstore_n 3, 1) := by decide +kernel
theorem dX6_letOut_73 : decode cX6_letOut 73 = .ok (.aload_n 0, 1) := by decide +kernel
theorem dX6_letOut_74 : decode cX6_letOut 74 = .ok (.getfield 61, 3) := by decide +kernel
theorem dX6_letOut_77 : decode cX6_letOut 77 = .ok (.iload_n 1, 1) := by decide +kernel
theorem dX6_letOut_78 : decode cX6_letOut 78 = .ok (.dup2, 1) := by decide +kernel
theorem dX6_letOut_79 : decode cX6_letOut 79 = .ok (.iaload, 1) := by decide +kernel
theorem dX6_letOut_80 : decode cX6_letOut 80 = .ok (.iload_n 2, 1) := by decide +kernel
theorem dX6_letOut_81 : decode cX6_letOut 81 = .ok (.isub, 1) := by decide +kernel
theorem dX6_letOut_82 : decode cX6_letOut 82 = .ok (.iastore, 1) := by decide +kernel
theorem dX6_letOut_83 : decode cX6_letOut 83 = .ok (.aload_n 0, 1) := by decide +kernel
theorem dX6_letOut_84 : decode cX6_letOut 84 = .ok (.getfield 64, 3) := by decide +kernel
theorem dX6_letOut_87 : decode cX6_letOut 87 = .ok (.iload_n 1, 1) := by decide +kernel
theorem dX6_letOut_88 : decode cX6_letOut 88 = .ok (.dup2, 1) := by decide +kernel
theorem dX6_letOut_89 : decode cX6_letOut 89 = .ok (.iaload, 1) := by decide +kernel
theorem dX6_letOut_90 : decode cX6_letOut 90 = .ok (.iload_n 2, 1) := by decide +kernel
theorem dX6_letOut_91 : decode cX6_letOut 91 = .ok (.iadd, 1) := by decide +kernel
theorem dX6_letOut_92 : decode cX6_letOut 92 = .ok (.iastore, 1) := by decide +kernel
theorem dX6_letOut_93 : decode cX6_letOut 93 = .ok (.aload_n 0, 1) := by decide +kernel
theorem dX6_letOut_94 : decode cX6_letOut 94 = .ok (.getfield 76, 3) := by decide +kernel
theorem dX6_letOut_97 : decode cX6_letOut 97 = .ok (.aload_n 0, 1) := by decide +kernel
theorem dX6_letOut_98 : decode cX6_letOut 98 = .ok (.getfield 146, 3) := by decide +kernel
theorem dX6_letOut_101 : decode cX6_letOut 101 = .ok (.aload_n 0, 1) := by decide +kernel
theorem dX6_letOut_102 : decode cX6_letOut 102 = .ok (.getfield 58, 3) := by decide +kernel
theorem dX6_letOut_105 : decode cX6_letOut 105 = .ok (.iload_n 1, 1) := by decide +kernel
theorem dX6_letOut_106 : decode cX6_letOut 106 = .ok (.iaload, 1) := by decide +kernel
theorem dX6_letOut_107 : decode cX6_letOut 107 = .ok (.iastore, 1) := by decide +kernel
theorem dX6_letOut_108 : decode cX6_letOut 108 = .ok (.aload_n 0, 1) := by decide +kernel
theorem dX6_letOut_109 : decode cX6_letOut 109 = .ok (.getfield 79, 3) := by decide +kernel
theorem dX6_letOut_112 : decode cX6_letOut 112 = .ok (.aload_n 0, 1) := by decide +kernel
theorem dX6_letOut_113 : decode cX6_letOut 113 = .ok (.getfield 146, 3) := by decide +kernel
theorem dX6_letOut_116 : decode cX6_letOut 116 = .ok (.aload_n 0, 1) := by decide +kernel
theorem dX6_letOut_117 : decode cX6_letOut 117 = .ok (.getfield 96, 3) := by decide +kernel
theorem dX6_letOut_120 : decode cX6_letOut 120 = .ok (.iastore, 1) := by decide +kernel
theorem dX6_letOut_121 : decode cX6_letOut 121 = .ok (.aload_n 0, 1) := by decide +kernel
theorem dX6_letOut_122 : decode cX6_letOut 122 = .ok (.getfield 82, 3) := by decide +kernel
theorem dX6_letOut_125 : decode cX6_letOut 125 = .ok (.aload_n 0, 1) := by decide +kernel
theorem dX6_letOut_126 : decode cX6_letOut 126 = .ok (.getfield 146, 3) := by decide +kernel
theorem dX6_letOut_129 : decode cX6_letOut 129 = .ok (.iload_n 2, 1) := by decide +kernel
theorem dX6_letOut_130 : decode cX6_letOut 130 = .ok (.iastore, 1) := by decide +kernel
theorem dX6_letOut_131 : decode cX6_letOut 131 = .ok (.aload_n 0, 1) := by decide +kernel
theorem dX6_letOut_132 : decode cX6_letOut 132 = .ok (.dup, 1) := by decide +kernel
theorem dX6_letOut_133 : decode cX6_letOut 133 = .ok (.getfield 146, 3) := by decide +kernel
theorem dX6_letOut_136 : decode cX6_letOut 136 = .ok (.iconst 1, 1) := by decide +kernel
theorem dX6_letOut_137 : decode cX6_letOut 137 = .ok (.iadd, 1) := by decide +kernel
theorem dX6_letOut_138 : decode cX6_letOut 138 = .ok (.putfield 146, 3) := by decide +kernel
theorem dX6_letOut_141 : decode cX6_letOut 141 = .ok (.aload_n 0, 1) := by decide +kernel
theorem dX6_letOut_142 : decode cX6_letOut 142 = .ok (.dup, 1) := by decide +kernel
theorem dX6_letOut_143 : decode cX6_letOut 143 = .ok (.getfield 151, 3) := by decide +kernel
theorem dX6_letOut_146 : decode cX6_letOut 146 = .ok (.lload_n 3, 1) := by decide +kernel
theorem dX6_letOut_147 : decode cX6_letOut 147 = .ok (.ladd, 1) := by decide +kernel
theorem dX6_letOut_148 : decode cX6_letOut 148 = .ok (.putfield 151, 3) := by decide +kernel
theorem dX6_letOut_151 : decode cX6_letOut 151 = .ok (.lload_n 3, 1) := by decide +kernel
theorem dX6_letOut_152 : decode cX6_letOut 152 = .ok (.lreturn, 1) := by decide +kernel
set_option maxRecDepth 20000 in
theorem ggX6_ship_X6_isCargo : GoodIn wsX6_ship wsX6_isCargo := goodIn_r _ [7, 8, 9, 10, 6, 11, 12, 13, 14, 15, 16, 17, 18, 19, 20, 21, 22, 23, 24, 25, 26, 27, 28, 29, 30, 31, 32, 33, 34, 35, 36, 37, 38, 39, 40, 41, 42, 43, 44, 45] (by decide +kernel) (by decide +kernel)
set_option maxRecDepth 20000 in
theorem gX6_ship_X6_isCargo : GoodIn wsX6_ship (wsV RX6 139 RX6 yX6_isCargo wsX6_isCargo) := goodIn_app (goodIn_of _ (by decide +kernel)) ggX6_ship_X6_isCargo
set_option maxRecDepth 20000 in
theorem ggX6_ship_X6_in : GoodIn wsX6_ship wsX6_in := goodIn_r _ [11] (by decide +kernel) (by decide +kernel)
set_option maxRecDepth 20000 in
theorem gX6_ship_X6_in : GoodIn wsX6_ship (va_wsS RX6 92 yX6_in wsX6_in) := goodIn_app (goodIn_of _ (by decide +kernel)) ggX6_ship_X6_in
theorem dX6_ship_0 : decode cX6_ship 0 = .ok (.aload_n 0, 1) := by decide +kernel
theorem dX6_ship_1 : decode cX6_ship 1 = .ok (.iload_n 1, 1) := by decide +kernel
theorem dX6_ship_2 : decode cX6_ship 2 = .ok (.invokevirtual 139, 3) := by decide +kernel
theorem dX6_ship_5 : decode cX6_ship 5 = .ok (.ifCond .eq 14, 3) := by decide +kernel
theorem dX6_ship_8 : decode cX6_ship 8 = .ok (.iload_n 2, 1) := by decide +kernel
theorem dX6_ship_9 : decode cX6_ship 9 = .ok (.iconst 1, 1) := by decide +kernel
theorem dX6_ship_10 : decode cX6_ship 10 = .ok (.sipush 10000, 3) := by decide +kernel
theorem dX6_ship_13 : decode cX6_ship 13 = .ok (.invokestatic 92, 3) := by decide +kernel
theorem dX6_ship_16 : decode cX6_ship 16 = .ok (.ifCond .ne 6, 3) := by decide +kernel
theorem dX6_ship_19 : decode cX6_ship 19 = .ok (.bipush (-2), 2) := by decide +kernel
theorem dX6_ship_21 : decode cX6_ship 21 = .ok (.ireturn, 1) := by decide +kernel
theorem dX6_ship_22 : decode cX6_ship 22 = .ok (.aload_n 0, 1) := by decide +kernel
theorem dX6_ship_23 : decode cX6_ship 23 = .ok (.getfield 61, 3) := by decide +kernel
theorem dX6_ship_26 : decode cX6_ship 26 = .ok (.iload_n 1, 1) := by decide +kernel
theorem dX6_ship_27 : decode cX6_ship 27 = .ok (.iaload, 1) := by decide +kernel
theorem dX6_ship_28 : decode cX6_ship 28 = .ok (.iload_n 2, 1) := by decide +kernel
theorem dX6_ship_29 : decode cX6_ship 29 = .ok (.if_icmp .ge 6, 3) := by decide +kernel
theorem dX6_ship_32 : decode cX6_ship 32 = .ok (.bipush (-3), 2) := by decide +kernel
theorem dX6_ship_34 : decode cX6_ship 34 = .ok (.ireturn, 1) := by decide +kernel
theorem dX6_ship_35 : decode cX6_ship 35 = .ok (.aload_n 0, 1) := by decide +kernel
theorem dX6_ship_36 : decode cX6_ship 36 = .ok (.getfield 61, 3) := by decide +kernel
theorem dX6_ship_39 : decode cX6_ship 39 = .ok (.iload_n 1, 1) := by decide +kernel
theorem dX6_ship_40 : decode cX6_ship 40 = .ok (.dup2, 1) := by decide +kernel
theorem dX6_ship_41 : decode cX6_ship 41 = .ok (.iaload, 1) := by decide +kernel
theorem dX6_ship_42 : decode cX6_ship 42 = .ok (.iload_n 2, 1) := by decide +kernel
theorem dX6_ship_43 : decode cX6_ship 43 = .ok (.isub, 1) := by decide +kernel
theorem dX6_ship_44 : decode cX6_ship 44 = .ok (.iastore, 1) := by decide +kernel
theorem dX6_ship_45 : decode cX6_ship 45 = .ok (.aload_n 0, 1) := by decide +kernel
theorem dX6_ship_46 : decode cX6_ship 46 = .ok (.getfield 67, 3) := by decide +kernel
theorem dX6_ship_49 : decode cX6_ship 49 = .ok (.iload_n 1, 1) := by decide +kernel
theorem dX6_ship_50 : decode cX6_ship 50 = .ok (.dup2, 1) := by decide +kernel
theorem dX6_ship_51 : decode cX6_ship 51 = .ok (.iaload, 1) := by decide +kernel
theorem dX6_ship_52 : decode cX6_ship 52 = .ok (.iload_n 2, 1) := by decide +kernel
theorem dX6_ship_53 : decode cX6_ship 53 = .ok (.iadd, 1) := by decide +kernel
theorem dX6_ship_54 : decode cX6_ship 54 = .ok (.iastore, 1) := by decide +kernel
theorem dX6_ship_55 : decode cX6_ship 55 = .ok (.aload_n 0, 1) := by decide +kernel
theorem dX6_ship_56 : decode cX6_ship 56 = .ok (.getfield 61, 3) := by decide +kernel
theorem dX6_ship_59 : decode cX6_ship 59 = .ok (.iload_n 1, 1) := by decide +kernel
theorem dX6_ship_60 : decode cX6_ship 60 = .ok (.iaload, 1) := by decide +kernel
theorem dX6_ship_61 : decode cX6_ship 61 = .ok (.ireturn, 1) := by decide +kernel
set_option maxRecDepth 20000 in
theorem ggX6_bond_X6_isCargo : GoodIn wsX6_bond wsX6_isCargo := goodIn_r _ [11, 12, 13, 14, 10, 15, 16, 17, 18, 19, 20, 21, 22, 23, 24, 25, 26, 27, 28, 29, 30, 31, 32, 33, 34, 35, 36, 37, 38, 39, 40, 41, 42, 43, 44, 45, 46, 47, 48, 49] (by decide +kernel) (by decide +kernel)
set_option maxRecDepth 20000 in
theorem gX6_bond_X6_isCargo : GoodIn wsX6_bond (wsV RX6 139 RX6 yX6_isCargo wsX6_isCargo) := goodIn_app (goodIn_of _ (by decide +kernel)) ggX6_bond_X6_isCargo
theorem dX6_bond_0 : decode cX6_bond 0 = .ok (.aload_n 0, 1) := by decide +kernel
theorem dX6_bond_1 : decode cX6_bond 1 = .ok (.iload_n 1, 1) := by decide +kernel
theorem dX6_bond_2 : decode cX6_bond 2 = .ok (.invokevirtual 139, 3) := by decide +kernel
theorem dX6_bond_5 : decode cX6_bond 5 = .ok (.ifCond .ne 6, 3) := by decide +kernel
theorem dX6_bond_8 : decode cX6_bond 8 = .ok (.bipush (-2), 2) := by decide +kernel
theorem dX6_bond_10 : decode cX6_bond 10 = .ok (.ireturn, 1) := by decide +kernel
theorem dX6_bond_11 : decode cX6_bond 11 = .ok (.iload_n 2, 1) := by decide +kernel
theorem dX6_bond_12 : decode cX6_bond 12 = .ok (.tableswitch 82 0 5 #[40, 47, 54, 61, 68, 75], 40) := by decide +kernel
theorem dX6_bond_52 : decode cX6_bond 52 = .ok (.aload_n 0, 1) := by decide +kernel
theorem dX6_bond_53 : decode cX6_bond 53 = .ok (.getfield 58, 3) := by decide +kernel
theorem dX6_bond_56 : decode cX6_bond 56 = .ok (.iload_n 1, 1) := by decide +kernel
theorem dX6_bond_57 : decode cX6_bond 57 = .ok (.iaload, 1) := by decide +kernel
theorem dX6_bond_58 : decode cX6_bond 58 = .ok (.ireturn, 1) := by decide +kernel
theorem dX6_bond_59 : decode cX6_bond 59 = .ok (.aload_n 0, 1) := by decide +kernel
theorem dX6_bond_60 : decode cX6_bond 60 = .ok (.getfield 61, 3) := by decide +kernel
theorem dX6_bond_63 : decode cX6_bond 63 = .ok (.iload_n 1, 1) := by decide +kernel
theorem dX6_bond_64 : decode cX6_bond 64 = .ok (.iaload, 1) := by decide +kernel
theorem dX6_bond_65 : decode cX6_bond 65 = .ok (.ireturn, 1) := by decide +kernel
theorem dX6_bond_66 : decode cX6_bond 66 = .ok (.aload_n 0, 1) := by decide +kernel
theorem dX6_bond_67 : decode cX6_bond 67 = .ok (.getfield 64, 3) := by decide +kernel
theorem dX6_bond_70 : decode cX6_bond 70 = .ok (.iload_n 1, 1) := by decide +kernel
theorem dX6_bond_71 : decode cX6_bond 71 = .ok (.iaload, 1) := by decide +kernel
theorem dX6_bond_72 : decode cX6_bond 72 = .ok (.ireturn, 1) := by decide +kernel
theorem dX6_bond_73 : decode cX6_bond 73 = .ok (.aload_n 0, 1) := by decide +kernel
theorem dX6_bond_74 : decode cX6_bond 74 = .ok (.getfield 67, 3) := by decide +kernel
theorem dX6_bond_77 : decode cX6_bond 77 = .ok (.iload_n 1, 1) := by decide +kernel
theorem dX6_bond_78 : decode cX6_bond 78 = .ok (.iaload, 1) := by decide +kernel
theorem dX6_bond_79 : decode cX6_bond 79 = .ok (.ireturn, 1) := by decide +kernel
theorem dX6_bond_80 : decode cX6_bond 80 = .ok (.aload_n 0, 1) := by decide +kernel
theorem dX6_bond_81 : decode cX6_bond 81 = .ok (.getfield 70, 3) := by decide +kernel
theorem dX6_bond_84 : decode cX6_bond 84 = .ok (.iload_n 1, 1) := by decide +kernel
theorem dX6_bond_85 : decode cX6_bond 85 = .ok (.iaload, 1) := by decide +kernel
theorem dX6_bond_86 : decode cX6_bond 86 = .ok (.ireturn, 1) := by decide +kernel
theorem dX6_bond_87 : decode cX6_bond 87 = .ok (.aload_n 0, 1) := by decide +kernel
theorem dX6_bond_88 : decode cX6_bond 88 = .ok (.getfield 73, 3) := by decide +kernel
theorem dX6_bond_91 : decode cX6_bond 91 = .ok (.iload_n 1, 1) := by decide +kernel
theorem dX6_bond_92 : decode cX6_bond 92 = .ok (.iaload, 1) := by decide +kernel
theorem dX6_bond_93 : decode cX6_bond 93 = .ok (.ireturn, 1) := by decide +kernel
theorem dX6_bond_94 : decode cX6_bond 94 = .ok (.bipush (-2), 2) := by decide +kernel
theorem dX6_bond_96 : decode cX6_bond 96 = .ok (.ireturn, 1) := by decide +kernel
theorem dX6_chest_0 : decode cX6_chest 0 = .ok (.aload_n 0, 1) := by decide +kernel
theorem dX6_chest_1 : decode cX6_chest 1 = .ok (.getfield 151, 3) := by decide +kernel
theorem dX6_chest_4 : decode cX6_chest 4 = .ok (.lreturn, 1) := by decide +kernel
set_option maxRecDepth 20000 in
theorem ggX6_paidAnew_X6_dutyAt : GoodIn wsX6_paidAnew wsX6_dutyAt := goodIn_r _ [9, 10, 11, 12, 13, 14, 15, 8, 16, 17, 18, 19, 20, 21, 22, 23, 24, 25, 26, 27, 28, 29, 30, 31, 32, 33, 34, 35, 36, 37, 38, 39, 40, 41, 42, 43, 44, 45, 46, 47, 48, 49, 50, 51, 52, 53, 54, 55, 56, 57, 58, 59, 60, 61, 62, 63, 64, 65, 66, 67, 68, 69, 70, 71, 72, 73, 74, 75, 76, 77, 78, 79, 80, 81] (by decide +kernel) (by decide +kernel)
set_option maxRecDepth 20000 in
theorem gX6_paidAnew_X6_dutyAt : GoodIn wsX6_paidAnew (wsV RX6 136 RX6 yX6_dutyAt wsX6_dutyAt) := goodIn_app (goodIn_of _ (by decide +kernel)) ggX6_paidAnew_X6_dutyAt
theorem dX6_paidAnew_0 : decode cX6_paidAnew 0 = .ok (.lconst 0, 1) := by decide +kernel
theorem dX6_paidAnew_1 : decode cX6_paidAnew 1 = .ok (.lstore_n 1, 1) := by decide +kernel
theorem dX6_paidAnew_2 : decode cX6_paidAnew 2 = .ok (.iconst 0, 1) := by decide +kernel
theorem dX6_paidAnew_3 : decode cX6_paidAnew 3 = .ok (.istore_n 3, 1) := by decide +kernel
theorem dX6_paidAnew_4 : decode cX6_paidAnew 4 = .ok (.iload_n 3, 1) := by decide +kernel
theorem dX6_paidAnew_5 : decode cX6_paidAnew 5 = .ok (.aload_n 0, 1) := by decide +kernel
theorem dX6_paidAnew_6 : decode cX6_paidAnew 6 = .ok (.getfield 146, 3) := by decide +kernel
theorem dX6_paidAnew_9 : decode cX6_paidAnew 9 = .ok (.if_icmp .ge 43, 3) := by decide +kernel
theorem dX6_paidAnew_12 : decode cX6_paidAnew 12 = .ok (.lload_n 1, 1) := by decide +kernel
theorem dX6_paidAnew_13 : decode cX6_paidAnew 13 = .ok (.aload_n 0, 1) := by decide +kernel
theorem dX6_paidAnew_14 : decode cX6_paidAnew 14 = .ok (.getfield 82, 3) := by decide +kernel
theorem dX6_paidAnew_17 : decode cX6_paidAnew 17 = .ok (.iload_n 3, 1) := by decide +kernel
theorem dX6_paidAnew_18 : decode cX6_paidAnew 18 = .ok (.iaload, 1) := by decide +kernel
theorem dX6_paidAnew_19 : decode cX6_paidAnew 19 = .ok (.i2l, 1) := by decide +kernel
theorem dX6_paidAnew_20 : decode cX6_paidAnew 20 = .ok (.aload_n 0, 1) := by decide +kernel
theorem dX6_paidAnew_21 : decode cX6_paidAnew 21 = .ok (.aload_n 0, 1) := by decide +kernel
theorem dX6_paidAnew_22 : decode cX6_paidAnew 22 = .ok (.getfield 76, 3) := by decide +kernel
theorem dX6_paidAnew_25 : decode cX6_paidAnew 25 = .ok (.iload_n 3, 1) := by decide +kernel
theorem dX6_paidAnew_26 : decode cX6_paidAnew 26 = .ok (.iaload, 1) := by decide +kernel
theorem dX6_paidAnew_27 : decode cX6_paidAnew 27 = .ok (.aload_n 0, 1) := by decide +kernel
theorem dX6_paidAnew_28 : decode cX6_paidAnew 28 = .ok (.getfield 79, 3) := by decide +kernel
theorem dX6_paidAnew_31 : decode cX6_paidAnew 31 = .ok (.iload_n 3, 1) := by decide +kernel
theorem dX6_paidAnew_32 : decode cX6_paidAnew 32 = .ok (.iaload, 1) := by decide +kernel
theorem dX6_paidAnew_33 : decode cX6_paidAnew 33 = .ok (.aload_n 0, 1) := by decide +kernel
theorem dX6_paidAnew_34 : decode cX6_paidAnew 34 = .ok (.getfield 79, 3) := by decide +kernel
theorem dX6_paidAnew_37 : decode cX6_paidAnew 37 = .ok (.iload_n 3, 1) := by decide +kernel
theorem dX6_paidAnew_38 : decode cX6_paidAnew 38 = .ok (.iaload, 1) := by decide +kernel
theorem dX6_paidAnew_39 : decode cX6_paidAnew 39 = .ok (.invokevirtual 136, 3) := by decide +kernel
theorem dX6_paidAnew_42 : decode cX6_paidAnew 42 = .ok (.i2l, 1) := by decide +kernel
theorem dX6_paidAnew_43 : decode cX6_paidAnew 43 = .ok (.lmul, 1) := by decide +kernel
theorem dX6_paidAnew_44 : decode cX6_paidAnew 44 = .ok (.ladd, 1) := by decide +kernel
theorem dX6_paidAnew_45 : decode cX6_paidAnew 45 = .ok (.lstore_n 1, 1) := by decide +kernel
theorem dX6_paidAnew_46 : decode cX6_paidAnew 46 = .ok (.iinc 3 1, 3) := by decide +kernel
theorem dX6_paidAnew_49 : decode cX6_paidAnew 49 = .ok (.goto (-45), 3) := by decide +kernel
theorem dX6_paidAnew_52 : decode cX6_paidAnew 52 = .ok (.lload_n 1, 1) := by decide +kernel
theorem dX6_paidAnew_53 : decode cX6_paidAnew 53 = .ok (.lreturn, 1) := by decide +kernel
set_option maxRecDepth 20000 in
theorem ggX6_worth_X6_in : GoodIn wsX6_worth wsX6_in := goodIn_r _ [8] (by decide +kernel) (by decide +kernel)
set_option maxRecDepth 20000 in
theorem gX6_worth_X6_in : GoodIn wsX6_worth (va_wsS RX6 92 yX6_in wsX6_in) := goodIn_app (goodIn_of _ (by decide +kernel)) ggX6_worth_X6_in
set_option maxRecDepth 20000 in
theorem ggX6_worth_X6_paidAnew : GoodIn wsX6_worth wsX6_paidAnew := goodIn_r _ [12, 13, 14, 15, 16, 17, 18, 19, 7, 20, 21, 22, 23, 24, 25, 26, 27, 28, 29, 30, 31, 32, 33, 34, 35, 36, 37, 38, 39, 40, 41, 42, 43, 44, 45, 46, 1, 47, 48, 49, 50, 51, 52, 53, 54, 3, 55, 56, 57, 58, 59, 60, 61, 62, 63, 64, 65, 66, 67, 68, 69, 70, 71, 72, 73, 74, 75, 76, 77, 78, 79, 80, 81, 82, 83, 84, 85, 86, 87, 88, 89, 90] (by decide +kernel) (by decide +kernel)
set_option maxRecDepth 20000 in
theorem gX6_worth_X6_paidAnew : GoodIn wsX6_worth (wsV RX6 157 RX6 yX6_paidAnew wsX6_paidAnew) := goodIn_app (goodIn_of _ (by decide +kernel)) ggX6_worth_X6_paidAnew
theorem dX6_worth_0 : decode cX6_worth 0 = .ok (.iload_n 1, 1) := by decide +kernel
theorem dX6_worth_1 : decode cX6_worth 1 = .ok (.iconst 0, 1) := by decide +kernel
theorem dX6_worth_2 : decode cX6_worth 2 = .ok (.aload_n 0, 1) := by decide +kernel
theorem dX6_worth_3 : decode cX6_worth 3 = .ok (.getfield 109, 3) := by decide +kernel
theorem dX6_worth_6 : decode cX6_worth 6 = .ok (.iconst 1, 1) := by decide +kernel
theorem dX6_worth_7 : decode cX6_worth 7 = .ok (.isub, 1) := by decide +kernel
theorem dX6_worth_8 : decode cX6_worth 8 = .ok (.invokestatic 92, 3) := by decide +kernel
theorem dX6_worth_11 : decode cX6_worth 11 = .ok (.ifCond .ne 7, 3) := by decide +kernel
theorem dX6_worth_14 : decode cX6_worth 14 = .ok (.ldc2_w 155, 3) := by decide +kernel
theorem dX6_worth_17 : decode cX6_worth 17 = .ok (.lreturn, 1) := by decide +kernel
theorem dX6_worth_18 : decode cX6_worth 18 = .ok (.aload_n 0, 1) := by decide +kernel
theorem dX6_worth_19 : decode cX6_worth 19 = .ok (.iload_n 1, 1) := by decide +kernel
theorem dX6_worth_20 : decode cX6_worth 20 = .ok (.putfield 85, 3) := by decide +kernel
theorem dX6_worth_23 : decode cX6_worth 23 = .ok (.aload_n 0, 1) := by decide +kernel
theorem dX6_worth_24 : decode cX6_worth 24 = .ok (.invokevirtual 157, 3) := by decide +kernel
theorem dX6_worth_27 : decode cX6_worth 27 = .ok (.lstore_n 2, 1) := by decide +kernel
theorem dX6_worth_28 : decode cX6_worth 28 = .ok (.aload_n 0, 1) := by decide +kernel
theorem dX6_worth_29 : decode cX6_worth 29 = .ok (.iconst (-1), 1) := by decide +kernel
theorem dX6_worth_30 : decode cX6_worth 30 = .ok (.putfield 85, 3) := by decide +kernel
theorem dX6_worth_33 : decode cX6_worth 33 = .ok (.lload_n 2, 1) := by decide +kernel
theorem dX6_worth_34 : decode cX6_worth 34 = .ok (.aload_n 0, 1) := by decide +kernel
theorem dX6_worth_35 : decode cX6_worth 35 = .ok (.getfield 151, 3) := by decide +kernel
theorem dX6_worth_38 : decode cX6_worth 38 = .ok (.lsub, 1) := by decide +kernel
theorem dX6_worth_39 : decode cX6_worth 39 = .ok (.lreturn, 1) := by decide +kernel
set_option maxRecDepth 20000 in
theorem ggX6_other_X6_isScale : GoodIn wsX6_other wsX6_isScale := goodIn_r _ [7, 8, 9, 10, 6, 11, 60, 61, 62, 63, 64, 65, 66, 67, 68, 69, 70, 71, 72, 73, 74, 75, 76, 77, 78, 79, 80, 81, 82, 83, 84, 85, 86, 87, 88, 89, 90, 91, 92, 93] (by decide +kernel) (by decide +kernel)
set_option maxRecDepth 20000 in
theorem gX6_other_X6_isScale : GoodIn wsX6_other (wsV RX6 126 RX6 yX6_isScale wsX6_isScale) := goodIn_app (goodIn_of _ (by decide +kernel)) ggX6_other_X6_isScale
set_option maxRecDepth 20000 in
theorem ggX6_other_X6_paidAnew : GoodIn wsX6_other wsX6_paidAnew := goodIn_r _ [15, 16, 17, 18, 19, 20, 21, 22, 6, 23, 24, 25, 26, 27, 28, 29, 30, 2, 31, 32, 33, 34, 35, 36, 37, 38, 8, 39, 40, 41, 42, 43, 44, 45, 46, 47, 48, 49, 50, 51, 52, 53, 54, 55, 56, 57, 58, 59, 60, 61, 62, 63, 64, 65, 66, 67, 68, 69, 70, 71, 72, 73, 74, 75, 76, 77, 78, 79, 80, 81, 82, 83, 84, 85, 86, 87, 88, 89, 90, 91, 92, 93] (by decide +kernel) (by decide +kernel)
set_option maxRecDepth 20000 in
theorem gX6_other_X6_paidAnew : GoodIn wsX6_other (wsV RX6 157 RX6 yX6_paidAnew wsX6_paidAnew) := goodIn_app (goodIn_of _ (by decide +kernel)) ggX6_other_X6_paidAnew
theorem dX6_other_0 : decode cX6_other 0 = .ok (.aload_n 0, 1) := by decide +kernel
theorem dX6_other_1 : decode cX6_other 1 = .ok (.iload_n 1, 1) := by decide +kernel
theorem dX6_other_2 : decode cX6_other 2 = .ok (.invokevirtual 126, 3) := by decide +kernel
theorem dX6_other_5 : decode cX6_other 5 = .ok (.ifCond .ne 7, 3) := by decide +kernel
theorem dX6_other_8 : decode cX6_other 8 = .ok (.ldc2_w 142, 3) := by decide +kernel
theorem dX6_other_11 : decode cX6_other 11 = .ok (.lreturn, 1) := by decide +kernel
theorem dX6_other_12 : decode cX6_other 12 = .ok (.aload_n 0, 1) := by decide +kernel
theorem dX6_other_13 : decode cX6_other 13 = .ok (.iload_n 1, 1) := by decide +kernel
theorem dX6_other_14 : decode cX6_other 14 = .ok (.putfield 89, 3) := by decide +kernel
theorem dX6_other_17 : decode cX6_other 17 = .ok (.aload_n 0, 1) := by decide +kernel
theorem dX6_other_18 : decode cX6_other 18 = .ok (.invokevirtual 157, 3) := by decide +kernel
theorem dX6_other_21 : decode cX6_other 21 = .ok (.lstore_n 2, 1) := by decide +kernel
theorem dX6_other_22 : decode cX6_other 22 = .ok (.aload_n 0, 1) := by decide +kernel
theorem dX6_other_23 : decode cX6_other 23 = .ok (.iconst (-1), 1) := by decide +kernel
theorem dX6_other_24 : decode cX6_other 24 = .ok (.putfield 89, 3) := by decide +kernel
theorem dX6_other_27 : decode cX6_other 27 = .ok (.lload_n 2, 1) := by decide +kernel
theorem dX6_other_28 : decode cX6_other 28 = .ok (.lreturn, 1) := by decide +kernel
set_option maxRecDepth 20000 in
theorem ggX6_gainAt_X6_dutyAt : GoodIn wsX6_gainAt wsX6_dutyAt := goodIn_r _ [9, 10, 11, 12, 13, 14, 15, 8, 16, 17, 18, 19, 20, 21, 22, 23, 24, 25, 26, 27, 28, 29, 30, 31, 32, 33, 34, 35, 36, 37, 38, 39, 40, 41, 42, 43, 44, 45, 46, 47, 48, 49, 50, 51, 52, 53, 54, 55, 56, 57, 58, 59, 60, 61, 62, 63, 64, 65, 66, 67, 68, 69, 70, 71, 72, 73, 74, 75, 76, 77, 78, 79, 80, 81] (by decide +kernel) (by decide +kernel)
set_option maxRecDepth 20000 in
theorem gX6_gainAt_X6_dutyAt : GoodIn wsX6_gainAt (wsV RX6 136 RX6 yX6_dutyAt wsX6_dutyAt) := goodIn_app (goodIn_of _ (by decide +kernel)) ggX6_gainAt_X6_dutyAt
theorem dX6_gainAt_0 : decode cX6_gainAt 0 = .ok (.aload_n 0, 1) := by decide +kernel
theorem dX6_gainAt_1 : decode cX6_gainAt 1 = .ok (.getfield 61, 3) := by decide +kernel
theorem dX6_gainAt_4 : decode cX6_gainAt 4 = .ok (.iload_n 1, 1) := by decide +kernel
theorem dX6_gainAt_5 : decode cX6_gainAt 5 = .ok (.iaload, 1) := by decide +kernel
theorem dX6_gainAt_6 : decode cX6_gainAt 6 = .ok (.istore 4, 2) := by decide +kernel
theorem dX6_gainAt_8 : decode cX6_gainAt 8 = .ok (.aload_n 0, 1) := by decide +kernel
theorem dX6_gainAt_9 : decode cX6_gainAt 9 = .ok (.getfield 96, 3) := by decide +kernel
theorem dX6_gainAt_12 : decode cX6_gainAt 12 = .ok (.istore 5, 2) := by decide +kernel
theorem dX6_gainAt_14 : decode cX6_gainAt 14 = .ok (.iload 5, 2) := by decide +kernel
theorem dX6_gainAt_16 : decode cX6_gainAt 16 = .ok (.iload_n 2, 1) := by decide +kernel
theorem dX6_gainAt_17 : decode cX6_gainAt 17 = .ok (.if_icmp .ge 25, 3) := by decide +kernel
theorem dX6_gainAt_20 : decode cX6_gainAt 20 = .ok (.iload 4, 2) := by decide +kernel
theorem dX6_gainAt_22 : decode cX6_gainAt 22 = .ok (.iload 4, 2) := by decide +kernel
theorem dX6_gainAt_24 : decode cX6_gainAt 24 = .ok (.aload_n 0, 1) := by decide +kernel
theorem dX6_gainAt_25 : decode cX6_gainAt 25 = .ok (.getfield 102, 3) := by decide +kernel
theorem dX6_gainAt_28 : decode cX6_gainAt 28 = .ok (.imul, 1) := by decide +kernel
theorem dX6_gainAt_29 : decode cX6_gainAt 29 = .ok (.sipush 1000, 3) := by decide +kernel
theorem dX6_gainAt_32 : decode cX6_gainAt 32 = .ok (.idiv, 1) := by decide +kernel
theorem dX6_gainAt_33 : decode cX6_gainAt 33 = .ok (.isub, 1) := by decide +kernel
theorem dX6_gainAt_34 : decode cX6_gainAt 34 = .ok (.istore 4, 2) := by decide +kernel
theorem dX6_gainAt_36 : decode cX6_gainAt 36 = .ok (.iinc 5 1, 3) := by decide +kernel
theorem dX6_gainAt_39 : decode cX6_gainAt 39 = .ok (.goto (-25), 3) := by decide +kernel
theorem dX6_gainAt_42 : decode cX6_gainAt 42 = .ok (.iload 4, 2) := by decide +kernel
theorem dX6_gainAt_44 : decode cX6_gainAt 44 = .ok (.i2l, 1) := by decide +kernel
theorem dX6_gainAt_45 : decode cX6_gainAt 45 = .ok (.iload_n 3, 1) := by decide +kernel
theorem dX6_gainAt_46 : decode cX6_gainAt 46 = .ok (.aload_n 0, 1) := by decide +kernel
theorem dX6_gainAt_47 : decode cX6_gainAt 47 = .ok (.aload_n 0, 1) := by decide +kernel
theorem dX6_gainAt_48 : decode cX6_gainAt 48 = .ok (.getfield 58, 3) := by decide +kernel
theorem dX6_gainAt_51 : decode cX6_gainAt 51 = .ok (.iload_n 1, 1) := by decide +kernel
theorem dX6_gainAt_52 : decode cX6_gainAt 52 = .ok (.iaload, 1) := by decide +kernel
theorem dX6_gainAt_53 : decode cX6_gainAt 53 = .ok (.iload_n 2, 1) := by decide +kernel
theorem dX6_gainAt_54 : decode cX6_gainAt 54 = .ok (.aload_n 0, 1) := by decide +kernel
theorem dX6_gainAt_55 : decode cX6_gainAt 55 = .ok (.getfield 96, 3) := by decide +kernel
theorem dX6_gainAt_58 : decode cX6_gainAt 58 = .ok (.invokevirtual 136, 3) := by decide +kernel
theorem dX6_gainAt_61 : decode cX6_gainAt 61 = .ok (.isub, 1) := by decide +kernel
theorem dX6_gainAt_62 : decode cX6_gainAt 62 = .ok (.i2l, 1) := by decide +kernel
theorem dX6_gainAt_63 : decode cX6_gainAt 63 = .ok (.lmul, 1) := by decide +kernel
theorem dX6_gainAt_64 : decode cX6_gainAt 64 = .ok (.lreturn, 1) := by decide +kernel
set_option maxRecDepth 20000 in
theorem ggX6_gain_X6_isCargo : GoodIn wsX6_gain wsX6_isCargo := goodIn_r _ [7, 8, 9, 10, 6, 11, 61, 62, 63, 64, 65, 66, 67, 68, 69, 70, 71, 72, 73, 74, 75, 76, 77, 78, 79, 80, 81, 82, 83, 84, 85, 86, 87, 88, 89, 90, 91, 92, 93, 94] (by decide +kernel) (by decide +kernel)
set_option maxRecDepth 20000 in
theorem gX6_gain_X6_isCargo : GoodIn wsX6_gain (wsV RX6 139 RX6 yX6_isCargo wsX6_isCargo) := goodIn_app (goodIn_of _ (by decide +kernel)) ggX6_gain_X6_isCargo
set_option maxRecDepth 20000 in
theorem ggX6_gain_X6_in : GoodIn wsX6_gain wsX6_in := goodIn_r _ [11] (by decide +kernel) (by decide +kernel)
set_option maxRecDepth 20000 in
theorem gX6_gain_X6_in : GoodIn wsX6_gain (va_wsS RX6 92 yX6_in wsX6_in) := goodIn_app (goodIn_of _ (by decide +kernel)) ggX6_gain_X6_in
set_option maxRecDepth 20000 in
theorem ggX6_gain_X6_gainAt : GoodIn wsX6_gain wsX6_gainAt := goodIn_r _ [15, 16, 1, 17, 18, 19, 20, 21, 6, 22, 23, 24, 25, 26, 27, 28, 29, 30, 31, 32, 33, 34, 35, 36, 37, 38, 39, 40, 41, 42, 43, 44, 45, 46, 47, 48, 49, 50, 51, 52, 53, 54, 55, 56, 57, 58, 59, 60, 61, 62, 63, 64, 65, 66, 67, 68, 69, 70, 71, 72, 73, 74, 75, 76, 77, 78, 79, 80, 81, 82, 83, 84, 85, 86, 87, 88, 89, 90, 91, 92, 93, 94] (by decide +kernel) (by decide +kernel)
set_option maxRecDepth 20000 in
theorem gX6_gain_X6_gainAt : GoodIn wsX6_gain (wsV RX6 161 RX6 yX6_gainAt wsX6_gainAt) := goodIn_app (goodIn_of _ (by decide +kernel)) ggX6_gain_X6_gainAt
theorem dX6_gain_0 : decode cX6_gain 0 = .ok (.aload_n 0, 1) := by decide +kernel
theorem dX6_gain_1 : decode cX6_gain 1 = .ok (.iload_n 1, 1) := by decide +kernel
theorem dX6_gain_2 : decode cX6_gain 2 = .ok (.invokevirtual 139, 3) := by decide +kernel
theorem dX6_gain_5 : decode cX6_gain 5 = .ok (.ifCond .eq 42, 3) := by decide +kernel
theorem dX6_gain_8 : decode cX6_gain 8 = .ok (.iload_n 2, 1) := by decide +kernel
theorem dX6_gain_9 : decode cX6_gain 9 = .ok (.aload_n 0, 1) := by decide +kernel
theorem dX6_gain_10 : decode cX6_gain 10 = .ok (.getfield 96, 3) := by decide +kernel
theorem dX6_gain_13 : decode cX6_gain 13 = .ok (.aload_n 0, 1) := by decide +kernel
theorem dX6_gain_14 : decode cX6_gain 14 = .ok (.getfield 96, 3) := by decide +kernel
theorem dX6_gain_17 : decode cX6_gain 17 = .ok (.bipush 20, 2) := by decide +kernel
theorem dX6_gain_19 : decode cX6_gain 19 = .ok (.iadd, 1) := by decide +kernel
theorem dX6_gain_20 : decode cX6_gain 20 = .ok (.invokestatic 92, 3) := by decide +kernel
theorem dX6_gain_23 : decode cX6_gain 23 = .ok (.ifCond .eq 24, 3) := by decide +kernel
theorem dX6_gain_26 : decode cX6_gain 26 = .ok (.iload_n 3, 1) := by decide +kernel
theorem dX6_gain_27 : decode cX6_gain 27 = .ok (.iconst 0, 1) := by decide +kernel
theorem dX6_gain_28 : decode cX6_gain 28 = .ok (.sipush 2000, 3) := by decide +kernel
theorem dX6_gain_31 : decode cX6_gain 31 = .ok (.invokestatic 92, 3) := by decide +kernel
theorem dX6_gain_34 : decode cX6_gain 34 = .ok (.ifCond .eq 13, 3) := by decide +kernel
theorem dX6_gain_37 : decode cX6_gain 37 = .ok (.aload_n 0, 1) := by decide +kernel
theorem dX6_gain_38 : decode cX6_gain 38 = .ok (.iload_n 1, 1) := by decide +kernel
theorem dX6_gain_39 : decode cX6_gain 39 = .ok (.iload_n 2, 1) := by decide +kernel
theorem dX6_gain_40 : decode cX6_gain 40 = .ok (.iload_n 3, 1) := by decide +kernel
theorem dX6_gain_41 : decode cX6_gain 41 = .ok (.invokevirtual 161, 3) := by decide +kernel
theorem dX6_gain_44 : decode cX6_gain 44 = .ok (.goto 6, 3) := by decide +kernel
theorem dX6_gain_47 : decode cX6_gain 47 = .ok (.ldc2_w 155, 3) := by decide +kernel
theorem dX6_gain_50 : decode cX6_gain 50 = .ok (.lreturn, 1) := by decide +kernel
set_option maxRecDepth 20000 in
theorem ggX6_best_X6_isCargo : GoodIn wsX6_best wsX6_isCargo := goodIn_r _ [6, 7, 8, 9, 5, 10, 60, 61, 62, 63, 64, 65, 66, 67, 68, 69, 70, 71, 72, 73, 74, 75, 76, 77, 78, 79, 80, 81, 82, 83, 84, 85, 86, 87, 88, 89, 90, 91, 92, 93] (by decide +kernel) (by decide +kernel)
set_option maxRecDepth 20000 in
theorem gX6_best_X6_isCargo : GoodIn wsX6_best (wsV RX6 139 RX6 yX6_isCargo wsX6_isCargo) := goodIn_app (goodIn_of _ (by decide +kernel)) ggX6_best_X6_isCargo
set_option maxRecDepth 20000 in
theorem ggX6_best_X6_in : GoodIn wsX6_best wsX6_in := goodIn_r _ [10] (by decide +kernel) (by decide +kernel)
set_option maxRecDepth 20000 in
theorem gX6_best_X6_in : GoodIn wsX6_best (va_wsS RX6 92 yX6_in wsX6_in) := goodIn_app (goodIn_of _ (by decide +kernel)) ggX6_best_X6_in
set_option maxRecDepth 20000 in
theorem ggX6_best_X6_gainAt : GoodIn wsX6_best wsX6_gainAt := goodIn_r _ [14, 15, 1, 16, 17, 18, 19, 20, 5, 21, 22, 23, 24, 25, 26, 27, 28, 29, 30, 31, 32, 33, 34, 35, 36, 37, 38, 39, 40, 41, 42, 43, 44, 45, 46, 47, 48, 49, 50, 51, 52, 53, 54, 55, 56, 57, 58, 59, 60, 61, 62, 63, 64, 65, 66, 67, 68, 69, 70, 71, 72, 73, 74, 75, 76, 77, 78, 79, 80, 81, 82, 83, 84, 85, 86, 87, 88, 89, 90, 91, 92, 93] (by decide +kernel) (by decide +kernel)
set_option maxRecDepth 20000 in
theorem gX6_best_X6_gainAt : GoodIn wsX6_best (wsV RX6 161 RX6 yX6_gainAt wsX6_gainAt) := goodIn_app (goodIn_of _ (by decide +kernel)) ggX6_best_X6_gainAt
theorem dX6_best_0 : decode cX6_best 0 = .ok (.aload_n 0, 1) := by decide +kernel
theorem dX6_best_1 : decode cX6_best 1 = .ok (.iload_n 1, 1) := by decide +kernel
theorem dX6_best_2 : decode cX6_best 2 = .ok (.invokevirtual 139, 3) := by decide +kernel
theorem dX6_best_5 : decode cX6_best 5 = .ok (.ifCond .eq 24, 3) := by decide +kernel
theorem dX6_best_8 : decode cX6_best 8 = .ok (.iload_n 2, 1) := by decide +kernel
theorem dX6_best_9 : decode cX6_best 9 = .ok (.iconst 0, 1) := by decide +kernel
theorem dX6_best_10 : decode cX6_best 10 = .ok (.bipush 20, 2) := by decide +kernel
theorem dX6_best_12 : decode cX6_best 12 = .ok (.invokestatic 92, 3) := by decide +kernel
theorem dX6_best_15 : decode cX6_best 15 = .ok (.ifCond .eq 14, 3) := by decide +kernel
theorem dX6_best_18 : decode cX6_best 18 = .ok (.iload_n 3, 1) := by decide +kernel
theorem dX6_best_19 : decode cX6_best 19 = .ok (.iconst 0, 1) := by decide +kernel
theorem dX6_best_20 : decode cX6_best 20 = .ok (.sipush 2000, 3) := by decide +kernel
theorem dX6_best_23 : decode cX6_best 23 = .ok (.invokestatic 92, 3) := by decide +kernel
theorem dX6_best_26 : decode cX6_best 26 = .ok (.ifCond .ne 6, 3) := by decide +kernel
theorem dX6_best_29 : decode cX6_best 29 = .ok (.bipush (-2), 2) := by decide +kernel
theorem dX6_best_31 : decode cX6_best 31 = .ok (.ireturn, 1) := by decide +kernel
theorem dX6_best_32 : decode cX6_best 32 = .ok (.aload_n 0, 1) := by decide +kernel
theorem dX6_best_33 : decode cX6_best 33 = .ok (.getfield 96, 3) := by decide +kernel
theorem dX6_best_36 : decode cX6_best 36 = .ok (.istore 4, 2) := by decide +kernel
theorem dX6_best_38 : decode cX6_best 38 = .ok (.aload_n 0, 1) := by decide +kernel
theorem dX6_best_39 : decode cX6_best 39 = .ok (.getfield 96, 3) := by decide +kernel
theorem dX6_best_42 : decode cX6_best 42 = .ok (.iconst 1, 1) := by decide +kernel
theorem dX6_best_43 : decode cX6_best 43 = .ok (.iadd, 1) := by decide +kernel
theorem dX6_best_44 : decode cX6_best 44 = .ok (.istore 5, 2) := by decide +kernel
theorem dX6_best_46 : decode cX6_best 46 = .ok (.iload 5, 2) := by decide +kernel
theorem dX6_best_48 : decode cX6_best 48 = .ok (.aload_n 0, 1) := by decide +kernel
theorem dX6_best_49 : decode cX6_best 49 = .ok (.getfield 96, 3) := by decide +kernel
theorem dX6_best_52 : decode cX6_best 52 = .ok (.iload_n 2, 1) := by decide +kernel
theorem dX6_best_53 : decode cX6_best 53 = .ok (.iadd, 1) := by decide +kernel
theorem dX6_best_54 : decode cX6_best 54 = .ok (.if_icmp .gt 38, 3) := by decide +kernel
theorem dX6_best_57 : decode cX6_best 57 = .ok (.aload_n 0, 1) := by decide +kernel
theorem dX6_best_58 : decode cX6_best 58 = .ok (.iload_n 1, 1) := by decide +kernel
theorem dX6_best_59 : decode cX6_best 59 = .ok (.iload 5, 2) := by decide +kernel
theorem dX6_best_61 : decode cX6_best 61 = .ok (.iload_n 3, 1) := by decide +kernel
theorem dX6_best_62 : decode cX6_best 62 = .ok (.invokevirtual 161, 3) := by decide +kernel
theorem dX6_best_65 : decode cX6_best 65 = .ok (.aload_n 0, 1) := by decide +kernel
theorem dX6_best_66 : decode cX6_best 66 = .ok (.iload_n 1, 1) := by decide +kernel
theorem dX6_best_67 : decode cX6_best 67 = .ok (.iload 4, 2) := by decide +kernel
theorem dX6_best_69 : decode cX6_best 69 = .ok (.iload_n 3, 1) := by decide +kernel
theorem dX6_best_70 : decode cX6_best 70 = .ok (.invokevirtual 161, 3) := by decide +kernel
theorem dX6_best_73 : decode cX6_best 73 = .ok (.lcmp, 1) := by decide +kernel
theorem dX6_best_74 : decode cX6_best 74 = .ok (.ifCond .le 8, 3) := by decide +kernel
theorem dX6_best_77 : decode cX6_best 77 = .ok (.iload 5, 2) := by decide +kernel
theorem dX6_best_79 : decode cX6_best 79 = .ok (.goto 5, 3) := by decide +kernel
theorem dX6_best_82 : decode cX6_best 82 = .ok (.iload 4, 2) := by decide +kernel
theorem dX6_best_84 : decode cX6_best 84 = .ok (.istore 4, 2) := by decide +kernel
theorem dX6_best_86 : decode cX6_best 86 = .ok (.iinc 5 1, 3) := by decide +kernel
theorem dX6_best_89 : decode cX6_best 89 = .ok (.goto (-43), 3) := by decide +kernel
theorem dX6_best_92 : decode cX6_best 92 = .ok (.iload 4, 2) := by decide +kernel
theorem dX6_best_94 : decode cX6_best 94 = .ok (.ireturn, 1) := by decide +kernel
theorem dX6_count_0 : decode cX6_count 0 = .ok (.iconst 0, 1) := by decide +kernel
theorem dX6_count_1 : decode cX6_count 1 = .ok (.istore_n 2, 1) := by decide +kernel
theorem dX6_count_2 : decode cX6_count 2 = .ok (.iload_n 1, 1) := by decide +kernel
theorem dX6_count_3 : decode cX6_count 3 = .ok (.tableswitch 98 0 5 #[37, 42, 47, 83, 88, 93], 37) := by decide +kernel
theorem dX6_count_40 : decode cX6_count 40 = .ok (.aload_n 0, 1) := by decide +kernel
theorem dX6_count_41 : decode cX6_count 41 = .ok (.getfield 96, 3) := by decide +kernel
theorem dX6_count_44 : decode cX6_count 44 = .ok (.ireturn, 1) := by decide +kernel
theorem dX6_count_45 : decode cX6_count 45 = .ok (.aload_n 0, 1) := by decide +kernel
theorem dX6_count_46 : decode cX6_count 46 = .ok (.getfield 109, 3) := by decide +kernel
theorem dX6_count_49 : decode cX6_count 49 = .ok (.ireturn, 1) := by decide +kernel
theorem dX6_count_50 : decode cX6_count 50 = .ok (.iconst 0, 1) := by decide +kernel
theorem dX6_count_51 : decode cX6_count 51 = .ok (.istore_n 3, 1) := by decide +kernel
theorem dX6_count_52 : decode cX6_count 52 = .ok (.iload_n 3, 1) := by decide +kernel
theorem dX6_count_53 : decode cX6_count 53 = .ok (.aload_n 0, 1) := by decide +kernel
theorem dX6_count_54 : decode cX6_count 54 = .ok (.getfield 109, 3) := by decide +kernel
theorem dX6_count_57 : decode cX6_count 57 = .ok (.if_icmp .ge 27, 3) := by decide +kernel
theorem dX6_count_60 : decode cX6_count 60 = .ok (.iload_n 2, 1) := by decide +kernel
theorem dX6_count_61 : decode cX6_count 61 = .ok (.aload_n 0, 1) := by decide +kernel
theorem dX6_count_62 : decode cX6_count 62 = .ok (.getfield 28, 3) := by decide +kernel
theorem dX6_count_65 : decode cX6_count 65 = .ok (.iload_n 3, 1) := by decide +kernel
theorem dX6_count_66 : decode cX6_count 66 = .ok (.iaload, 1) := by decide +kernel
theorem dX6_count_67 : decode cX6_count 67 = .ok (.iconst (-1), 1) := by decide +kernel
theorem dX6_count_68 : decode cX6_count 68 = .ok (.if_icmp .eq 7, 3) := by decide +kernel
theorem dX6_count_71 : decode cX6_count 71 = .ok (.iconst 1, 1) := by decide +kernel
theorem dX6_count_72 : decode cX6_count 72 = .ok (.goto 4, 3) := by decide +kernel
theorem dX6_count_75 : decode cX6_count 75 = .ok (.iconst 0, 1) := by decide +kernel
theorem dX6_count_76 : decode cX6_count 76 = .ok (.iadd, 1) := by decide +kernel
theorem dX6_count_77 : decode cX6_count 77 = .ok (.istore_n 2, 1) := by decide +kernel
theorem dX6_count_78 : decode cX6_count 78 = .ok (.iinc 3 1, 3) := by decide +kernel
theorem dX6_count_81 : decode cX6_count 81 = .ok (.goto (-29), 3) := by decide +kernel
theorem dX6_count_84 : decode cX6_count 84 = .ok (.iload_n 2, 1) := by decide +kernel
theorem dX6_count_85 : decode cX6_count 85 = .ok (.ireturn, 1) := by decide +kernel
theorem dX6_count_86 : decode cX6_count 86 = .ok (.aload_n 0, 1) := by decide +kernel
theorem dX6_count_87 : decode cX6_count 87 = .ok (.getfield 123, 3) := by decide +kernel
theorem dX6_count_90 : decode cX6_count 90 = .ok (.ireturn, 1) := by decide +kernel
theorem dX6_count_91 : decode cX6_count 91 = .ok (.aload_n 0, 1) := by decide +kernel
theorem dX6_count_92 : decode cX6_count 92 = .ok (.getfield 99, 3) := by decide +kernel
theorem dX6_count_95 : decode cX6_count 95 = .ok (.ireturn, 1) := by decide +kernel
theorem dX6_count_96 : decode cX6_count 96 = .ok (.aload_n 0, 1) := by decide +kernel
theorem dX6_count_97 : decode cX6_count 97 = .ok (.getfield 146, 3) := by decide +kernel
theorem dX6_count_100 : decode cX6_count 100 = .ok (.ireturn, 1) := by decide +kernel
theorem dX6_count_101 : decode cX6_count 101 = .ok (.bipush (-2), 2) := by decide +kernel
theorem dX6_count_103 : decode cX6_count 103 = .ok (.ireturn, 1) := by decide +kernel
theorem dJ6_bitCount_0f7a4_0 : decode cJ6_bitCount_0f7a4 0 = .ok (.iload_n 0, 1) := by decide +kernel
theorem dJ6_bitCount_0f7a4_1 : decode cJ6_bitCount_0f7a4 1 = .ok (.iload_n 0, 1) := by decide +kernel
theorem dJ6_bitCount_0f7a4_2 : decode cJ6_bitCount_0f7a4 2 = .ok (.iconst 1, 1) := by decide +kernel
theorem dJ6_bitCount_0f7a4_3 : decode cJ6_bitCount_0f7a4 3 = .ok (.iushr, 1) := by decide +kernel
theorem dJ6_bitCount_0f7a4_4 : decode cJ6_bitCount_0f7a4 4 = .ok (.ldc_w 265, 3) := by decide +kernel
theorem dJ6_bitCount_0f7a4_7 : decode cJ6_bitCount_0f7a4 7 = .ok (.iand, 1) := by decide +kernel
theorem dJ6_bitCount_0f7a4_8 : decode cJ6_bitCount_0f7a4 8 = .ok (.isub, 1) := by decide +kernel
theorem dJ6_bitCount_0f7a4_9 : decode cJ6_bitCount_0f7a4 9 = .ok (.istore_n 0, 1) := by decide +kernel
theorem dJ6_bitCount_0f7a4_10 : decode cJ6_bitCount_0f7a4 10 = .ok (.iload_n 0, 1) := by decide +kernel
theorem dJ6_bitCount_0f7a4_11 : decode cJ6_bitCount_0f7a4 11 = .ok (.ldc_w 266, 3) := by decide +kernel
theorem dJ6_bitCount_0f7a4_14 : decode cJ6_bitCount_0f7a4 14 = .ok (.iand, 1) := by decide +kernel
theorem dJ6_bitCount_0f7a4_15 : decode cJ6_bitCount_0f7a4 15 = .ok (.iload_n 0, 1) := by decide +kernel
theorem dJ6_bitCount_0f7a4_16 : decode cJ6_bitCount_0f7a4 16 = .ok (.iconst 2, 1) := by decide +kernel
theorem dJ6_bitCount_0f7a4_17 : decode cJ6_bitCount_0f7a4 17 = .ok (.iushr, 1) := by decide +kernel
theorem dJ6_bitCount_0f7a4_18 : decode cJ6_bitCount_0f7a4 18 = .ok (.ldc_w 266, 3) := by decide +kernel
theorem dJ6_bitCount_0f7a4_21 : decode cJ6_bitCount_0f7a4 21 = .ok (.iand, 1) := by decide +kernel
theorem dJ6_bitCount_0f7a4_22 : decode cJ6_bitCount_0f7a4 22 = .ok (.iadd, 1) := by decide +kernel
theorem dJ6_bitCount_0f7a4_23 : decode cJ6_bitCount_0f7a4 23 = .ok (.istore_n 0, 1) := by decide +kernel
theorem dJ6_bitCount_0f7a4_24 : decode cJ6_bitCount_0f7a4 24 = .ok (.iload_n 0, 1) := by decide +kernel
theorem dJ6_bitCount_0f7a4_25 : decode cJ6_bitCount_0f7a4 25 = .ok (.iload_n 0, 1) := by decide +kernel
theorem dJ6_bitCount_0f7a4_26 : decode cJ6_bitCount_0f7a4 26 = .ok (.iconst 4, 1) := by decide +kernel
theorem dJ6_bitCount_0f7a4_27 : decode cJ6_bitCount_0f7a4 27 = .ok (.iushr, 1) := by decide +kernel
theorem dJ6_bitCount_0f7a4_28 : decode cJ6_bitCount_0f7a4 28 = .ok (.iadd, 1) := by decide +kernel
theorem dJ6_bitCount_0f7a4_29 : decode cJ6_bitCount_0f7a4 29 = .ok (.ldc_w 267, 3) := by decide +kernel
theorem dJ6_bitCount_0f7a4_32 : decode cJ6_bitCount_0f7a4 32 = .ok (.iand, 1) := by decide +kernel
theorem dJ6_bitCount_0f7a4_33 : decode cJ6_bitCount_0f7a4 33 = .ok (.istore_n 0, 1) := by decide +kernel
theorem dJ6_bitCount_0f7a4_34 : decode cJ6_bitCount_0f7a4 34 = .ok (.iload_n 0, 1) := by decide +kernel
theorem dJ6_bitCount_0f7a4_35 : decode cJ6_bitCount_0f7a4 35 = .ok (.iload_n 0, 1) := by decide +kernel
theorem dJ6_bitCount_0f7a4_36 : decode cJ6_bitCount_0f7a4 36 = .ok (.bipush 8, 2) := by decide +kernel
theorem dJ6_bitCount_0f7a4_38 : decode cJ6_bitCount_0f7a4 38 = .ok (.iushr, 1) := by decide +kernel
theorem dJ6_bitCount_0f7a4_39 : decode cJ6_bitCount_0f7a4 39 = .ok (.iadd, 1) := by decide +kernel
theorem dJ6_bitCount_0f7a4_40 : decode cJ6_bitCount_0f7a4 40 = .ok (.istore_n 0, 1) := by decide +kernel
theorem dJ6_bitCount_0f7a4_41 : decode cJ6_bitCount_0f7a4 41 = .ok (.iload_n 0, 1) := by decide +kernel
theorem dJ6_bitCount_0f7a4_42 : decode cJ6_bitCount_0f7a4 42 = .ok (.iload_n 0, 1) := by decide +kernel
theorem dJ6_bitCount_0f7a4_43 : decode cJ6_bitCount_0f7a4 43 = .ok (.bipush 16, 2) := by decide +kernel
theorem dJ6_bitCount_0f7a4_45 : decode cJ6_bitCount_0f7a4 45 = .ok (.iushr, 1) := by decide +kernel
theorem dJ6_bitCount_0f7a4_46 : decode cJ6_bitCount_0f7a4 46 = .ok (.iadd, 1) := by decide +kernel
theorem dJ6_bitCount_0f7a4_47 : decode cJ6_bitCount_0f7a4 47 = .ok (.istore_n 0, 1) := by decide +kernel
theorem dJ6_bitCount_0f7a4_48 : decode cJ6_bitCount_0f7a4 48 = .ok (.iload_n 0, 1) := by decide +kernel
theorem dJ6_bitCount_0f7a4_49 : decode cJ6_bitCount_0f7a4 49 = .ok (.bipush 63, 2) := by decide +kernel
theorem dJ6_bitCount_0f7a4_51 : decode cJ6_bitCount_0f7a4 51 = .ok (.iand, 1) := by decide +kernel
theorem dJ6_bitCount_0f7a4_52 : decode cJ6_bitCount_0f7a4 52 = .ok (.ireturn, 1) := by decide +kernel
set_option maxRecDepth 20000 in
theorem ggL_law_X5_init : GoodIn wsL_law wsX5_init := goodIn_r _ [8, 9, 10, 11, 12, 13, 14, 15, 16, 17, 18, 19, 20, 21, 22, 23, 24, 25, 26, 27, 28, 29, 30, 31, 32, 33, 34, 35, 36, 37, 38, 39, 40, 41, 42, 43, 44, 45, 46, 47, 48, 49, 50, 51, 52, 53, 54, 55, 56, 57, 58, 59, 60, 61, 62, 63, 64, 65, 66, 67, 68, 69, 70, 71, 72, 73, 563, 564, 565, 566, 567, 568, 569, 570, 521, 522, 523, 524, 525, 526, 527, 528, 571, 572, 573, 574, 575, 576, 577, 578, 579, 580, 581, 582, 583, 584, 585, 586, 587, 588, 589, 590, 591] (by decide +kernel) (by decide +kernel)
set_option maxRecDepth 20000 in
theorem gL_law_X5_init : GoodIn wsL_law (wsX5_init) := ggL_law_X5_init
set_option maxRecDepth 20000 in
theorem ggL_law_X6_init : GoodIn wsL_law wsX6_init := goodIn_r _ [76, 77, 10, 11, 35, 78, 79, 80, 81, 82, 83, 84, 85, 86, 87, 88, 89, 90, 91, 92, 93, 94, 95, 96, 97, 98, 99, 100, 101, 102, 103, 104, 529, 530, 531, 532, 533, 534, 535, 536, 537, 538, 539, 540, 541, 542, 543, 544, 545, 546, 547, 548, 549, 550, 551, 552, 553, 554, 555, 556, 557, 558, 559, 560, 561, 562] (by decide +kernel) (by decide +kernel)
set_option maxRecDepth 20000 in
theorem gL_law_X6_init : GoodIn wsL_law (wsX6_init) := ggL_law_X6_init
set_option maxRecDepth 20000 in
theorem ggL_law_X5_weeks : GoodIn wsL_law wsX5_weeks := goodIn_r _ [108, 109, 27, 110, 111, 112, 2, 113, 114, 115, 116, 26, 117, 118, 63, 66, 119, 120, 121, 521, 522, 523, 524, 525, 526, 527, 528, 581, 582, 583, 584, 585, 586, 587] (by decide +kernel) (by decide +kernel)
set_option maxRecDepth 20000 in
theorem gL_law_X5_weeks : GoodIn wsL_law (wsV RL 13 RX5 yX5_weeks wsX5_weeks) := goodIn_app (goodIn_of _ (by decide +kernel)) ggL_law_X5_weeks
set_option maxRecDepth 20000 in
theorem ggL_law_X6_weeks : GoodIn wsL_law wsX6_weeks := goodIn_r _ [125, 126, 127, 95, 128, 98, 129, 130, 5, 131, 529, 530, 531, 532, 533, 534, 535, 536, 537, 538, 539, 540, 541, 542, 543, 544, 545, 546, 547, 548, 549, 550, 551, 552, 553, 554, 555, 556, 557, 558, 559, 560, 561, 562] (by decide +kernel) (by decide +kernel)
set_option maxRecDepth 20000 in
theorem gL_law_X6_weeks : GoodIn wsL_law (wsV RL 17 RX6 yX6_weeks wsX6_weeks) := goodIn_app (goodIn_of _ (by decide +kernel)) ggL_law_X6_weeks
set_option maxRecDepth 20000 in
theorem ggL_law_X5_sale : GoodIn wsL_law wsX5_sale := goodIn_r _ [135, 109, 15, 136, 111, 112, 2, 113, 137, 138, 139, 140, 141, 142, 14, 143, 144, 36, 37, 38, 39, 40, 41, 42, 521, 522, 523, 524, 525, 526, 527, 528, 563, 564, 565, 566, 567, 568, 569, 570] (by decide +kernel) (by decide +kernel)
set_option maxRecDepth 20000 in
theorem gL_law_X5_sale : GoodIn wsL_law (wsV RL 18 RX5 yX5_sale wsX5_sale) := goodIn_app (goodIn_of _ (by decide +kernel)) ggL_law_X5_sale
set_option maxRecDepth 20000 in
theorem ggL_law_X6_sale : GoodIn wsL_law wsX6_sale := goodIn_r _ [148, 126, 149, 78, 79, 80, 81, 82, 83, 84, 129, 130, 5, 131, 150, 151, 152, 529, 530, 531, 532, 533, 534, 535, 536, 537, 538, 539, 540, 541, 542, 543, 544, 545, 546, 547, 548, 549, 550, 551, 552, 553, 554, 555, 556, 557, 558, 559, 560, 561, 562] (by decide +kernel) (by decide +kernel)
set_option maxRecDepth 20000 in
theorem gL_law_X6_sale : GoodIn wsL_law (wsV RL 22 RX6 yX6_sale wsX6_sale) := goodIn_app (goodIn_of _ (by decide +kernel)) ggL_law_X6_sale
set_option maxRecDepth 20000 in
theorem ggL_law_X5_strike : GoodIn wsL_law wsX5_strike := goodIn_r _ [156, 15, 157, 109, 158, 159, 160, 14, 161, 144, 521, 522, 523, 524, 525, 526, 527, 528, 563, 564, 565, 566, 567, 568, 569, 570] (by decide +kernel) (by decide +kernel)
set_option maxRecDepth 20000 in
theorem gL_law_X5_strike : GoodIn wsL_law (wsV RL 23 RX5 yX5_strike wsX5_strike) := goodIn_app (goodIn_of _ (by decide +kernel)) ggL_law_X5_strike
set_option maxRecDepth 20000 in
theorem ggL_law_X6_strike : GoodIn wsL_law wsX6_strike := goodIn_r _ [165, 149, 84, 126, 129, 130, 5, 131, 529, 530, 531, 532, 533, 534, 535, 536, 537, 538, 539, 540, 541, 542, 543, 544, 545, 546, 547, 548, 549, 550, 551, 552, 553, 554, 555, 556, 557, 558, 559, 560, 561, 562] (by decide +kernel) (by decide +kernel)
set_option maxRecDepth 20000 in
theorem gL_law_X6_strike : GoodIn wsL_law (wsV RL 26 RX6 yX6_strike wsX6_strike) := goodIn_app (goodIn_of _ (by decide +kernel)) ggL_law_X6_strike
set_option maxRecDepth 20000 in
theorem ggL_law_X5_sold : GoodIn wsL_law wsX5_sold := goodIn_r _ [169, 15, 170, 171, 172, 173, 174, 175, 157, 158, 159, 160, 14, 161, 144, 521, 522, 523, 524, 525, 526, 527, 528, 563, 564, 565, 566, 567, 568, 569, 570] (by decide +kernel) (by decide +kernel)
set_option maxRecDepth 20000 in
theorem gL_law_X5_sold : GoodIn wsL_law (wsV RL 27 RX5 yX5_sold wsX5_sold) := goodIn_app (goodIn_of _ (by decide +kernel)) ggL_law_X5_sold
set_option maxRecDepth 20000 in
theorem ggL_law_X6_sold : GoodIn wsL_law wsX6_sold := goodIn_r _ [179, 149, 78, 79, 80, 81, 82, 83, 84, 129, 130, 5, 131, 529, 530, 531, 532, 533, 534, 535, 536, 537, 538, 539, 540, 541, 542, 543, 544, 545, 546, 547, 548, 549, 550, 551, 552, 553, 554, 555, 556, 557, 558, 559, 560, 561, 562] (by decide +kernel) (by decide +kernel)
set_option maxRecDepth 20000 in
theorem gL_law_X6_sold : GoodIn wsL_law (wsV RL 31 RX6 yX6_sold wsX6_sold) := goodIn_app (goodIn_of _ (by decide +kernel)) ggL_law_X6_sold
set_option maxRecDepth 20000 in
theorem ggL_law_X5_weekly : GoodIn wsL_law wsX5_weekly := goodIn_r _ [183, 15, 137, 138, 2, 139, 111, 112, 113, 184, 185, 186, 14, 187, 144, 37, 38, 40, 39, 188, 189, 190, 191, 41, 42, 521, 522, 523, 524, 525, 526, 527, 528, 563, 564, 565, 566, 567, 568, 569, 570] (by decide +kernel) (by decide +kernel)
set_option maxRecDepth 20000 in
theorem gL_law_X5_weekly : GoodIn wsL_law (wsV RL 32 RX5 yX5_weekly wsX5_weekly) := goodIn_app (goodIn_of _ (by decide +kernel)) ggL_law_X5_weekly
set_option maxRecDepth 20000 in
theorem ggL_law_X6_weekly : GoodIn wsL_law wsX6_weekly := goodIn_r _ [195, 150, 151, 5, 152, 129, 130, 131, 196, 197, 198, 199, 149, 79, 80, 82, 81, 200, 201, 202, 203, 103, 83, 84, 529, 530, 531, 532, 533, 534, 535, 536, 537, 538, 539, 540, 541, 542, 543, 544, 545, 546, 547, 548, 549, 550, 551, 552, 553, 554, 555, 556, 557, 558, 559, 560, 561, 562] (by decide +kernel) (by decide +kernel)
set_option maxRecDepth 20000 in
theorem gL_law_X6_weekly : GoodIn wsL_law (wsV RL 36 RX6 yX6_weekly wsX6_weekly) := goodIn_app (goodIn_of _ (by decide +kernel)) ggL_law_X6_weekly
set_option maxRecDepth 20000 in
theorem ggL_law_X5_average : GoodIn wsL_law wsX5_average := goodIn_r _ [207, 15, 137, 138, 2, 139, 111, 112, 113, 208, 209, 210, 14, 211, 212, 185, 186, 187, 144, 37, 38, 40, 39, 188, 189, 190, 191, 41, 42, 521, 522, 523, 524, 525, 526, 527, 528, 563, 564, 565, 566, 567, 568, 569, 570] (by decide +kernel) (by decide +kernel)
set_option maxRecDepth 20000 in
theorem gL_law_X5_average : GoodIn wsL_law (wsV RL 37 RX5 yX5_average wsX5_average) := goodIn_app (goodIn_of _ (by decide +kernel)) ggL_law_X5_average
set_option maxRecDepth 20000 in
theorem ggL_law_X6_average : GoodIn wsL_law wsX6_average := goodIn_r _ [216, 150, 151, 5, 152, 129, 130, 131, 217, 218, 219, 220, 196, 197, 198, 199, 149, 79, 80, 82, 81, 200, 201, 202, 203, 103, 83, 84, 529, 530, 531, 532, 533, 534, 535, 536, 537, 538, 539, 540, 541, 542, 543, 544, 545, 546, 547, 548, 549, 550, 551, 552, 553, 554, 555, 556, 557, 558, 559, 560, 561, 562] (by decide +kernel) (by decide +kernel)
set_option maxRecDepth 20000 in
theorem gL_law_X6_average : GoodIn wsL_law (wsV RL 40 RX6 yX6_average wsX6_average) := goodIn_app (goodIn_of _ (by decide +kernel)) ggL_law_X6_average
set_option maxRecDepth 20000 in
theorem ggL_law_X5_towns : GoodIn wsL_law wsX5_towns := goodIn_r _ [224, 15, 111, 112, 2, 113, 225, 226, 227, 14, 228, 144, 38, 36, 188, 189, 190, 191, 41, 42, 229, 230, 231, 232, 233, 234, 235, 521, 522, 523, 524, 525, 526, 527, 528, 563, 564, 565, 566, 567, 568, 569, 570] (by decide +kernel) (by decide +kernel)
set_option maxRecDepth 20000 in
theorem gL_law_X5_towns : GoodIn wsL_law (wsV RL 41 RX5 yX5_towns wsX5_towns) := goodIn_app (goodIn_of _ (by decide +kernel)) ggL_law_X5_towns
set_option maxRecDepth 20000 in
theorem ggL_law_X6_towns : GoodIn wsL_law wsX6_towns := goodIn_r _ [239, 149, 80, 78, 129, 130, 5, 131, 200, 201, 202, 203, 103, 83, 84, 529, 530, 531, 532, 533, 534, 535, 536, 537, 538, 539, 540, 541, 542, 543, 544, 545, 546, 547, 548, 549, 550, 551, 552, 553, 554, 555, 556, 557, 558, 559, 560, 561, 562] (by decide +kernel) (by decide +kernel)
set_option maxRecDepth 20000 in
theorem gL_law_X6_towns : GoodIn wsL_law (wsV RL 44 RX6 yX6_towns wsX6_towns) := goodIn_app (goodIn_of _ (by decide +kernel)) ggL_law_X6_towns
set_option maxRecDepth 20000 in
theorem ggL_law_X5_scale : GoodIn wsL_law wsX5_scale := goodIn_r _ [243, 109, 19, 244, 137, 138, 2, 139, 111, 112, 113, 245, 246, 247, 18, 248, 249, 46, 47, 48, 521, 522, 523, 524, 525, 526, 527, 528, 571, 572, 573, 574, 575, 576, 577] (by decide +kernel) (by decide +kernel)
set_option maxRecDepth 20000 in
theorem gL_law_X5_scale : GoodIn wsL_law (wsV RL 45 RX5 yX5_scale wsX5_scale) := goodIn_app (goodIn_of _ (by decide +kernel)) ggL_law_X5_scale
set_option maxRecDepth 20000 in
theorem ggL_law_X6_scale : GoodIn wsL_law wsX6_scale := goodIn_r _ [253, 126, 254, 85, 86, 87, 88, 150, 151, 5, 152, 129, 130, 131, 529, 530, 531, 532, 533, 534, 535, 536, 537, 538, 539, 540, 541, 542, 543, 544, 545, 546, 547, 548, 549, 550, 551, 552, 553, 554, 555, 556, 557, 558, 559, 560, 561, 562] (by decide +kernel) (by decide +kernel)
set_option maxRecDepth 20000 in
theorem gL_law_X6_scale : GoodIn wsL_law (wsV RL 48 RX6 yX6_scale wsX6_scale) := goodIn_app (goodIn_of _ (by decide +kernel)) ggL_law_X6_scale
set_option maxRecDepth 20000 in
theorem ggL_law_X5_step : GoodIn wsL_law wsX5_step := goodIn_r _ [258, 19, 109, 259, 260, 261, 262, 18, 263, 249, 111, 112, 2, 113, 264, 265, 266, 267, 49, 51, 268, 269, 270, 271, 47, 48, 272, 273, 274, 275, 52, 521, 522, 523, 524, 525, 526, 527, 528, 571, 572, 573, 574, 575, 576, 577] (by decide +kernel) (by decide +kernel)
set_option maxRecDepth 20000 in
theorem gL_law_X5_step : GoodIn wsL_law (wsV RL 49 RX5 yX5_step wsX5_step) := goodIn_app (goodIn_of _ (by decide +kernel)) ggL_law_X5_step
set_option maxRecDepth 20000 in
theorem ggL_law_X6_step : GoodIn wsL_law wsX6_step := goodIn_r _ [279, 88, 89, 86, 126, 87, 90, 280, 281, 282, 5, 283, 254, 129, 130, 131, 529, 530, 531, 532, 533, 534, 535, 536, 537, 538, 539, 540, 541, 542, 543, 544, 545, 546, 547, 548, 549, 550, 551, 552, 553, 554, 555, 556, 557, 558, 559, 560, 561, 562] (by decide +kernel) (by decide +kernel)
set_option maxRecDepth 20000 in
theorem gL_law_X6_step : GoodIn wsL_law (wsV RL 52 RX6 yX6_step wsX6_step) := goodIn_app (goodIn_of _ (by decide +kernel)) ggL_law_X6_step
set_option maxRecDepth 20000 in
theorem ggL_law_X5_hang : GoodIn wsL_law wsX5_hang := goodIn_r _ [287, 23, 137, 138, 2, 139, 111, 112, 113, 288, 289, 290, 22, 291, 58, 292, 293, 294, 295, 56, 296, 297, 298, 299, 300, 57, 521, 522, 523, 524, 525, 526, 527, 528, 578, 579, 580] (by decide +kernel) (by decide +kernel)
set_option maxRecDepth 20000 in
theorem gL_law_X5_hang : GoodIn wsL_law (wsV RL 53 RX5 yX5_hang wsX5_hang) := goodIn_app (goodIn_of _ (by decide +kernel)) ggL_law_X5_hang
set_option maxRecDepth 20000 in
theorem ggL_law_X6_hang : GoodIn wsL_law wsX6_hang := goodIn_r _ [304, 91, 92, 93, 150, 151, 5, 152, 129, 130, 131, 529, 530, 531, 532, 533, 534, 535, 536, 537, 538, 539, 540, 541, 542, 543, 544, 545, 546, 547, 548, 549, 550, 551, 552, 553, 554, 555, 556, 557, 558, 559, 560, 561, 562] (by decide +kernel) (by decide +kernel)
set_option maxRecDepth 20000 in
theorem gL_law_X6_hang : GoodIn wsL_law (wsV RL 57 RX6 yX6_hang wsX6_hang) := goodIn_app (goodIn_of _ (by decide +kernel)) ggL_law_X6_hang
set_option maxRecDepth 20000 in
theorem ggL_law_X5_unhang : GoodIn wsL_law wsX5_unhang := goodIn_r _ [308, 23, 137, 138, 2, 139, 111, 112, 113, 288, 289, 290, 22, 291, 58, 309, 310, 311, 312, 521, 522, 523, 524, 525, 526, 527, 528, 578, 579, 580] (by decide +kernel) (by decide +kernel)
set_option maxRecDepth 20000 in
theorem gL_law_X5_unhang : GoodIn wsL_law (wsV RL 58 RX5 yX5_unhang wsX5_unhang) := goodIn_app (goodIn_of _ (by decide +kernel)) ggL_law_X5_unhang
set_option maxRecDepth 20000 in
theorem ggL_law_X6_unhang : GoodIn wsL_law wsX6_unhang := goodIn_r _ [316, 91, 150, 151, 5, 152, 129, 130, 131, 529, 530, 531, 532, 533, 534, 535, 536, 537, 538, 539, 540, 541, 542, 543, 544, 545, 546, 547, 548, 549, 550, 551, 552, 553, 554, 555, 556, 557, 558, 559, 560, 561, 562] (by decide +kernel) (by decide +kernel)
set_option maxRecDepth 20000 in
theorem gL_law_X6_unhang : GoodIn wsL_law (wsV RL 61 RX6 yX6_unhang wsX6_unhang) := goodIn_app (goodIn_of _ (by decide +kernel)) ggL_law_X6_unhang
set_option maxRecDepth 20000 in
theorem ggL_law_X5_force : GoodIn wsL_law wsX5_force := goodIn_r _ [320, 19, 137, 138, 2, 139, 111, 112, 113, 321, 322, 323, 18, 324, 249, 46, 49, 47, 521, 522, 523, 524, 525, 526, 527, 528, 571, 572, 573, 574, 575, 576, 577] (by decide +kernel) (by decide +kernel)
set_option maxRecDepth 20000 in
theorem gL_law_X5_force : GoodIn wsL_law (wsV RL 62 RX5 yX5_force wsX5_force) := goodIn_app (goodIn_of _ (by decide +kernel)) ggL_law_X5_force
set_option maxRecDepth 20000 in
theorem ggL_law_X6_force : GoodIn wsL_law wsX6_force := goodIn_r _ [328, 150, 151, 5, 152, 129, 130, 131, 329, 330, 331, 332, 254, 85, 88, 86, 529, 530, 531, 532, 533, 534, 535, 536, 537, 538, 539, 540, 541, 542, 543, 544, 545, 546, 547, 548, 549, 550, 551, 552, 553, 554, 555, 556, 557, 558, 559, 560, 561, 562] (by decide +kernel) (by decide +kernel)
set_option maxRecDepth 20000 in
theorem gL_law_X6_force : GoodIn wsL_law (wsV RL 65 RX6 yX6_force wsX6_force) := goodIn_app (goodIn_of _ (by decide +kernel)) ggL_law_X6_force
set_option maxRecDepth 20000 in
theorem ggL_law_X5_duty : GoodIn wsL_law wsX5_duty := goodIn_r _ [336, 137, 138, 2, 139, 111, 112, 113, 337, 338, 339, 340, 23, 19, 15, 341, 342, 343, 22, 344, 56, 296, 289, 290, 291, 58, 345, 346, 347, 18, 348, 46, 349, 261, 262, 263, 249, 321, 322, 323, 324, 49, 47, 208, 209, 210, 14, 211, 212, 185, 186, 187, 144, 37, 38, 40, 39, 188, 189, 190, 191, 41, 42, 350, 351, 352, 353, 52, 51, 354, 355, 356, 357, 57, 521, 522, 523, 524, 525, 526, 527, 528, 578, 579, 580, 571, 572, 573, 574, 575, 576, 577, 563, 564, 565, 566, 567, 568, 569, 570] (by decide +kernel) (by decide +kernel)
set_option maxRecDepth 20000 in
theorem gL_law_X5_duty : GoodIn wsL_law (wsV RL 66 RX5 yX5_duty wsX5_duty) := goodIn_app (goodIn_of _ (by decide +kernel)) ggL_law_X5_duty
set_option maxRecDepth 20000 in
theorem ggL_law_X6_duty : GoodIn wsL_law wsX6_duty := goodIn_r _ [361, 150, 151, 5, 152, 129, 130, 131, 362, 363, 364, 365, 91, 92, 93, 366, 367, 368, 369, 104, 85, 88, 89, 90, 329, 330, 331, 332, 254, 86, 217, 218, 219, 220, 196, 197, 198, 199, 149, 79, 80, 82, 81, 200, 201, 202, 203, 103, 83, 84, 529, 530, 531, 532, 533, 534, 535, 536, 537, 538, 539, 540, 541, 542, 543, 544, 545, 546, 547, 548, 549, 550, 551, 552, 553, 554, 555, 556, 557, 558, 559, 560, 561, 562] (by decide +kernel) (by decide +kernel)
set_option maxRecDepth 20000 in
theorem gL_law_X6_duty : GoodIn wsL_law (wsV RL 69 RX6 yX6_duty wsX6_duty) := goodIn_app (goodIn_of _ (by decide +kernel)) ggL_law_X6_duty
set_option maxRecDepth 20000 in
theorem ggL_law_X5_cargo : GoodIn wsL_law wsX5_cargo := goodIn_r _ [373, 27, 374, 109, 137, 138, 2, 139, 111, 112, 113, 375, 376, 377, 26, 378, 118, 62, 63, 67, 521, 522, 523, 524, 525, 526, 527, 528, 581, 582, 583, 584, 585, 586, 587] (by decide +kernel) (by decide +kernel)
set_option maxRecDepth 20000 in
theorem gL_law_X5_cargo : GoodIn wsL_law (wsV RL 70 RX5 yX5_cargo wsX5_cargo) := goodIn_app (goodIn_of _ (by decide +kernel)) ggL_law_X5_cargo
set_option maxRecDepth 20000 in
theorem ggL_law_X6_cargo : GoodIn wsL_law wsX6_cargo := goodIn_r _ [382, 127, 94, 95, 96, 97, 98, 99, 126, 150, 151, 5, 152, 129, 130, 131, 529, 530, 531, 532, 533, 534, 535, 536, 537, 538, 539, 540, 541, 542, 543, 544, 545, 546, 547, 548, 549, 550, 551, 552, 553, 554, 555, 556, 557, 558, 559, 560, 561, 562] (by decide +kernel) (by decide +kernel)
set_option maxRecDepth 20000 in
theorem gL_law_X6_cargo : GoodIn wsL_law (wsV RL 73 RX6 yX6_cargo wsX6_cargo) := goodIn_app (goodIn_of _ (by decide +kernel)) ggL_law_X6_cargo
set_option maxRecDepth 20000 in
theorem ggL_law_X5_spoil : GoodIn wsL_law wsX5_spoil := goodIn_r _ [386, 110, 111, 112, 2, 113, 521, 522, 523, 524, 525, 526, 527, 528] (by decide +kernel) (by decide +kernel)
set_option maxRecDepth 20000 in
theorem gL_law_X5_spoil : GoodIn wsL_law (wsV RL 74 RX5 yX5_spoil wsX5_spoil) := goodIn_app (goodIn_of _ (by decide +kernel)) ggL_law_X5_spoil
set_option maxRecDepth 20000 in
theorem ggL_law_X6_spoil : GoodIn wsL_law wsX6_spoil := goodIn_r _ [390, 128, 129, 130, 5, 131, 529, 530, 531, 532, 533, 534, 535, 536, 537, 538, 539, 540, 541, 542, 543, 544, 545, 546, 547, 548, 549, 550, 551, 552, 553, 554, 555, 556, 557, 558, 559, 560, 561, 562] (by decide +kernel) (by decide +kernel)
set_option maxRecDepth 20000 in
theorem gL_law_X6_spoil : GoodIn wsL_law (wsV RL 77 RX6 yX6_spoil wsX6_spoil) := goodIn_app (goodIn_of _ (by decide +kernel)) ggL_law_X6_spoil
set_option maxRecDepth 20000 in
theorem ggL_law_X5_letOut : GoodIn wsL_law wsX5_letOut := goodIn_r _ [394, 27, 395, 396, 397, 31, 398, 399, 400, 109, 401, 402, 403, 404, 405, 26, 406, 118, 111, 112, 2, 113, 337, 338, 339, 340, 23, 19, 15, 341, 342, 343, 22, 344, 56, 296, 289, 290, 291, 58, 345, 346, 347, 18, 348, 46, 349, 261, 262, 263, 249, 321, 322, 323, 324, 49, 47, 208, 209, 210, 14, 211, 212, 185, 186, 187, 144, 37, 38, 40, 39, 188, 189, 190, 191, 41, 42, 350, 351, 352, 353, 52, 51, 354, 355, 356, 357, 57, 407, 408, 409, 30, 410, 71, 411, 72, 73, 521, 522, 523, 524, 525, 526, 527, 528, 581, 582, 583, 584, 585, 586, 587, 588, 589, 590, 591, 578, 579, 580, 571, 572, 573, 574, 575, 576, 577, 563, 564, 565, 566, 567, 568, 569, 570] (by decide +kernel) (by decide +kernel)
set_option maxRecDepth 20000 in
theorem gL_law_X5_letOut : GoodIn wsL_law (wsV RL 78 RX5 yX5_letOut wsX5_letOut) := goodIn_app (goodIn_of _ (by decide +kernel)) ggL_law_X5_letOut
set_option maxRecDepth 20000 in
theorem ggL_law_X6_letOut : GoodIn wsL_law wsX6_letOut := goodIn_r _ [415, 416, 95, 417, 418, 419, 94, 126, 96, 100, 101, 102, 420, 421, 422, 423, 5, 424, 127, 129, 130, 131, 362, 363, 364, 365, 91, 92, 93, 366, 367, 368, 369, 104, 85, 88, 89, 90, 329, 330, 331, 332, 254, 86, 217, 218, 219, 220, 196, 197, 198, 199, 149, 79, 80, 82, 81, 200, 201, 202, 203, 103, 83, 84, 529, 530, 531, 532, 533, 534, 535, 536, 537, 538, 539, 540, 541, 542, 543, 544, 545, 546, 547, 548, 549, 550, 551, 552, 553, 554, 555, 556, 557, 558, 559, 560, 561, 562] (by decide +kernel) (by decide +kernel)
set_option maxRecDepth 20000 in
theorem gL_law_X6_letOut : GoodIn wsL_law (wsV RL 82 RX6 yX6_letOut wsX6_letOut) := goodIn_app (goodIn_of _ (by decide +kernel)) ggL_law_X6_letOut
set_option maxRecDepth 20000 in
theorem ggL_law_X5_ship : GoodIn wsL_law wsX5_ship := goodIn_r _ [428, 27, 396, 429, 403, 404, 405, 26, 406, 118, 111, 112, 2, 113, 521, 522, 523, 524, 525, 526, 527, 528, 581, 582, 583, 584, 585, 586, 587] (by decide +kernel) (by decide +kernel)
set_option maxRecDepth 20000 in
theorem gL_law_X5_ship : GoodIn wsL_law (wsV RL 83 RX5 yX5_ship wsX5_ship) := goodIn_app (goodIn_of _ (by decide +kernel)) ggL_law_X5_ship
set_option maxRecDepth 20000 in
theorem ggL_law_X6_ship : GoodIn wsL_law wsX6_ship := goodIn_r _ [433, 95, 97, 421, 422, 423, 5, 424, 127, 129, 130, 131, 529, 530, 531, 532, 533, 534, 535, 536, 537, 538, 539, 540, 541, 542, 543, 544, 545, 546, 547, 548, 549, 550, 551, 552, 553, 554, 555, 556, 557, 558, 559, 560, 561, 562] (by decide +kernel) (by decide +kernel)
set_option maxRecDepth 20000 in
theorem gL_law_X6_ship : GoodIn wsL_law (wsV RL 86 RX6 yX6_ship wsX6_ship) := goodIn_app (goodIn_of _ (by decide +kernel)) ggL_law_X6_ship
set_option maxRecDepth 20000 in
theorem ggL_law_X5_bond : GoodIn wsL_law wsX5_bond := goodIn_r _ [437, 27, 400, 396, 401, 429, 438, 439, 403, 404, 405, 26, 406, 118, 521, 522, 523, 524, 525, 526, 527, 528, 581, 582, 583, 584, 585, 586, 587] (by decide +kernel) (by decide +kernel)
set_option maxRecDepth 20000 in
theorem gL_law_X5_bond : GoodIn wsL_law (wsV RL 87 RX5 yX5_bond wsX5_bond) := goodIn_app (goodIn_of _ (by decide +kernel)) ggL_law_X5_bond
set_option maxRecDepth 20000 in
theorem ggL_law_X6_bond : GoodIn wsL_law wsX6_bond := goodIn_r _ [443, 94, 95, 96, 97, 98, 99, 421, 422, 423, 5, 424, 127, 129, 130, 131, 529, 530, 531, 532, 533, 534, 535, 536, 537, 538, 539, 540, 541, 542, 543, 544, 545, 546, 547, 548, 549, 550, 551, 552, 553, 554, 555, 556, 557, 558, 559, 560, 561, 562] (by decide +kernel) (by decide +kernel)
set_option maxRecDepth 20000 in
theorem gL_law_X6_bond : GoodIn wsL_law (wsV RL 90 RX6 yX6_bond wsX6_bond) := goodIn_app (goodIn_of _ (by decide +kernel)) ggL_law_X6_bond
set_option maxRecDepth 20000 in
theorem ggL_law_X5_chest : GoodIn wsL_law wsX5_chest := goodIn_r _ [447, 402, 521, 522, 523, 524, 525, 526, 527, 528] (by decide +kernel) (by decide +kernel)
set_option maxRecDepth 20000 in
theorem gL_law_X5_chest : GoodIn wsL_law (wsV RL 91 RX5 yX5_chest wsX5_chest) := goodIn_app (goodIn_of _ (by decide +kernel)) ggL_law_X5_chest
set_option maxRecDepth 20000 in
theorem ggL_law_X6_chest : GoodIn wsL_law wsX6_chest := goodIn_r _ [451, 420, 529, 530, 531, 532, 533, 534, 535, 536, 537, 538, 539, 540, 541, 542, 543, 544, 545, 546, 547, 548, 549, 550, 551, 552, 553, 554, 555, 556, 557, 558, 559, 560, 561, 562] (by decide +kernel) (by decide +kernel)
set_option maxRecDepth 20000 in
theorem gL_law_X6_chest : GoodIn wsL_law (wsV RL 95 RX6 yX6_chest wsX6_chest) := goodIn_app (goodIn_of _ (by decide +kernel)) ggL_law_X6_chest
set_option maxRecDepth 20000 in
theorem ggL_law_X5_worth : GoodIn wsL_law wsX5_worth := goodIn_r _ [455, 15, 456, 402, 158, 159, 160, 14, 161, 144, 457, 458, 459, 2, 460, 31, 398, 461, 462, 463, 337, 338, 339, 340, 23, 19, 341, 342, 343, 22, 344, 56, 296, 289, 290, 291, 58, 345, 346, 347, 18, 348, 46, 349, 261, 262, 263, 249, 321, 322, 323, 324, 49, 47, 208, 209, 210, 211, 212, 185, 186, 187, 37, 38, 40, 39, 188, 189, 190, 191, 41, 42, 350, 351, 352, 353, 52, 51, 354, 355, 356, 357, 57, 521, 522, 523, 524, 525, 526, 527, 528, 563, 564, 565, 566, 567, 568, 569, 570, 588, 589, 590, 591, 578, 579, 580, 571, 572, 573, 574, 575, 576, 577] (by decide +kernel) (by decide +kernel)
set_option maxRecDepth 20000 in
theorem gL_law_X5_worth : GoodIn wsL_law (wsV RL 96 RX5 yX5_worth wsX5_worth) := goodIn_app (goodIn_of _ (by decide +kernel)) ggL_law_X5_worth
set_option maxRecDepth 20000 in
theorem ggL_law_X6_worth : GoodIn wsL_law wsX6_worth := goodIn_r _ [467, 149, 468, 103, 420, 129, 130, 5, 131, 469, 470, 471, 472, 418, 102, 100, 101, 362, 363, 364, 365, 91, 92, 93, 366, 367, 368, 369, 104, 85, 88, 89, 90, 329, 330, 331, 332, 254, 86, 217, 218, 219, 220, 196, 197, 198, 199, 79, 80, 82, 81, 200, 201, 202, 203, 83, 84, 529, 530, 531, 532, 533, 534, 535, 536, 537, 538, 539, 540, 541, 542, 543, 544, 545, 546, 547, 548, 549, 550, 551, 552, 553, 554, 555, 556, 557, 558, 559, 560, 561, 562] (by decide +kernel) (by decide +kernel)
set_option maxRecDepth 20000 in
theorem gL_law_X6_worth : GoodIn wsL_law (wsV RL 100 RX6 yX6_worth wsX6_worth) := goodIn_app (goodIn_of _ (by decide +kernel)) ggL_law_X6_worth
set_option maxRecDepth 20000 in
theorem ggL_law_X5_other : GoodIn wsL_law wsX5_other := goodIn_r _ [476, 19, 395, 260, 261, 262, 18, 263, 249, 457, 458, 459, 2, 460, 31, 398, 461, 462, 463, 337, 338, 339, 340, 23, 15, 341, 342, 343, 22, 344, 56, 296, 289, 290, 291, 58, 345, 346, 347, 348, 46, 349, 321, 322, 323, 324, 49, 47, 208, 209, 210, 14, 211, 212, 185, 186, 187, 144, 37, 38, 40, 39, 188, 189, 190, 191, 41, 42, 350, 351, 352, 353, 52, 51, 354, 355, 356, 357, 57, 521, 522, 523, 524, 525, 526, 527, 528, 571, 572, 573, 574, 575, 576, 577, 588, 589, 590, 591, 578, 579, 580, 563, 564, 565, 566, 567, 568, 569, 570] (by decide +kernel) (by decide +kernel)
set_option maxRecDepth 20000 in
theorem gL_law_X5_other : GoodIn wsL_law (wsV RL 101 RX5 yX5_other wsX5_other) := goodIn_app (goodIn_of _ (by decide +kernel)) ggL_law_X5_other
set_option maxRecDepth 20000 in
theorem ggL_law_X6_other : GoodIn wsL_law wsX6_other := goodIn_r _ [480, 416, 104, 280, 281, 282, 5, 283, 254, 129, 130, 131, 469, 470, 471, 472, 418, 102, 100, 101, 362, 363, 364, 365, 91, 92, 93, 366, 367, 368, 369, 85, 88, 89, 90, 329, 330, 331, 332, 86, 217, 218, 219, 220, 196, 197, 198, 199, 149, 79, 80, 82, 81, 200, 201, 202, 203, 103, 83, 84, 529, 530, 531, 532, 533, 534, 535, 536, 537, 538, 539, 540, 541, 542, 543, 544, 545, 546, 547, 548, 549, 550, 551, 552, 553, 554, 555, 556, 557, 558, 559, 560, 561, 562] (by decide +kernel) (by decide +kernel)
set_option maxRecDepth 20000 in
theorem gL_law_X6_other : GoodIn wsL_law (wsV RL 104 RX6 yX6_other wsX6_other) := goodIn_app (goodIn_of _ (by decide +kernel)) ggL_law_X6_other
set_option maxRecDepth 20000 in
theorem ggL_law_X5_gain : GoodIn wsL_law wsX5_gain := goodIn_r _ [484, 27, 109, 456, 403, 404, 405, 26, 406, 118, 111, 112, 2, 113, 485, 486, 487, 488, 400, 110, 337, 338, 339, 340, 23, 19, 15, 341, 342, 343, 22, 344, 56, 296, 289, 290, 291, 58, 345, 346, 347, 18, 348, 46, 349, 261, 262, 263, 249, 321, 322, 323, 324, 49, 47, 208, 209, 210, 14, 211, 212, 185, 186, 187, 144, 37, 38, 40, 39, 188, 189, 190, 191, 41, 42, 350, 351, 352, 353, 52, 51, 354, 355, 356, 357, 57, 489, 490, 491, 492, 63, 119, 120, 121, 521, 522, 523, 524, 525, 526, 527, 528, 581, 582, 583, 584, 585, 586, 587, 578, 579, 580, 571, 572, 573, 574, 575, 576, 577, 563, 564, 565, 566, 567, 568, 569, 570] (by decide +kernel) (by decide +kernel)
set_option maxRecDepth 20000 in
theorem gL_law_X5_gain : GoodIn wsL_law (wsV RL 105 RX5 yX5_gain wsX5_gain) := goodIn_app (goodIn_of _ (by decide +kernel)) ggL_law_X5_gain
set_option maxRecDepth 20000 in
theorem ggL_law_X6_gain : GoodIn wsL_law wsX6_gain := goodIn_r _ [496, 126, 468, 421, 422, 423, 5, 424, 127, 129, 130, 131, 497, 498, 499, 500, 95, 128, 94, 362, 363, 364, 365, 91, 92, 93, 366, 367, 368, 369, 104, 85, 88, 89, 90, 329, 330, 331, 332, 254, 86, 217, 218, 219, 220, 196, 197, 198, 199, 149, 79, 80, 82, 81, 200, 201, 202, 203, 103, 83, 84, 529, 530, 531, 532, 533, 534, 535, 536, 537, 538, 539, 540, 541, 542, 543, 544, 545, 546, 547, 548, 549, 550, 551, 552, 553, 554, 555, 556, 557, 558, 559, 560, 561, 562] (by decide +kernel) (by decide +kernel)
set_option maxRecDepth 20000 in
theorem gL_law_X6_gain : GoodIn wsL_law (wsV RL 109 RX6 yX6_gain wsX6_gain) := goodIn_app (goodIn_of _ (by decide +kernel)) ggL_law_X6_gain
set_option maxRecDepth 20000 in
theorem ggL_law_X5_best : GoodIn wsL_law wsX5_best := goodIn_r _ [504, 27, 109, 403, 404, 405, 26, 406, 118, 111, 112, 2, 113, 485, 486, 487, 488, 400, 110, 337, 338, 339, 340, 23, 19, 15, 341, 342, 343, 22, 344, 56, 296, 289, 290, 291, 58, 345, 346, 347, 18, 348, 46, 349, 261, 262, 263, 249, 321, 322, 323, 324, 49, 47, 208, 209, 210, 14, 211, 212, 185, 186, 187, 144, 37, 38, 40, 39, 188, 189, 190, 191, 41, 42, 350, 351, 352, 353, 52, 51, 354, 355, 356, 357, 57, 489, 490, 491, 492, 63, 119, 120, 121, 521, 522, 523, 524, 525, 526, 527, 528, 581, 582, 583, 584, 585, 586, 587, 578, 579, 580, 571, 572, 573, 574, 575, 576, 577, 563, 564, 565, 566, 567, 568, 569, 570] (by decide +kernel) (by decide +kernel)
set_option maxRecDepth 20000 in
theorem gL_law_X5_best : GoodIn wsL_law (wsV RL 110 RX5 yX5_best wsX5_best) := goodIn_app (goodIn_of _ (by decide +kernel)) ggL_law_X5_best
set_option maxRecDepth 20000 in
theorem ggL_law_X6_best : GoodIn wsL_law wsX6_best := goodIn_r _ [508, 126, 421, 422, 423, 5, 424, 127, 129, 130, 131, 497, 498, 499, 500, 95, 128, 94, 362, 363, 364, 365, 91, 92, 93, 366, 367, 368, 369, 104, 85, 88, 89, 90, 329, 330, 331, 332, 254, 86, 217, 218, 219, 220, 196, 197, 198, 199, 149, 79, 80, 82, 81, 200, 201, 202, 203, 103, 83, 84, 529, 530, 531, 532, 533, 534, 535, 536, 537, 538, 539, 540, 541, 542, 543, 544, 545, 546, 547, 548, 549, 550, 551, 552, 553, 554, 555, 556, 557, 558, 559, 560, 561, 562] (by decide +kernel) (by decide +kernel)
set_option maxRecDepth 20000 in
theorem gL_law_X6_best : GoodIn wsL_law (wsV RL 113 RX6 yX6_best wsX6_best) := goodIn_app (goodIn_of _ (by decide +kernel)) ggL_law_X6_best
set_option maxRecDepth 20000 in
theorem ggL_law_X5_count : GoodIn wsL_law wsX5_count := goodIn_r _ [512, 109, 15, 136, 19, 244, 27, 374, 31, 398, 513, 514, 515, 14, 516, 144, 42, 521, 522, 523, 524, 525, 526, 527, 528, 563, 564, 565, 566, 567, 568, 569, 570, 571, 572, 573, 574, 575, 576, 577, 581, 582, 583, 584, 585, 586, 587, 588, 589, 590, 591] (by decide +kernel) (by decide +kernel)
set_option maxRecDepth 20000 in
theorem gL_law_X5_count : GoodIn wsL_law (wsV RL 114 RX5 yX5_count wsX5_count) := goodIn_app (goodIn_of _ (by decide +kernel)) ggL_law_X5_count
set_option maxRecDepth 20000 in
theorem ggL_law_X6_count : GoodIn wsL_law wsX6_count := goodIn_r _ [520, 126, 149, 84, 254, 127, 418, 529, 530, 531, 532, 533, 534, 535, 536, 537, 538, 539, 540, 541, 542, 543, 544, 545, 546, 547, 548, 549, 550, 551, 552, 553, 554, 555, 556, 557, 558, 559, 560, 561, 562] (by decide +kernel) (by decide +kernel)
set_option maxRecDepth 20000 in
theorem gL_law_X6_count : GoodIn wsL_law (wsV RL 117 RX6 yX6_count wsX6_count) := goodIn_app (goodIn_of _ (by decide +kernel)) ggL_law_X6_count
