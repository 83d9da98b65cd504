theorem dX0_init_0 : decode cX0_init 0 = .ok (.aload_n 0, 1) := by decide +kernel
theorem dX0_init_1 : decode cX0_init 1 = .ok (.invokespecial 3, 3) := by decide +kernel
theorem dX0_init_4 : decode cX0_init 4 = .ok (.aload_n 0, 1) := by decide +kernel
theorem dX0_init_5 : decode cX0_init 5 = .ok (.bipush 20, 2) := by decide +kernel
theorem dX0_init_7 : decode cX0_init 7 = .ok (.newarray .int, 2) := by decide +kernel
theorem dX0_init_9 : decode cX0_init 9 = .ok (.putfield 9, 3) := by decide +kernel
theorem dX0_init_12 : decode cX0_init 12 = .ok (.aload_n 0, 1) := by decide +kernel
theorem dX0_init_13 : decode cX0_init 13 = .ok (.bipush 20, 2) := by decide +kernel
theorem dX0_init_15 : decode cX0_init 15 = .ok (.newarray .int, 2) := by decide +kernel
theorem dX0_init_17 : decode cX0_init 17 = .ok (.putfield 15, 3) := by decide +kernel
theorem dX0_init_20 : decode cX0_init 20 = .ok (.aload_n 0, 1) := by decide +kernel
theorem dX0_init_21 : decode cX0_init 21 = .ok (.bipush 20, 2) := by decide +kernel
theorem dX0_init_23 : decode cX0_init 23 = .ok (.newarray .int, 2) := by decide +kernel
theorem dX0_init_25 : decode cX0_init 25 = .ok (.putfield 18, 3) := by decide +kernel
theorem dX0_init_28 : decode cX0_init 28 = .ok (.aload_n 0, 1) := by decide +kernel
theorem dX0_init_29 : decode cX0_init 29 = .ok (.bipush 20, 2) := by decide +kernel
theorem dX0_init_31 : decode cX0_init 31 = .ok (.newarray .int, 2) := by decide +kernel
theorem dX0_init_33 : decode cX0_init 33 = .ok (.putfield 21, 3) := by decide +kernel
theorem dX0_init_36 : decode cX0_init 36 = .ok (.aload_n 0, 1) := by decide +kernel
theorem dX0_init_37 : decode cX0_init 37 = .ok (.bipush 20, 2) := by decide +kernel
theorem dX0_init_39 : decode cX0_init 39 = .ok (.newarray .int, 2) := by decide +kernel
theorem dX0_init_41 : decode cX0_init 41 = .ok (.putfield 24, 3) := by decide +kernel
theorem dX0_init_44 : decode cX0_init 44 = .ok (.aload_n 0, 1) := by decide +kernel
theorem dX0_init_45 : decode cX0_init 45 = .ok (.bipush 20, 2) := by decide +kernel
theorem dX0_init_47 : decode cX0_init 47 = .ok (.newarray .int, 2) := by decide +kernel
theorem dX0_init_49 : decode cX0_init 49 = .ok (.putfield 27, 3) := by decide +kernel
theorem dX0_init_52 : decode cX0_init 52 = .ok (.return_, 1) := by decide +kernel
theorem dX0_has_0 : decode cX0_has 0 = .ok (.iload_n 1, 1) := by decide +kernel
theorem dX0_has_1 : decode cX0_has 1 = .ok (.ifCond .lt 15, 3) := by decide +kernel
theorem dX0_has_4 : decode cX0_has 4 = .ok (.iload_n 1, 1) := by decide +kernel
theorem dX0_has_5 : decode cX0_has 5 = .ok (.aload_n 0, 1) := by decide +kernel
theorem dX0_has_6 : decode cX0_has 6 = .ok (.getfield 30, 3) := by decide +kernel
theorem dX0_has_9 : decode cX0_has 9 = .ok (.if_icmp .ge 7, 3) := by decide +kernel
theorem dX0_has_12 : decode cX0_has 12 = .ok (.iconst 1, 1) := by decide +kernel
theorem dX0_has_13 : decode cX0_has 13 = .ok (.goto 4, 3) := by decide +kernel
theorem dX0_has_16 : decode cX0_has 16 = .ok (.iconst 0, 1) := by decide +kernel
theorem dX0_has_17 : decode cX0_has 17 = .ok (.ireturn, 1) := by decide +kernel
theorem dX0_add_0 : decode cX0_add 0 = .ok (.aload_n 0, 1) := by decide +kernel
theorem dX0_add_1 : decode cX0_add 1 = .ok (.getfield 30, 3) := by decide +kernel
theorem dX0_add_4 : decode cX0_add 4 = .ok (.istore 4, 2) := by decide +kernel
theorem dX0_add_6 : decode cX0_add 6 = .ok (.aload_n 0, 1) := by decide +kernel
theorem dX0_add_7 : decode cX0_add 7 = .ok (.getfield 9, 3) := by decide +kernel
theorem dX0_add_10 : decode cX0_add 10 = .ok (.iload 4, 2) := by decide +kernel
theorem dX0_add_12 : decode cX0_add 12 = .ok (.iload_n 1, 1) := by decide +kernel
theorem dX0_add_13 : decode cX0_add 13 = .ok (.iastore, 1) := by decide +kernel
theorem dX0_add_14 : decode cX0_add 14 = .ok (.aload_n 0, 1) := by decide +kernel
theorem dX0_add_15 : decode cX0_add 15 = .ok (.getfield 15, 3) := by decide +kernel
theorem dX0_add_18 : decode cX0_add 18 = .ok (.iload 4, 2) := by decide +kernel
theorem dX0_add_20 : decode cX0_add 20 = .ok (.iload_n 2, 1) := by decide +kernel
theorem dX0_add_21 : decode cX0_add 21 = .ok (.iastore, 1) := by decide +kernel
theorem dX0_add_22 : decode cX0_add 22 = .ok (.aload_n 0, 1) := by decide +kernel
theorem dX0_add_23 : decode cX0_add 23 = .ok (.getfield 27, 3) := by decide +kernel
theorem dX0_add_26 : decode cX0_add 26 = .ok (.iload 4, 2) := by decide +kernel
theorem dX0_add_28 : decode cX0_add 28 = .ok (.iload_n 3, 1) := by decide +kernel
theorem dX0_add_29 : decode cX0_add 29 = .ok (.iastore, 1) := by decide +kernel
theorem dX0_add_30 : decode cX0_add 30 = .ok (.aload_n 0, 1) := by decide +kernel
theorem dX0_add_31 : decode cX0_add 31 = .ok (.iload 4, 2) := by decide +kernel
theorem dX0_add_33 : decode cX0_add 33 = .ok (.iconst 1, 1) := by decide +kernel
theorem dX0_add_34 : decode cX0_add 34 = .ok (.iadd, 1) := by decide +kernel
theorem dX0_add_35 : decode cX0_add 35 = .ok (.putfield 30, 3) := by decide +kernel
theorem dX0_add_38 : decode cX0_add 38 = .ok (.iload 4, 2) := by decide +kernel
theorem dX0_add_40 : decode cX0_add 40 = .ok (.ireturn, 1) := by decide +kernel
theorem dX0_lossOf_0 : decode cX0_lossOf 0 = .ok (.iload_n 0, 1) := by decide +kernel
theorem dX0_lossOf_1 : decode cX0_lossOf 1 = .ok (.iload_n 1, 1) := by decide +kernel
theorem dX0_lossOf_2 : decode cX0_lossOf 2 = .ok (.imul, 1) := by decide +kernel
theorem dX0_lossOf_3 : decode cX0_lossOf 3 = .ok (.sipush 1000, 3) := by decide +kernel
theorem dX0_lossOf_6 : decode cX0_lossOf 6 = .ok (.idiv, 1) := by decide +kernel
theorem dX0_lossOf_7 : decode cX0_lossOf 7 = .ok (.ireturn, 1) := by decide +kernel
set_option maxRecDepth 20000 in
theorem ggX0_spoilAll_X0_lossOf : GoodIn wsX0_spoilAll wsX0_lossOf := goodIn_r _ [7] (by decide +kernel) (by decide +kernel)
set_option maxRecDepth 20000 in
theorem gX0_spoilAll_X0_lossOf : GoodIn wsX0_spoilAll (va_wsS RX0 34 yX0_lossOf wsX0_lossOf) := goodIn_app (goodIn_of _ (by decide +kernel)) ggX0_spoilAll_X0_lossOf
theorem dX0_spoilAll_0 : decode cX0_spoilAll 0 = .ok (.iconst 0, 1) := by decide +kernel
theorem dX0_spoilAll_1 : decode cX0_spoilAll 1 = .ok (.istore_n 2, 1) := by decide +kernel
theorem dX0_spoilAll_2 : decode cX0_spoilAll 2 = .ok (.iload_n 2, 1) := by decide +kernel
theorem dX0_spoilAll_3 : decode cX0_spoilAll 3 = .ok (.aload_n 0, 1) := by decide +kernel
theorem dX0_spoilAll_4 : decode cX0_spoilAll 4 = .ok (.getfield 30, 3) := by decide +kernel
theorem dX0_spoilAll_7 : decode cX0_spoilAll 7 = .ok (.if_icmp .ge 40, 3) := by decide +kernel
theorem dX0_spoilAll_10 : decode cX0_spoilAll 10 = .ok (.aload_n 0, 1) := by decide +kernel
theorem dX0_spoilAll_11 : decode cX0_spoilAll 11 = .ok (.getfield 15, 3) := by decide +kernel
theorem dX0_spoilAll_14 : decode cX0_spoilAll 14 = .ok (.iload_n 2, 1) := by decide +kernel
theorem dX0_spoilAll_15 : decode cX0_spoilAll 15 = .ok (.iaload, 1) := by decide +kernel
theorem dX0_spoilAll_16 : decode cX0_spoilAll 16 = .ok (.iload_n 1, 1) := by decide +kernel
theorem dX0_spoilAll_17 : decode cX0_spoilAll 17 = .ok (.invokestatic 34, 3) := by decide +kernel
theorem dX0_spoilAll_20 : decode cX0_spoilAll 20 = .ok (.istore_n 3, 1) := by decide +kernel
theorem dX0_spoilAll_21 : decode cX0_spoilAll 21 = .ok (.aload_n 0, 1) := by decide +kernel
theorem dX0_spoilAll_22 : decode cX0_spoilAll 22 = .ok (.getfield 15, 3) := by decide +kernel
theorem dX0_spoilAll_25 : decode cX0_spoilAll 25 = .ok (.iload_n 2, 1) := by decide +kernel
theorem dX0_spoilAll_26 : decode cX0_spoilAll 26 = .ok (.dup2, 1) := by decide +kernel
theorem dX0_spoilAll_27 : decode cX0_spoilAll 27 = .ok (.iaload, 1) := by decide +kernel
theorem dX0_spoilAll_28 : decode cX0_spoilAll 28 = .ok (.iload_n 3, 1) := by decide +kernel
theorem dX0_spoilAll_29 : decode cX0_spoilAll 29 = .ok (.isub, 1) := by decide +kernel
theorem dX0_spoilAll_30 : decode cX0_spoilAll 30 = .ok (.iastore, 1) := by decide +kernel
theorem dX0_spoilAll_31 : decode cX0_spoilAll 31 = .ok (.aload_n 0, 1) := by decide +kernel
theorem dX0_spoilAll_32 : decode cX0_spoilAll 32 = .ok (.getfield 24, 3) := by decide +kernel
theorem dX0_spoilAll_35 : decode cX0_spoilAll 35 = .ok (.iload_n 2, 1) := by decide +kernel
theorem dX0_spoilAll_36 : decode cX0_spoilAll 36 = .ok (.dup2, 1) := by decide +kernel
theorem dX0_spoilAll_37 : decode cX0_spoilAll 37 = .ok (.iaload, 1) := by decide +kernel
theorem dX0_spoilAll_38 : decode cX0_spoilAll 38 = .ok (.iload_n 3, 1) := by decide +kernel
theorem dX0_spoilAll_39 : decode cX0_spoilAll 39 = .ok (.iadd, 1) := by decide +kernel
theorem dX0_spoilAll_40 : decode cX0_spoilAll 40 = .ok (.iastore, 1) := by decide +kernel
theorem dX0_spoilAll_41 : decode cX0_spoilAll 41 = .ok (.iinc 2 1, 3) := by decide +kernel
theorem dX0_spoilAll_44 : decode cX0_spoilAll 44 = .ok (.goto (-42), 3) := by decide +kernel
theorem dX0_spoilAll_47 : decode cX0_spoilAll 47 = .ok (.return_, 1) := by decide +kernel
set_option maxRecDepth 20000 in
theorem ggX0_leftAfter_X0_lossOf : GoodIn wsX0_leftAfter wsX0_lossOf := goodIn_r _ [5] (by decide +kernel) (by decide +kernel)
set_option maxRecDepth 20000 in
theorem gX0_leftAfter_X0_lossOf : GoodIn wsX0_leftAfter (va_wsS RX0 34 yX0_lossOf wsX0_lossOf) := goodIn_app (goodIn_of _ (by decide +kernel)) ggX0_leftAfter_X0_lossOf
theorem dX0_leftAfter_0 : decode cX0_leftAfter 0 = .ok (.aload_n 0, 1) := by decide +kernel
theorem dX0_leftAfter_1 : decode cX0_leftAfter 1 = .ok (.getfield 15, 3) := by decide +kernel
theorem dX0_leftAfter_4 : decode cX0_leftAfter 4 = .ok (.iload_n 1, 1) := by decide +kernel
theorem dX0_leftAfter_5 : decode cX0_leftAfter 5 = .ok (.iaload, 1) := by decide +kernel
theorem dX0_leftAfter_6 : decode cX0_leftAfter 6 = .ok (.istore 4, 2) := by decide +kernel
theorem dX0_leftAfter_8 : decode cX0_leftAfter 8 = .ok (.iconst 0, 1) := by decide +kernel
theorem dX0_leftAfter_9 : decode cX0_leftAfter 9 = .ok (.istore 5, 2) := by decide +kernel
theorem dX0_leftAfter_11 : decode cX0_leftAfter 11 = .ok (.iload 5, 2) := by decide +kernel
theorem dX0_leftAfter_13 : decode cX0_leftAfter 13 = .ok (.iload_n 2, 1) := by decide +kernel
theorem dX0_leftAfter_14 : decode cX0_leftAfter 14 = .ok (.if_icmp .ge 20, 3) := by decide +kernel
theorem dX0_leftAfter_17 : decode cX0_leftAfter 17 = .ok (.iload 4, 2) := by decide +kernel
theorem dX0_leftAfter_19 : decode cX0_leftAfter 19 = .ok (.iload 4, 2) := by decide +kernel
theorem dX0_leftAfter_21 : decode cX0_leftAfter 21 = .ok (.iload_n 3, 1) := by decide +kernel
theorem dX0_leftAfter_22 : decode cX0_leftAfter 22 = .ok (.invokestatic 34, 3) := by decide +kernel
theorem dX0_leftAfter_25 : decode cX0_leftAfter 25 = .ok (.isub, 1) := by decide +kernel
theorem dX0_leftAfter_26 : decode cX0_leftAfter 26 = .ok (.istore 4, 2) := by decide +kernel
theorem dX0_leftAfter_28 : decode cX0_leftAfter 28 = .ok (.iinc 5 1, 3) := by decide +kernel
theorem dX0_leftAfter_31 : decode cX0_leftAfter 31 = .ok (.goto (-20), 3) := by decide +kernel
theorem dX0_leftAfter_34 : decode cX0_leftAfter 34 = .ok (.iload 4, 2) := by decide +kernel
theorem dX0_leftAfter_36 : decode cX0_leftAfter 36 = .ok (.ireturn, 1) := by decide +kernel
theorem dX1_init_0 : decode cX1_init 0 = .ok (.aload_n 0, 1) := by decide +kernel
theorem dX1_init_1 : decode cX1_init 1 = .ok (.invokespecial 3, 3) := by decide +kernel
theorem dX1_init_4 : decode cX1_init 4 = .ok (.aload_n 0, 1) := by decide +kernel
theorem dX1_init_5 : decode cX1_init 5 = .ok (.iconst 3, 1) := by decide +kernel
theorem dX1_init_6 : decode cX1_init 6 = .ok (.newarray .int, 2) := by decide +kernel
theorem dX1_init_8 : decode cX1_init 8 = .ok (.putfield 9, 3) := by decide +kernel
theorem dX1_init_11 : decode cX1_init 11 = .ok (.aload_n 0, 1) := by decide +kernel
theorem dX1_init_12 : decode cX1_init 12 = .ok (.iconst 3, 1) := by decide +kernel
theorem dX1_init_13 : decode cX1_init 13 = .ok (.newarray .int, 2) := by decide +kernel
theorem dX1_init_15 : decode cX1_init 15 = .ok (.putfield 15, 3) := by decide +kernel
theorem dX1_init_18 : decode cX1_init 18 = .ok (.aload_n 0, 1) := by decide +kernel
theorem dX1_init_19 : decode cX1_init 19 = .ok (.iconst 3, 1) := by decide +kernel
theorem dX1_init_20 : decode cX1_init 20 = .ok (.newarray .int, 2) := by decide +kernel
theorem dX1_init_22 : decode cX1_init 22 = .ok (.putfield 18, 3) := by decide +kernel
theorem dX1_init_25 : decode cX1_init 25 = .ok (.return_, 1) := by decide +kernel
theorem dX1_hangs_0 : decode cX1_hangs 0 = .ok (.aload_n 0, 1) := by decide +kernel
theorem dX1_hangs_1 : decode cX1_hangs 1 = .ok (.getfield 18, 3) := by decide +kernel
theorem dX1_hangs_4 : decode cX1_hangs 4 = .ok (.iload_n 1, 1) := by decide +kernel
theorem dX1_hangs_5 : decode cX1_hangs 5 = .ok (.iaload, 1) := by decide +kernel
theorem dX1_hangs_6 : decode cX1_hangs 6 = .ok (.ifCond .le 7, 3) := by decide +kernel
theorem dX1_hangs_9 : decode cX1_hangs 9 = .ok (.iconst 1, 1) := by decide +kernel
theorem dX1_hangs_10 : decode cX1_hangs 10 = .ok (.goto 4, 3) := by decide +kernel
theorem dX1_hangs_13 : decode cX1_hangs 13 = .ok (.iconst 0, 1) := by decide +kernel
theorem dX1_hangs_14 : decode cX1_hangs 14 = .ok (.ireturn, 1) := by decide +kernel
set_option maxRecDepth 20000 in
theorem ggX1_bearsOne_X1_hangs : GoodIn wsX1_bearsOne wsX1_hangs := goodIn_r _ [6, 7, 8, 9, 10] (by decide +kernel) (by decide +kernel)
set_option maxRecDepth 20000 in
theorem gX1_bearsOne_X1_hangs : GoodIn wsX1_bearsOne (wsV RX1 21 RX1 yX1_hangs wsX1_hangs) := goodIn_app (goodIn_of _ (by decide +kernel)) ggX1_bearsOne_X1_hangs
theorem dX1_bearsOne_0 : decode cX1_bearsOne 0 = .ok (.iconst 0, 1) := by decide +kernel
theorem dX1_bearsOne_1 : decode cX1_bearsOne 1 = .ok (.istore_n 2, 1) := by decide +kernel
theorem dX1_bearsOne_2 : decode cX1_bearsOne 2 = .ok (.iload_n 2, 1) := by decide +kernel
theorem dX1_bearsOne_3 : decode cX1_bearsOne 3 = .ok (.iconst 3, 1) := by decide +kernel
theorem dX1_bearsOne_4 : decode cX1_bearsOne 4 = .ok (.if_icmp .ge 29, 3) := by decide +kernel
theorem dX1_bearsOne_7 : decode cX1_bearsOne 7 = .ok (.aload_n 0, 1) := by decide +kernel
theorem dX1_bearsOne_8 : decode cX1_bearsOne 8 = .ok (.iload_n 2, 1) := by decide +kernel
theorem dX1_bearsOne_9 : decode cX1_bearsOne 9 = .ok (.invokevirtual 21, 3) := by decide +kernel
theorem dX1_bearsOne_12 : decode cX1_bearsOne 12 = .ok (.ifCond .eq 15, 3) := by decide +kernel
theorem dX1_bearsOne_15 : decode cX1_bearsOne 15 = .ok (.aload_n 0, 1) := by decide +kernel
theorem dX1_bearsOne_16 : decode cX1_bearsOne 16 = .ok (.getfield 9, 3) := by decide +kernel
theorem dX1_bearsOne_19 : decode cX1_bearsOne 19 = .ok (.iload_n 2, 1) := by decide +kernel
theorem dX1_bearsOne_20 : decode cX1_bearsOne 20 = .ok (.iaload, 1) := by decide +kernel
theorem dX1_bearsOne_21 : decode cX1_bearsOne 21 = .ok (.iload_n 1, 1) := by decide +kernel
theorem dX1_bearsOne_22 : decode cX1_bearsOne 22 = .ok (.if_icmp .ne 5, 3) := by decide +kernel
theorem dX1_bearsOne_25 : decode cX1_bearsOne 25 = .ok (.iconst 1, 1) := by decide +kernel
theorem dX1_bearsOne_26 : decode cX1_bearsOne 26 = .ok (.ireturn, 1) := by decide +kernel
theorem dX1_bearsOne_27 : decode cX1_bearsOne 27 = .ok (.iinc 2 1, 3) := by decide +kernel
theorem dX1_bearsOne_30 : decode cX1_bearsOne 30 = .ok (.goto (-28), 3) := by decide +kernel
theorem dX1_bearsOne_33 : decode cX1_bearsOne 33 = .ok (.iconst 0, 1) := by decide +kernel
theorem dX1_bearsOne_34 : decode cX1_bearsOne 34 = .ok (.ireturn, 1) := by decide +kernel
theorem dX1_put_0 : decode cX1_put 0 = .ok (.aload_n 0, 1) := by decide +kernel
theorem dX1_put_1 : decode cX1_put 1 = .ok (.getfield 9, 3) := by decide +kernel
theorem dX1_put_4 : decode cX1_put 4 = .ok (.iload_n 1, 1) := by decide +kernel
theorem dX1_put_5 : decode cX1_put 5 = .ok (.iload_n 2, 1) := by decide +kernel
theorem dX1_put_6 : decode cX1_put 6 = .ok (.iastore, 1) := by decide +kernel
theorem dX1_put_7 : decode cX1_put 7 = .ok (.aload_n 0, 1) := by decide +kernel
theorem dX1_put_8 : decode cX1_put 8 = .ok (.getfield 15, 3) := by decide +kernel
theorem dX1_put_11 : decode cX1_put 11 = .ok (.iload_n 1, 1) := by decide +kernel
theorem dX1_put_12 : decode cX1_put 12 = .ok (.iload_n 3, 1) := by decide +kernel
theorem dX1_put_13 : decode cX1_put 13 = .ok (.iastore, 1) := by decide +kernel
theorem dX1_put_14 : decode cX1_put 14 = .ok (.aload_n 0, 1) := by decide +kernel
theorem dX1_put_15 : decode cX1_put 15 = .ok (.getfield 18, 3) := by decide +kernel
theorem dX1_put_18 : decode cX1_put 18 = .ok (.iload_n 1, 1) := by decide +kernel
theorem dX1_put_19 : decode cX1_put 19 = .ok (.iload 4, 2) := by decide +kernel
theorem dX1_put_21 : decode cX1_put 21 = .ok (.iastore, 1) := by decide +kernel
theorem dX1_put_22 : decode cX1_put 22 = .ok (.return_, 1) := by decide +kernel
theorem dX1_take_0 : decode cX1_take 0 = .ok (.aload_n 0, 1) := by decide +kernel
theorem dX1_take_1 : decode cX1_take 1 = .ok (.getfield 18, 3) := by decide +kernel
theorem dX1_take_4 : decode cX1_take 4 = .ok (.iload_n 1, 1) := by decide +kernel
theorem dX1_take_5 : decode cX1_take 5 = .ok (.iconst 0, 1) := by decide +kernel
theorem dX1_take_6 : decode cX1_take 6 = .ok (.iastore, 1) := by decide +kernel
theorem dX1_take_7 : decode cX1_take 7 = .ok (.return_, 1) := by decide +kernel
set_option maxRecDepth 20000 in
theorem ggX1_rulingOver_X1_hangs : GoodIn wsX1_rulingOver wsX1_hangs := goodIn_r _ [6, 7, 8, 9, 10] (by decide +kernel) (by decide +kernel)
set_option maxRecDepth 20000 in
theorem gX1_rulingOver_X1_hangs : GoodIn wsX1_rulingOver (wsV RX1 21 RX1 yX1_hangs wsX1_hangs) := goodIn_app (goodIn_of _ (by decide +kernel)) ggX1_rulingOver_X1_hangs
theorem dX1_rulingOver_0 : decode cX1_rulingOver 0 = .ok (.aload_n 0, 1) := by decide +kernel
theorem dX1_rulingOver_1 : decode cX1_rulingOver 1 = .ok (.iload_n 1, 1) := by decide +kernel
theorem dX1_rulingOver_2 : decode cX1_rulingOver 2 = .ok (.invokevirtual 21, 3) := by decide +kernel
theorem dX1_rulingOver_5 : decode cX1_rulingOver 5 = .ok (.ifCond .eq 12, 3) := by decide +kernel
theorem dX1_rulingOver_8 : decode cX1_rulingOver 8 = .ok (.aload_n 0, 1) := by decide +kernel
theorem dX1_rulingOver_9 : decode cX1_rulingOver 9 = .ok (.getfield 9, 3) := by decide +kernel
theorem dX1_rulingOver_12 : decode cX1_rulingOver 12 = .ok (.iload_n 1, 1) := by decide +kernel
theorem dX1_rulingOver_13 : decode cX1_rulingOver 13 = .ok (.iaload, 1) := by decide +kernel
theorem dX1_rulingOver_14 : decode cX1_rulingOver 14 = .ok (.goto 4, 3) := by decide +kernel
theorem dX1_rulingOver_17 : decode cX1_rulingOver 17 = .ok (.iload_n 1, 1) := by decide +kernel
theorem dX1_rulingOver_18 : decode cX1_rulingOver 18 = .ok (.ireturn, 1) := by decide +kernel
set_option maxRecDepth 20000 in
theorem ggX1_inProportion_X1_hangs : GoodIn wsX1_inProportion wsX1_hangs := goodIn_r _ [7, 2, 8, 9, 10] (by decide +kernel) (by decide +kernel)
set_option maxRecDepth 20000 in
theorem gX1_inProportion_X1_hangs : GoodIn wsX1_inProportion (wsV RX1 21 RX1 yX1_hangs wsX1_hangs) := goodIn_app (goodIn_of _ (by decide +kernel)) ggX1_inProportion_X1_hangs
theorem dX1_inProportion_0 : decode cX1_inProportion 0 = .ok (.aload_n 0, 1) := by decide +kernel
theorem dX1_inProportion_1 : decode cX1_inProportion 1 = .ok (.iload_n 1, 1) := by decide +kernel
theorem dX1_inProportion_2 : decode cX1_inProportion 2 = .ok (.invokevirtual 21, 3) := by decide +kernel
theorem dX1_inProportion_5 : decode cX1_inProportion 5 = .ok (.ifCond .eq 21, 3) := by decide +kernel
theorem dX1_inProportion_8 : decode cX1_inProportion 8 = .ok (.iload_n 2, 1) := by decide +kernel
theorem dX1_inProportion_9 : decode cX1_inProportion 9 = .ok (.aload_n 0, 1) := by decide +kernel
theorem dX1_inProportion_10 : decode cX1_inProportion 10 = .ok (.getfield 15, 3) := by decide +kernel
theorem dX1_inProportion_13 : decode cX1_inProportion 13 = .ok (.iload_n 1, 1) := by decide +kernel
theorem dX1_inProportion_14 : decode cX1_inProportion 14 = .ok (.iaload, 1) := by decide +kernel
theorem dX1_inProportion_15 : decode cX1_inProportion 15 = .ok (.imul, 1) := by decide +kernel
theorem dX1_inProportion_16 : decode cX1_inProportion 16 = .ok (.aload_n 0, 1) := by decide +kernel
theorem dX1_inProportion_17 : decode cX1_inProportion 17 = .ok (.getfield 18, 3) := by decide +kernel
theorem dX1_inProportion_20 : decode cX1_inProportion 20 = .ok (.iload_n 1, 1) := by decide +kernel
theorem dX1_inProportion_21 : decode cX1_inProportion 21 = .ok (.iaload, 1) := by decide +kernel
theorem dX1_inProportion_22 : decode cX1_inProportion 22 = .ok (.idiv, 1) := by decide +kernel
theorem dX1_inProportion_23 : decode cX1_inProportion 23 = .ok (.goto 4, 3) := by decide +kernel
theorem dX1_inProportion_26 : decode cX1_inProportion 26 = .ok (.iload_n 2, 1) := by decide +kernel
theorem dX1_inProportion_27 : decode cX1_inProportion 27 = .ok (.ireturn, 1) := by decide +kernel
theorem dX2_init_0 : decode cX2_init 0 = .ok (.aload_n 0, 1) := by decide +kernel
theorem dX2_init_1 : decode cX2_init 1 = .ok (.invokespecial 3, 3) := by decide +kernel
theorem dX2_init_4 : decode cX2_init 4 = .ok (.aload_n 0, 1) := by decide +kernel
theorem dX2_init_5 : decode cX2_init 5 = .ok (.bipush 100, 2) := by decide +kernel
theorem dX2_init_7 : decode cX2_init 7 = .ok (.newarray .int, 2) := by decide +kernel
theorem dX2_init_9 : decode cX2_init 9 = .ok (.putfield 9, 3) := by decide +kernel
theorem dX2_init_12 : decode cX2_init 12 = .ok (.aload_n 0, 1) := by decide +kernel
theorem dX2_init_13 : decode cX2_init 13 = .ok (.bipush 100, 2) := by decide +kernel
theorem dX2_init_15 : decode cX2_init 15 = .ok (.newarray .int, 2) := by decide +kernel
theorem dX2_init_17 : decode cX2_init 17 = .ok (.putfield 15, 3) := by decide +kernel
theorem dX2_init_20 : decode cX2_init 20 = .ok (.aload_n 0, 1) := by decide +kernel
theorem dX2_init_21 : decode cX2_init 21 = .ok (.bipush 100, 2) := by decide +kernel
theorem dX2_init_23 : decode cX2_init 23 = .ok (.newarray .int, 2) := by decide +kernel
theorem dX2_init_25 : decode cX2_init 25 = .ok (.putfield 18, 3) := by decide +kernel
theorem dX2_init_28 : decode cX2_init 28 = .ok (.return_, 1) := by decide +kernel
theorem dX2_add_0 : decode cX2_add 0 = .ok (.aload_n 0, 1) := by decide +kernel
theorem dX2_add_1 : decode cX2_add 1 = .ok (.getfield 9, 3) := by decide +kernel
theorem dX2_add_4 : decode cX2_add 4 = .ok (.aload_n 0, 1) := by decide +kernel
theorem dX2_add_5 : decode cX2_add 5 = .ok (.getfield 21, 3) := by decide +kernel
theorem dX2_add_8 : decode cX2_add 8 = .ok (.iload_n 1, 1) := by decide +kernel
theorem dX2_add_9 : decode cX2_add 9 = .ok (.iastore, 1) := by decide +kernel
theorem dX2_add_10 : decode cX2_add 10 = .ok (.aload_n 0, 1) := by decide +kernel
theorem dX2_add_11 : decode cX2_add 11 = .ok (.getfield 15, 3) := by decide +kernel
theorem dX2_add_14 : decode cX2_add 14 = .ok (.aload_n 0, 1) := by decide +kernel
theorem dX2_add_15 : decode cX2_add 15 = .ok (.getfield 21, 3) := by decide +kernel
theorem dX2_add_18 : decode cX2_add 18 = .ok (.iload_n 2, 1) := by decide +kernel
theorem dX2_add_19 : decode cX2_add 19 = .ok (.iastore, 1) := by decide +kernel
theorem dX2_add_20 : decode cX2_add 20 = .ok (.aload_n 0, 1) := by decide +kernel
theorem dX2_add_21 : decode cX2_add 21 = .ok (.getfield 18, 3) := by decide +kernel
theorem dX2_add_24 : decode cX2_add 24 = .ok (.aload_n 0, 1) := by decide +kernel
theorem dX2_add_25 : decode cX2_add 25 = .ok (.getfield 21, 3) := by decide +kernel
theorem dX2_add_28 : decode cX2_add 28 = .ok (.iload_n 3, 1) := by decide +kernel
theorem dX2_add_29 : decode cX2_add 29 = .ok (.iastore, 1) := by decide +kernel
theorem dX2_add_30 : decode cX2_add 30 = .ok (.aload_n 0, 1) := by decide +kernel
theorem dX2_add_31 : decode cX2_add 31 = .ok (.dup, 1) := by decide +kernel
theorem dX2_add_32 : decode cX2_add 32 = .ok (.getfield 21, 3) := by decide +kernel
theorem dX2_add_35 : decode cX2_add 35 = .ok (.iconst 1, 1) := by decide +kernel
theorem dX2_add_36 : decode cX2_add 36 = .ok (.iadd, 1) := by decide +kernel
theorem dX2_add_37 : decode cX2_add 37 = .ok (.putfield 21, 3) := by decide +kernel
theorem dX2_add_40 : decode cX2_add 40 = .ok (.return_, 1) := by decide +kernel
theorem dX3_init_0 : decode cX3_init 0 = .ok (.aload_n 0, 1) := by decide +kernel
theorem dX3_init_1 : decode cX3_init 1 = .ok (.invokespecial 3, 3) := by decide +kernel
theorem dX3_init_4 : decode cX3_init 4 = .ok (.aload_n 0, 1) := by decide +kernel
theorem dX3_init_5 : decode cX3_init 5 = .ok (.bipush 60, 2) := by decide +kernel
theorem dX3_init_7 : decode cX3_init 7 = .ok (.newarray .int, 2) := by decide +kernel
theorem dX3_init_9 : decode cX3_init 9 = .ok (.putfield 9, 3) := by decide +kernel
theorem dX3_init_12 : decode cX3_init 12 = .ok (.aload_n 0, 1) := by decide +kernel
theorem dX3_init_13 : decode cX3_init 13 = .ok (.bipush 60, 2) := by decide +kernel
theorem dX3_init_15 : decode cX3_init 15 = .ok (.newarray .int, 2) := by decide +kernel
theorem dX3_init_17 : decode cX3_init 17 = .ok (.putfield 15, 3) := by decide +kernel
theorem dX3_init_20 : decode cX3_init 20 = .ok (.aload_n 0, 1) := by decide +kernel
theorem dX3_init_21 : decode cX3_init 21 = .ok (.bipush 60, 2) := by decide +kernel
theorem dX3_init_23 : decode cX3_init 23 = .ok (.newarray .int, 2) := by decide +kernel
theorem dX3_init_25 : decode cX3_init 25 = .ok (.putfield 18, 3) := by decide +kernel
theorem dX3_init_28 : decode cX3_init 28 = .ok (.aload_n 0, 1) := by decide +kernel
theorem dX3_init_29 : decode cX3_init 29 = .ok (.bipush 60, 2) := by decide +kernel
theorem dX3_init_31 : decode cX3_init 31 = .ok (.newarray .int, 2) := by decide +kernel
theorem dX3_init_33 : decode cX3_init 33 = .ok (.putfield 21, 3) := by decide +kernel
theorem dX3_init_36 : decode cX3_init 36 = .ok (.aload_n 0, 1) := by decide +kernel
theorem dX3_init_37 : decode cX3_init 37 = .ok (.bipush 60, 2) := by decide +kernel
theorem dX3_init_39 : decode cX3_init 39 = .ok (.newarray .int, 2) := by decide +kernel
theorem dX3_init_41 : decode cX3_init 41 = .ok (.putfield 24, 3) := by decide +kernel
theorem dX3_init_44 : decode cX3_init 44 = .ok (.aload_n 0, 1) := by decide +kernel
theorem dX3_init_45 : decode cX3_init 45 = .ok (.bipush 60, 2) := by decide +kernel
theorem dX3_init_47 : decode cX3_init 47 = .ok (.newarray .int, 2) := by decide +kernel
theorem dX3_init_49 : decode cX3_init 49 = .ok (.putfield 27, 3) := by decide +kernel
theorem dX3_init_52 : decode cX3_init 52 = .ok (.aload_n 0, 1) := by decide +kernel
theorem dX3_init_53 : decode cX3_init 53 = .ok (.bipush 60, 2) := by decide +kernel
theorem dX3_init_55 : decode cX3_init 55 = .ok (.newarray .int, 2) := by decide +kernel
theorem dX3_init_57 : decode cX3_init 57 = .ok (.putfield 30, 3) := by decide +kernel
theorem dX3_init_60 : decode cX3_init 60 = .ok (.return_, 1) := by decide +kernel
theorem dX3_has_0 : decode cX3_has 0 = .ok (.iload_n 1, 1) := by decide +kernel
theorem dX3_has_1 : decode cX3_has 1 = .ok (.ifCond .lt 15, 3) := by decide +kernel
theorem dX3_has_4 : decode cX3_has 4 = .ok (.iload_n 1, 1) := by decide +kernel
theorem dX3_has_5 : decode cX3_has 5 = .ok (.aload_n 0, 1) := by decide +kernel
theorem dX3_has_6 : decode cX3_has 6 = .ok (.getfield 33, 3) := by decide +kernel
theorem dX3_has_9 : decode cX3_has 9 = .ok (.if_icmp .ge 7, 3) := by decide +kernel
theorem dX3_has_12 : decode cX3_has 12 = .ok (.iconst 1, 1) := by decide +kernel
theorem dX3_has_13 : decode cX3_has 13 = .ok (.goto 4, 3) := by decide +kernel
theorem dX3_has_16 : decode cX3_has 16 = .ok (.iconst 0, 1) := by decide +kernel
theorem dX3_has_17 : decode cX3_has 17 = .ok (.ireturn, 1) := by decide +kernel
theorem dX3_add_0 : decode cX3_add 0 = .ok (.aload_n 0, 1) := by decide +kernel
theorem dX3_add_1 : decode cX3_add 1 = .ok (.getfield 33, 3) := by decide +kernel
theorem dX3_add_4 : decode cX3_add 4 = .ok (.istore 7, 2) := by decide +kernel
theorem dX3_add_6 : decode cX3_add 6 = .ok (.aload_n 0, 1) := by decide +kernel
theorem dX3_add_7 : decode cX3_add 7 = .ok (.getfield 9, 3) := by decide +kernel
theorem dX3_add_10 : decode cX3_add 10 = .ok (.iload 7, 2) := by decide +kernel
theorem dX3_add_12 : decode cX3_add 12 = .ok (.iload_n 1, 1) := by decide +kernel
theorem dX3_add_13 : decode cX3_add 13 = .ok (.iastore, 1) := by decide +kernel
theorem dX3_add_14 : decode cX3_add 14 = .ok (.aload_n 0, 1) := by decide +kernel
theorem dX3_add_15 : decode cX3_add 15 = .ok (.getfield 15, 3) := by decide +kernel
theorem dX3_add_18 : decode cX3_add 18 = .ok (.iload 7, 2) := by decide +kernel
theorem dX3_add_20 : decode cX3_add 20 = .ok (.iload_n 2, 1) := by decide +kernel
theorem dX3_add_21 : decode cX3_add 21 = .ok (.iastore, 1) := by decide +kernel
theorem dX3_add_22 : decode cX3_add 22 = .ok (.aload_n 0, 1) := by decide +kernel
theorem dX3_add_23 : decode cX3_add 23 = .ok (.getfield 18, 3) := by decide +kernel
theorem dX3_add_26 : decode cX3_add 26 = .ok (.iload 7, 2) := by decide +kernel
theorem dX3_add_28 : decode cX3_add 28 = .ok (.iload_n 3, 1) := by decide +kernel
theorem dX3_add_29 : decode cX3_add 29 = .ok (.iastore, 1) := by decide +kernel
theorem dX3_add_30 : decode cX3_add 30 = .ok (.aload_n 0, 1) := by decide +kernel
theorem dX3_add_31 : decode cX3_add 31 = .ok (.getfield 21, 3) := by decide +kernel
theorem dX3_add_34 : decode cX3_add 34 = .ok (.iload 7, 2) := by decide +kernel
theorem dX3_add_36 : decode cX3_add 36 = .ok (.iload 4, 2) := by decide +kernel
theorem dX3_add_38 : decode cX3_add 38 = .ok (.iastore, 1) := by decide +kernel
theorem dX3_add_39 : decode cX3_add 39 = .ok (.aload_n 0, 1) := by decide +kernel
theorem dX3_add_40 : decode cX3_add 40 = .ok (.getfield 24, 3) := by decide +kernel
theorem dX3_add_43 : decode cX3_add 43 = .ok (.iload 7, 2) := by decide +kernel
theorem dX3_add_45 : decode cX3_add 45 = .ok (.iload 5, 2) := by decide +kernel
theorem dX3_add_47 : decode cX3_add 47 = .ok (.iastore, 1) := by decide +kernel
theorem dX3_add_48 : decode cX3_add 48 = .ok (.aload_n 0, 1) := by decide +kernel
theorem dX3_add_49 : decode cX3_add 49 = .ok (.getfield 27, 3) := by decide +kernel
theorem dX3_add_52 : decode cX3_add 52 = .ok (.iload 7, 2) := by decide +kernel
theorem dX3_add_54 : decode cX3_add 54 = .ok (.iload 6, 2) := by decide +kernel
theorem dX3_add_56 : decode cX3_add 56 = .ok (.iastore, 1) := by decide +kernel
theorem dX3_add_57 : decode cX3_add 57 = .ok (.aload_n 0, 1) := by decide +kernel
theorem dX3_add_58 : decode cX3_add 58 = .ok (.getfield 30, 3) := by decide +kernel
theorem dX3_add_61 : decode cX3_add 61 = .ok (.iload 7, 2) := by decide +kernel
theorem dX3_add_63 : decode cX3_add 63 = .ok (.iconst (-1), 1) := by decide +kernel
theorem dX3_add_64 : decode cX3_add 64 = .ok (.iastore, 1) := by decide +kernel
theorem dX3_add_65 : decode cX3_add 65 = .ok (.aload_n 0, 1) := by decide +kernel
theorem dX3_add_66 : decode cX3_add 66 = .ok (.iload 7, 2) := by decide +kernel
theorem dX3_add_68 : decode cX3_add 68 = .ok (.iconst 1, 1) := by decide +kernel
theorem dX3_add_69 : decode cX3_add 69 = .ok (.iadd, 1) := by decide +kernel
theorem dX3_add_70 : decode cX3_add 70 = .ok (.putfield 33, 3) := by decide +kernel
theorem dX3_add_73 : decode cX3_add 73 = .ok (.iload 7, 2) := by decide +kernel
theorem dX3_add_75 : decode cX3_add 75 = .ok (.ireturn, 1) := by decide +kernel
theorem dX3_struckOnes_0 : decode cX3_struckOnes 0 = .ok (.iconst 0, 1) := by decide +kernel
theorem dX3_struckOnes_1 : decode cX3_struckOnes 1 = .ok (.istore_n 1, 1) := by decide +kernel
theorem dX3_struckOnes_2 : decode cX3_struckOnes 2 = .ok (.iconst 0, 1) := by decide +kernel
theorem dX3_struckOnes_3 : decode cX3_struckOnes 3 = .ok (.istore_n 2, 1) := by decide +kernel
theorem dX3_struckOnes_4 : decode cX3_struckOnes 4 = .ok (.iload_n 2, 1) := by decide +kernel
theorem dX3_struckOnes_5 : decode cX3_struckOnes 5 = .ok (.aload_n 0, 1) := by decide +kernel
theorem dX3_struckOnes_6 : decode cX3_struckOnes 6 = .ok (.getfield 33, 3) := by decide +kernel
theorem dX3_struckOnes_9 : decode cX3_struckOnes 9 = .ok (.if_icmp .ge 22, 3) := by decide +kernel
theorem dX3_struckOnes_12 : decode cX3_struckOnes 12 = .ok (.aload_n 0, 1) := by decide +kernel
theorem dX3_struckOnes_13 : decode cX3_struckOnes 13 = .ok (.getfield 30, 3) := by decide +kernel
theorem dX3_struckOnes_16 : decode cX3_struckOnes 16 = .ok (.iload_n 2, 1) := by decide +kernel
theorem dX3_struckOnes_17 : decode cX3_struckOnes 17 = .ok (.iaload, 1) := by decide +kernel
theorem dX3_struckOnes_18 : decode cX3_struckOnes 18 = .ok (.iconst (-1), 1) := by decide +kernel
theorem dX3_struckOnes_19 : decode cX3_struckOnes 19 = .ok (.if_icmp .eq 6, 3) := by decide +kernel
theorem dX3_struckOnes_22 : decode cX3_struckOnes 22 = .ok (.iinc 1 1, 3) := by decide +kernel
theorem dX3_struckOnes_25 : decode cX3_struckOnes 25 = .ok (.iinc 2 1, 3) := by decide +kernel
theorem dX3_struckOnes_28 : decode cX3_struckOnes 28 = .ok (.goto (-24), 3) := by decide +kernel
theorem dX3_struckOnes_31 : decode cX3_struckOnes 31 = .ok (.iload_n 1, 1) := by decide +kernel
theorem dX3_struckOnes_32 : decode cX3_struckOnes 32 = .ok (.ireturn, 1) := by decide +kernel
theorem dX3_isKnown_0 : decode cX3_isKnown 0 = .ok (.aload_n 0, 1) := by decide +kernel
theorem dX3_isKnown_1 : decode cX3_isKnown 1 = .ok (.getfield 27, 3) := by decide +kernel
theorem dX3_isKnown_4 : decode cX3_isKnown 4 = .ok (.iload_n 1, 1) := by decide +kernel
theorem dX3_isKnown_5 : decode cX3_isKnown 5 = .ok (.iaload, 1) := by decide +kernel
theorem dX3_isKnown_6 : decode cX3_isKnown 6 = .ok (.iload_n 2, 1) := by decide +kernel
theorem dX3_isKnown_7 : decode cX3_isKnown 7 = .ok (.if_icmp .gt 27, 3) := by decide +kernel
theorem dX3_isKnown_10 : decode cX3_isKnown 10 = .ok (.aload_n 0, 1) := by decide +kernel
theorem dX3_isKnown_11 : decode cX3_isKnown 11 = .ok (.getfield 30, 3) := by decide +kernel
theorem dX3_isKnown_14 : decode cX3_isKnown 14 = .ok (.iload_n 1, 1) := by decide +kernel
theorem dX3_isKnown_15 : decode cX3_isKnown 15 = .ok (.iaload, 1) := by decide +kernel
theorem dX3_isKnown_16 : decode cX3_isKnown 16 = .ok (.iconst (-1), 1) := by decide +kernel
theorem dX3_isKnown_17 : decode cX3_isKnown 17 = .ok (.if_icmp .eq 13, 3) := by decide +kernel
theorem dX3_isKnown_20 : decode cX3_isKnown 20 = .ok (.aload_n 0, 1) := by decide +kernel
theorem dX3_isKnown_21 : decode cX3_isKnown 21 = .ok (.getfield 30, 3) := by decide +kernel
theorem dX3_isKnown_24 : decode cX3_isKnown 24 = .ok (.iload_n 1, 1) := by decide +kernel
theorem dX3_isKnown_25 : decode cX3_isKnown 25 = .ok (.iaload, 1) := by decide +kernel
theorem dX3_isKnown_26 : decode cX3_isKnown 26 = .ok (.iload_n 2, 1) := by decide +kernel
theorem dX3_isKnown_27 : decode cX3_isKnown 27 = .ok (.if_icmp .le 7, 3) := by decide +kernel
theorem dX3_isKnown_30 : decode cX3_isKnown 30 = .ok (.iconst 1, 1) := by decide +kernel
theorem dX3_isKnown_31 : decode cX3_isKnown 31 = .ok (.goto 4, 3) := by decide +kernel
theorem dX3_isKnown_34 : decode cX3_isKnown 34 = .ok (.iconst 0, 1) := by decide +kernel
theorem dX3_isKnown_35 : decode cX3_isKnown 35 = .ok (.ireturn, 1) := by decide +kernel
set_option maxRecDepth 20000 in
theorem ggX3_weeklyKnown_X3_isKnown : GoodIn wsX3_weeklyKnown wsX3_isKnown := goodIn_r _ [10, 11, 12, 13, 14, 15, 16, 17, 18, 19, 20] (by decide +kernel) (by decide +kernel)
set_option maxRecDepth 20000 in
theorem gX3_weeklyKnown_X3_isKnown : GoodIn wsX3_weeklyKnown (wsV RX3 37 RX3 yX3_isKnown wsX3_isKnown) := goodIn_app (goodIn_of _ (by decide +kernel)) ggX3_weeklyKnown_X3_isKnown
theorem dX3_weeklyKnown_0 : decode cX3_weeklyKnown 0 = .ok (.iconst (-1), 1) := by decide +kernel
theorem dX3_weeklyKnown_1 : decode cX3_weeklyKnown 1 = .ok (.istore 5, 2) := by decide +kernel
theorem dX3_weeklyKnown_3 : decode cX3_weeklyKnown 3 = .ok (.iconst 0, 1) := by decide +kernel
theorem dX3_weeklyKnown_4 : decode cX3_weeklyKnown 4 = .ok (.istore 6, 2) := by decide +kernel
theorem dX3_weeklyKnown_6 : decode cX3_weeklyKnown 6 = .ok (.iconst 0, 1) := by decide +kernel
theorem dX3_weeklyKnown_7 : decode cX3_weeklyKnown 7 = .ok (.istore 7, 2) := by decide +kernel
theorem dX3_weeklyKnown_9 : decode cX3_weeklyKnown 9 = .ok (.iconst 0, 1) := by decide +kernel
theorem dX3_weeklyKnown_10 : decode cX3_weeklyKnown 10 = .ok (.istore 8, 2) := by decide +kernel
theorem dX3_weeklyKnown_12 : decode cX3_weeklyKnown 12 = .ok (.iload 8, 2) := by decide +kernel
theorem dX3_weeklyKnown_14 : decode cX3_weeklyKnown 14 = .ok (.aload_n 0, 1) := by decide +kernel
theorem dX3_weeklyKnown_15 : decode cX3_weeklyKnown 15 = .ok (.getfield 33, 3) := by decide +kernel
theorem dX3_weeklyKnown_18 : decode cX3_weeklyKnown 18 = .ok (.if_icmp .ge 122, 3) := by decide +kernel
theorem dX3_weeklyKnown_21 : decode cX3_weeklyKnown 21 = .ok (.aload_n 0, 1) := by decide +kernel
theorem dX3_weeklyKnown_22 : decode cX3_weeklyKnown 22 = .ok (.getfield 15, 3) := by decide +kernel
theorem dX3_weeklyKnown_25 : decode cX3_weeklyKnown 25 = .ok (.iload 8, 2) := by decide +kernel
theorem dX3_weeklyKnown_27 : decode cX3_weeklyKnown 27 = .ok (.iaload, 1) := by decide +kernel
theorem dX3_weeklyKnown_28 : decode cX3_weeklyKnown 28 = .ok (.iload_n 1, 1) := by decide +kernel
theorem dX3_weeklyKnown_29 : decode cX3_weeklyKnown 29 = .ok (.if_icmp .ne 105, 3) := by decide +kernel
theorem dX3_weeklyKnown_32 : decode cX3_weeklyKnown 32 = .ok (.aload_n 0, 1) := by decide +kernel
theorem dX3_weeklyKnown_33 : decode cX3_weeklyKnown 33 = .ok (.getfield 18, 3) := by decide +kernel
theorem dX3_weeklyKnown_36 : decode cX3_weeklyKnown 36 = .ok (.iload 8, 2) := by decide +kernel
theorem dX3_weeklyKnown_38 : decode cX3_weeklyKnown 38 = .ok (.iaload, 1) := by decide +kernel
theorem dX3_weeklyKnown_39 : decode cX3_weeklyKnown 39 = .ok (.iload_n 2, 1) := by decide +kernel
theorem dX3_weeklyKnown_40 : decode cX3_weeklyKnown 40 = .ok (.if_icmp .gt 94, 3) := by decide +kernel
theorem dX3_weeklyKnown_43 : decode cX3_weeklyKnown 43 = .ok (.aload_n 0, 1) := by decide +kernel
theorem dX3_weeklyKnown_44 : decode cX3_weeklyKnown 44 = .ok (.getfield 18, 3) := by decide +kernel
theorem dX3_weeklyKnown_47 : decode cX3_weeklyKnown 47 = .ok (.iload 8, 2) := by decide +kernel
theorem dX3_weeklyKnown_49 : decode cX3_weeklyKnown 49 = .ok (.iaload, 1) := by decide +kernel
theorem dX3_weeklyKnown_50 : decode cX3_weeklyKnown 50 = .ok (.iload 5, 2) := by decide +kernel
theorem dX3_weeklyKnown_52 : decode cX3_weeklyKnown 52 = .ok (.if_icmp .lt 82, 3) := by decide +kernel
theorem dX3_weeklyKnown_55 : decode cX3_weeklyKnown 55 = .ok (.iload 8, 2) := by decide +kernel
theorem dX3_weeklyKnown_57 : decode cX3_weeklyKnown 57 = .ok (.iload 4, 2) := by decide +kernel
theorem dX3_weeklyKnown_59 : decode cX3_weeklyKnown 59 = .ok (.if_icmp .eq 75, 3) := by decide +kernel
theorem dX3_weeklyKnown_62 : decode cX3_weeklyKnown 62 = .ok (.aload_n 0, 1) := by decide +kernel
theorem dX3_weeklyKnown_63 : decode cX3_weeklyKnown 63 = .ok (.iload 8, 2) := by decide +kernel
theorem dX3_weeklyKnown_65 : decode cX3_weeklyKnown 65 = .ok (.iload_n 3, 1) := by decide +kernel
theorem dX3_weeklyKnown_66 : decode cX3_weeklyKnown 66 = .ok (.invokevirtual 37, 3) := by decide +kernel
theorem dX3_weeklyKnown_69 : decode cX3_weeklyKnown 69 = .ok (.ifCond .ne 6, 3) := by decide +kernel
theorem dX3_weeklyKnown_72 : decode cX3_weeklyKnown 72 = .ok (.goto 62, 3) := by decide +kernel
theorem dX3_weeklyKnown_75 : decode cX3_weeklyKnown 75 = .ok (.aload_n 0, 1) := by decide +kernel
theorem dX3_weeklyKnown_76 : decode cX3_weeklyKnown 76 = .ok (.getfield 18, 3) := by decide +kernel
theorem dX3_weeklyKnown_79 : decode cX3_weeklyKnown 79 = .ok (.iload 8, 2) := by decide +kernel
theorem dX3_weeklyKnown_81 : decode cX3_weeklyKnown 81 = .ok (.iaload, 1) := by decide +kernel
theorem dX3_weeklyKnown_82 : decode cX3_weeklyKnown 82 = .ok (.iload 5, 2) := by decide +kernel
theorem dX3_weeklyKnown_84 : decode cX3_weeklyKnown 84 = .ok (.if_icmp .le 18, 3) := by decide +kernel
theorem dX3_weeklyKnown_87 : decode cX3_weeklyKnown 87 = .ok (.aload_n 0, 1) := by decide +kernel
theorem dX3_weeklyKnown_88 : decode cX3_weeklyKnown 88 = .ok (.getfield 18, 3) := by decide +kernel
theorem dX3_weeklyKnown_91 : decode cX3_weeklyKnown 91 = .ok (.iload 8, 2) := by decide +kernel
theorem dX3_weeklyKnown_93 : decode cX3_weeklyKnown 93 = .ok (.iaload, 1) := by decide +kernel
theorem dX3_weeklyKnown_94 : decode cX3_weeklyKnown 94 = .ok (.istore 5, 2) := by decide +kernel
theorem dX3_weeklyKnown_96 : decode cX3_weeklyKnown 96 = .ok (.iconst 0, 1) := by decide +kernel
theorem dX3_weeklyKnown_97 : decode cX3_weeklyKnown 97 = .ok (.istore 6, 2) := by decide +kernel
theorem dX3_weeklyKnown_99 : decode cX3_weeklyKnown 99 = .ok (.iconst 0, 1) := by decide +kernel
theorem dX3_weeklyKnown_100 : decode cX3_weeklyKnown 100 = .ok (.istore 7, 2) := by decide +kernel
theorem dX3_weeklyKnown_102 : decode cX3_weeklyKnown 102 = .ok (.iload 6, 2) := by decide +kernel
theorem dX3_weeklyKnown_104 : decode cX3_weeklyKnown 104 = .ok (.aload_n 0, 1) := by decide +kernel
theorem dX3_weeklyKnown_105 : decode cX3_weeklyKnown 105 = .ok (.getfield 24, 3) := by decide +kernel
theorem dX3_weeklyKnown_108 : decode cX3_weeklyKnown 108 = .ok (.iload 8, 2) := by decide +kernel
theorem dX3_weeklyKnown_110 : decode cX3_weeklyKnown 110 = .ok (.iaload, 1) := by decide +kernel
theorem dX3_weeklyKnown_111 : decode cX3_weeklyKnown 111 = .ok (.aload_n 0, 1) := by decide +kernel
theorem dX3_weeklyKnown_112 : decode cX3_weeklyKnown 112 = .ok (.getfield 21, 3) := by decide +kernel
theorem dX3_weeklyKnown_115 : decode cX3_weeklyKnown 115 = .ok (.iload 8, 2) := by decide +kernel
theorem dX3_weeklyKnown_117 : decode cX3_weeklyKnown 117 = .ok (.iaload, 1) := by decide +kernel
theorem dX3_weeklyKnown_118 : decode cX3_weeklyKnown 118 = .ok (.imul, 1) := by decide +kernel
theorem dX3_weeklyKnown_119 : decode cX3_weeklyKnown 119 = .ok (.iadd, 1) := by decide +kernel
theorem dX3_weeklyKnown_120 : decode cX3_weeklyKnown 120 = .ok (.istore 6, 2) := by decide +kernel
theorem dX3_weeklyKnown_122 : decode cX3_weeklyKnown 122 = .ok (.iload 7, 2) := by decide +kernel
theorem dX3_weeklyKnown_124 : decode cX3_weeklyKnown 124 = .ok (.aload_n 0, 1) := by decide +kernel
theorem dX3_weeklyKnown_125 : decode cX3_weeklyKnown 125 = .ok (.getfield 21, 3) := by decide +kernel
theorem dX3_weeklyKnown_128 : decode cX3_weeklyKnown 128 = .ok (.iload 8, 2) := by decide +kernel
theorem dX3_weeklyKnown_130 : decode cX3_weeklyKnown 130 = .ok (.iaload, 1) := by decide +kernel
theorem dX3_weeklyKnown_131 : decode cX3_weeklyKnown 131 = .ok (.iadd, 1) := by decide +kernel
theorem dX3_weeklyKnown_132 : decode cX3_weeklyKnown 132 = .ok (.istore 7, 2) := by decide +kernel
theorem dX3_weeklyKnown_134 : decode cX3_weeklyKnown 134 = .ok (.iinc 8 1, 3) := by decide +kernel
theorem dX3_weeklyKnown_137 : decode cX3_weeklyKnown 137 = .ok (.goto (-125), 3) := by decide +kernel
theorem dX3_weeklyKnown_140 : decode cX3_weeklyKnown 140 = .ok (.iload 7, 2) := by decide +kernel
theorem dX3_weeklyKnown_142 : decode cX3_weeklyKnown 142 = .ok (.ifCond .ne 7, 3) := by decide +kernel
theorem dX3_weeklyKnown_145 : decode cX3_weeklyKnown 145 = .ok (.iconst (-1), 1) := by decide +kernel
theorem dX3_weeklyKnown_146 : decode cX3_weeklyKnown 146 = .ok (.goto 8, 3) := by decide +kernel
theorem dX3_weeklyKnown_149 : decode cX3_weeklyKnown 149 = .ok (.iload 6, 2) := by decide +kernel
theorem dX3_weeklyKnown_151 : decode cX3_weeklyKnown 151 = .ok (.iload 7, 2) := by decide +kernel
theorem dX3_weeklyKnown_153 : decode cX3_weeklyKnown 153 = .ok (.idiv, 1) := by decide +kernel
theorem dX3_weeklyKnown_154 : decode cX3_weeklyKnown 154 = .ok (.ireturn, 1) := by decide +kernel
set_option maxRecDepth 20000 in
theorem ggX3_averageKnown_X3_weeklyKnown : GoodIn wsX3_averageKnown wsX3_weeklyKnown := goodIn_r _ [5, 6, 7, 8, 9, 10, 11, 12, 13, 4, 14, 15, 16, 17, 18, 19, 20, 21, 22, 23, 24] (by decide +kernel) (by decide +kernel)
set_option maxRecDepth 20000 in
theorem gX3_averageKnown_X3_weeklyKnown : GoodIn wsX3_averageKnown (wsV RX3 41 RX3 yX3_weeklyKnown wsX3_weeklyKnown) := goodIn_app (goodIn_of _ (by decide +kernel)) ggX3_averageKnown_X3_weeklyKnown
theorem dX3_averageKnown_0 : decode cX3_averageKnown 0 = .ok (.iconst 0, 1) := by decide +kernel
theorem dX3_averageKnown_1 : decode cX3_averageKnown 1 = .ok (.istore 4, 2) := by decide +kernel
theorem dX3_averageKnown_3 : decode cX3_averageKnown 3 = .ok (.iload_n 2, 1) := by decide +kernel
theorem dX3_averageKnown_4 : decode cX3_averageKnown 4 = .ok (.bipush 6, 2) := by decide +kernel
theorem dX3_averageKnown_6 : decode cX3_averageKnown 6 = .ok (.isub, 1) := by decide +kernel
theorem dX3_averageKnown_7 : decode cX3_averageKnown 7 = .ok (.istore 5, 2) := by decide +kernel
theorem dX3_averageKnown_9 : decode cX3_averageKnown 9 = .ok (.iload 5, 2) := by decide +kernel
theorem dX3_averageKnown_11 : decode cX3_averageKnown 11 = .ok (.iload_n 2, 1) := by decide +kernel
theorem dX3_averageKnown_12 : decode cX3_averageKnown 12 = .ok (.if_icmp .ge 35, 3) := by decide +kernel
theorem dX3_averageKnown_15 : decode cX3_averageKnown 15 = .ok (.aload_n 0, 1) := by decide +kernel
theorem dX3_averageKnown_16 : decode cX3_averageKnown 16 = .ok (.iload_n 1, 1) := by decide +kernel
theorem dX3_averageKnown_17 : decode cX3_averageKnown 17 = .ok (.iload 5, 2) := by decide +kernel
theorem dX3_averageKnown_19 : decode cX3_averageKnown 19 = .ok (.iload_n 2, 1) := by decide +kernel
theorem dX3_averageKnown_20 : decode cX3_averageKnown 20 = .ok (.iload_n 3, 1) := by decide +kernel
theorem dX3_averageKnown_21 : decode cX3_averageKnown 21 = .ok (.invokevirtual 41, 3) := by decide +kernel
theorem dX3_averageKnown_24 : decode cX3_averageKnown 24 = .ok (.istore 6, 2) := by decide +kernel
theorem dX3_averageKnown_26 : decode cX3_averageKnown 26 = .ok (.iload 6, 2) := by decide +kernel
theorem dX3_averageKnown_28 : decode cX3_averageKnown 28 = .ok (.iconst (-1), 1) := by decide +kernel
theorem dX3_averageKnown_29 : decode cX3_averageKnown 29 = .ok (.if_icmp .ne 5, 3) := by decide +kernel
theorem dX3_averageKnown_32 : decode cX3_averageKnown 32 = .ok (.iconst (-1), 1) := by decide +kernel
theorem dX3_averageKnown_33 : decode cX3_averageKnown 33 = .ok (.ireturn, 1) := by decide +kernel
theorem dX3_averageKnown_34 : decode cX3_averageKnown 34 = .ok (.iload 4, 2) := by decide +kernel
theorem dX3_averageKnown_36 : decode cX3_averageKnown 36 = .ok (.iload 6, 2) := by decide +kernel
theorem dX3_averageKnown_38 : decode cX3_averageKnown 38 = .ok (.iadd, 1) := by decide +kernel
theorem dX3_averageKnown_39 : decode cX3_averageKnown 39 = .ok (.istore 4, 2) := by decide +kernel
theorem dX3_averageKnown_41 : decode cX3_averageKnown 41 = .ok (.iinc 5 1, 3) := by decide +kernel
theorem dX3_averageKnown_44 : decode cX3_averageKnown 44 = .ok (.goto (-35), 3) := by decide +kernel
theorem dX3_averageKnown_47 : decode cX3_averageKnown 47 = .ok (.iload 4, 2) := by decide +kernel
theorem dX3_averageKnown_49 : decode cX3_averageKnown 49 = .ok (.bipush 6, 2) := by decide +kernel
theorem dX3_averageKnown_51 : decode cX3_averageKnown 51 = .ok (.idiv, 1) := by decide +kernel
theorem dX3_averageKnown_52 : decode cX3_averageKnown 52 = .ok (.ireturn, 1) := by decide +kernel
set_option maxRecDepth 20000 in
theorem ggX3_townsKnown_X3_isKnown : GoodIn wsX3_townsKnown wsX3_isKnown := goodIn_r _ [8, 9, 10, 18, 19, 20, 21, 22, 23, 24, 25] (by decide +kernel) (by decide +kernel)
set_option maxRecDepth 20000 in
theorem gX3_townsKnown_X3_isKnown : GoodIn wsX3_townsKnown (wsV RX3 37 RX3 yX3_isKnown wsX3_isKnown) := goodIn_app (goodIn_of _ (by decide +kernel)) ggX3_townsKnown_X3_isKnown
set_option maxRecDepth 20000 in
theorem ggX3_townsKnown_J6_bitCount_0f7a4 : GoodIn wsX3_townsKnown wsJ6_bitCount_0f7a4 := goodIn_r _ [14, 15, 16, 17] (by decide +kernel) (by decide +kernel)
set_option maxRecDepth 20000 in
theorem gX3_townsKnown_J6_bitCount_0f7a4 : GoodIn wsX3_townsKnown (va_wsS RX3 45 yJ6_bitCount_0f7a4 wsJ6_bitCount_0f7a4) := goodIn_app (goodIn_of _ (by decide +kernel)) ggX3_townsKnown_J6_bitCount_0f7a4
theorem dX3_townsKnown_0 : decode cX3_townsKnown 0 = .ok (.iconst 0, 1) := by decide +kernel
theorem dX3_townsKnown_1 : decode cX3_townsKnown 1 = .ok (.istore_n 3, 1) := by decide +kernel
theorem dX3_townsKnown_2 : decode cX3_townsKnown 2 = .ok (.iconst 0, 1) := by decide +kernel
theorem dX3_townsKnown_3 : decode cX3_townsKnown 3 = .ok (.istore 4, 2) := by decide +kernel
theorem dX3_townsKnown_5 : decode cX3_townsKnown 5 = .ok (.iload 4, 2) := by decide +kernel
theorem dX3_townsKnown_7 : decode cX3_townsKnown 7 = .ok (.aload_n 0, 1) := by decide +kernel
theorem dX3_townsKnown_8 : decode cX3_townsKnown 8 = .ok (.getfield 33, 3) := by decide +kernel
theorem dX3_townsKnown_11 : decode cX3_townsKnown 11 = .ok (.if_icmp .ge 42, 3) := by decide +kernel
theorem dX3_townsKnown_14 : decode cX3_townsKnown 14 = .ok (.aload_n 0, 1) := by decide +kernel
theorem dX3_townsKnown_15 : decode cX3_townsKnown 15 = .ok (.getfield 18, 3) := by decide +kernel
theorem dX3_townsKnown_18 : decode cX3_townsKnown 18 = .ok (.iload 4, 2) := by decide +kernel
theorem dX3_townsKnown_20 : decode cX3_townsKnown 20 = .ok (.iaload, 1) := by decide +kernel
theorem dX3_townsKnown_21 : decode cX3_townsKnown 21 = .ok (.iload_n 1, 1) := by decide +kernel
theorem dX3_townsKnown_22 : decode cX3_townsKnown 22 = .ok (.if_icmp .ne 25, 3) := by decide +kernel
theorem dX3_townsKnown_25 : decode cX3_townsKnown 25 = .ok (.aload_n 0, 1) := by decide +kernel
theorem dX3_townsKnown_26 : decode cX3_townsKnown 26 = .ok (.iload 4, 2) := by decide +kernel
theorem dX3_townsKnown_28 : decode cX3_townsKnown 28 = .ok (.iload_n 2, 1) := by decide +kernel
theorem dX3_townsKnown_29 : decode cX3_townsKnown 29 = .ok (.invokevirtual 37, 3) := by decide +kernel
theorem dX3_townsKnown_32 : decode cX3_townsKnown 32 = .ok (.ifCond .eq 15, 3) := by decide +kernel
theorem dX3_townsKnown_35 : decode cX3_townsKnown 35 = .ok (.iload_n 3, 1) := by decide +kernel
theorem dX3_townsKnown_36 : decode cX3_townsKnown 36 = .ok (.iconst 1, 1) := by decide +kernel
theorem dX3_townsKnown_37 : decode cX3_townsKnown 37 = .ok (.aload_n 0, 1) := by decide +kernel
theorem dX3_townsKnown_38 : decode cX3_townsKnown 38 = .ok (.getfield 9, 3) := by decide +kernel
theorem dX3_townsKnown_41 : decode cX3_townsKnown 41 = .ok (.iload 4, 2) := by decide +kernel
theorem dX3_townsKnown_43 : decode cX3_townsKnown 43 = .ok (.iaload, 1) := by decide +kernel
theorem dX3_townsKnown_44 : decode cX3_townsKnown 44 = .ok (.ishl, 1) := by decide +kernel
theorem dX3_townsKnown_45 : decode cX3_townsKnown 45 = .ok (.ior, 1) := by decide +kernel
theorem dX3_townsKnown_46 : decode cX3_townsKnown 46 = .ok (.istore_n 3, 1) := by decide +kernel
theorem dX3_townsKnown_47 : decode cX3_townsKnown 47 = .ok (.iinc 4 1, 3) := by decide +kernel
theorem dX3_townsKnown_50 : decode cX3_townsKnown 50 = .ok (.goto (-45), 3) := by decide +kernel
theorem dX3_townsKnown_53 : decode cX3_townsKnown 53 = .ok (.iload_n 3, 1) := by decide +kernel
theorem dX3_townsKnown_54 : decode cX3_townsKnown 54 = .ok (.invokestatic 45, 3) := by decide +kernel
theorem dX3_townsKnown_57 : decode cX3_townsKnown 57 = .ok (.ireturn, 1) := by decide +kernel
theorem dX4_init_0 : decode cX4_init 0 = .ok (.aload_n 0, 1) := by decide +kernel
theorem dX4_init_1 : decode cX4_init 1 = .ok (.invokespecial 3, 3) := by decide +kernel
theorem dX4_init_4 : decode cX4_init 4 = .ok (.aload_n 0, 1) := by decide +kernel
theorem dX4_init_5 : decode cX4_init 5 = .ok (.bipush 8, 2) := by decide +kernel
theorem dX4_init_7 : decode cX4_init 7 = .ok (.newarray .int, 2) := by decide +kernel
theorem dX4_init_9 : decode cX4_init 9 = .ok (.putfield 9, 3) := by decide +kernel
theorem dX4_init_12 : decode cX4_init 12 = .ok (.aload_n 0, 1) := by decide +kernel
theorem dX4_init_13 : decode cX4_init 13 = .ok (.bipush 8, 2) := by decide +kernel
theorem dX4_init_15 : decode cX4_init 15 = .ok (.newarray .int, 2) := by decide +kernel
theorem dX4_init_17 : decode cX4_init 17 = .ok (.putfield 15, 3) := by decide +kernel
theorem dX4_init_20 : decode cX4_init 20 = .ok (.aload_n 0, 1) := by decide +kernel
theorem dX4_init_21 : decode cX4_init 21 = .ok (.bipush 8, 2) := by decide +kernel
theorem dX4_init_23 : decode cX4_init 23 = .ok (.newarray .int, 2) := by decide +kernel
theorem dX4_init_25 : decode cX4_init 25 = .ok (.putfield 18, 3) := by decide +kernel
theorem dX4_init_28 : decode cX4_init 28 = .ok (.aload_n 0, 1) := by decide +kernel
theorem dX4_init_29 : decode cX4_init 29 = .ok (.bipush 8, 2) := by decide +kernel
theorem dX4_init_31 : decode cX4_init 31 = .ok (.newarray .int, 2) := by decide +kernel
theorem dX4_init_33 : decode cX4_init 33 = .ok (.putfield 21, 3) := by decide +kernel
theorem dX4_init_36 : decode cX4_init 36 = .ok (.aload_n 0, 1) := by decide +kernel
theorem dX4_init_37 : decode cX4_init 37 = .ok (.bipush 8, 2) := by decide +kernel
theorem dX4_init_39 : decode cX4_init 39 = .ok (.bipush 8, 2) := by decide +kernel
theorem dX4_init_41 : decode cX4_init 41 = .ok (.multianewarray 24 2, 4) := by decide +kernel
theorem dX4_init_45 : decode cX4_init 45 = .ok (.putfield 26, 3) := by decide +kernel
theorem dX4_init_48 : decode cX4_init 48 = .ok (.aload_n 0, 1) := by decide +kernel
theorem dX4_init_49 : decode cX4_init 49 = .ok (.bipush 8, 2) := by decide +kernel
theorem dX4_init_51 : decode cX4_init 51 = .ok (.bipush 8, 2) := by decide +kernel
theorem dX4_init_53 : decode cX4_init 53 = .ok (.multianewarray 24 2, 4) := by decide +kernel
theorem dX4_init_57 : decode cX4_init 57 = .ok (.putfield 29, 3) := by decide +kernel
theorem dX4_init_60 : decode cX4_init 60 = .ok (.return_, 1) := by decide +kernel
theorem dX4_has_0 : decode cX4_has 0 = .ok (.iload_n 1, 1) := by decide +kernel
theorem dX4_has_1 : decode cX4_has 1 = .ok (.ifCond .lt 15, 3) := by decide +kernel
theorem dX4_has_4 : decode cX4_has 4 = .ok (.iload_n 1, 1) := by decide +kernel
theorem dX4_has_5 : decode cX4_has 5 = .ok (.aload_n 0, 1) := by decide +kernel
theorem dX4_has_6 : decode cX4_has 6 = .ok (.getfield 32, 3) := by decide +kernel
theorem dX4_has_9 : decode cX4_has 9 = .ok (.if_icmp .ge 7, 3) := by decide +kernel
theorem dX4_has_12 : decode cX4_has 12 = .ok (.iconst 1, 1) := by decide +kernel
theorem dX4_has_13 : decode cX4_has 13 = .ok (.goto 4, 3) := by decide +kernel
theorem dX4_has_16 : decode cX4_has 16 = .ok (.iconst 0, 1) := by decide +kernel
theorem dX4_has_17 : decode cX4_has 17 = .ok (.ireturn, 1) := by decide +kernel
set_option maxRecDepth 20000 in
theorem ggX4_isOf_X4_has : GoodIn wsX4_isOf wsX4_has := goodIn_r _ [6, 7, 8, 9, 10, 11, 12, 13, 14] (by decide +kernel) (by decide +kernel)
set_option maxRecDepth 20000 in
theorem gX4_isOf_X4_has : GoodIn wsX4_isOf (wsV RX4 36 RX4 yX4_has wsX4_has) := goodIn_app (goodIn_of _ (by decide +kernel)) ggX4_isOf_X4_has
theorem dX4_isOf_0 : decode cX4_isOf 0 = .ok (.aload_n 0, 1) := by decide +kernel
theorem dX4_isOf_1 : decode cX4_isOf 1 = .ok (.iload_n 1, 1) := by decide +kernel
theorem dX4_isOf_2 : decode cX4_isOf 2 = .ok (.invokevirtual 36, 3) := by decide +kernel
theorem dX4_isOf_5 : decode cX4_isOf 5 = .ok (.ifCond .eq 17, 3) := by decide +kernel
theorem dX4_isOf_8 : decode cX4_isOf 8 = .ok (.aload_n 0, 1) := by decide +kernel
theorem dX4_isOf_9 : decode cX4_isOf 9 = .ok (.getfield 9, 3) := by decide +kernel
theorem dX4_isOf_12 : decode cX4_isOf 12 = .ok (.iload_n 1, 1) := by decide +kernel
theorem dX4_isOf_13 : decode cX4_isOf 13 = .ok (.iaload, 1) := by decide +kernel
theorem dX4_isOf_14 : decode cX4_isOf 14 = .ok (.iload_n 2, 1) := by decide +kernel
theorem dX4_isOf_15 : decode cX4_isOf 15 = .ok (.if_icmp .ne 7, 3) := by decide +kernel
theorem dX4_isOf_18 : decode cX4_isOf 18 = .ok (.iconst 1, 1) := by decide +kernel
theorem dX4_isOf_19 : decode cX4_isOf 19 = .ok (.goto 4, 3) := by decide +kernel
theorem dX4_isOf_22 : decode cX4_isOf 22 = .ok (.iconst 0, 1) := by decide +kernel
theorem dX4_isOf_23 : decode cX4_isOf 23 = .ok (.ireturn, 1) := by decide +kernel
theorem dX4_add_0 : decode cX4_add 0 = .ok (.aload_n 0, 1) := by decide +kernel
theorem dX4_add_1 : decode cX4_add 1 = .ok (.getfield 32, 3) := by decide +kernel
theorem dX4_add_4 : decode cX4_add 4 = .ok (.istore 4, 2) := by decide +kernel
theorem dX4_add_6 : decode cX4_add 6 = .ok (.aload_n 0, 1) := by decide +kernel
theorem dX4_add_7 : decode cX4_add 7 = .ok (.getfield 9, 3) := by decide +kernel
theorem dX4_add_10 : decode cX4_add 10 = .ok (.iload 4, 2) := by decide +kernel
theorem dX4_add_12 : decode cX4_add 12 = .ok (.iload_n 1, 1) := by decide +kernel
theorem dX4_add_13 : decode cX4_add 13 = .ok (.iastore, 1) := by decide +kernel
theorem dX4_add_14 : decode cX4_add 14 = .ok (.aload_n 0, 1) := by decide +kernel
theorem dX4_add_15 : decode cX4_add 15 = .ok (.getfield 15, 3) := by decide +kernel
theorem dX4_add_18 : decode cX4_add 18 = .ok (.iload 4, 2) := by decide +kernel
theorem dX4_add_20 : decode cX4_add 20 = .ok (.iload_n 2, 1) := by decide +kernel
theorem dX4_add_21 : decode cX4_add 21 = .ok (.iastore, 1) := by decide +kernel
theorem dX4_add_22 : decode cX4_add 22 = .ok (.aload_n 0, 1) := by decide +kernel
theorem dX4_add_23 : decode cX4_add 23 = .ok (.getfield 18, 3) := by decide +kernel
theorem dX4_add_26 : decode cX4_add 26 = .ok (.iload 4, 2) := by decide +kernel
theorem dX4_add_28 : decode cX4_add 28 = .ok (.iload_n 3, 1) := by decide +kernel
theorem dX4_add_29 : decode cX4_add 29 = .ok (.iastore, 1) := by decide +kernel
theorem dX4_add_30 : decode cX4_add 30 = .ok (.aload_n 0, 1) := by decide +kernel
theorem dX4_add_31 : decode cX4_add 31 = .ok (.iload 4, 2) := by decide +kernel
theorem dX4_add_33 : decode cX4_add 33 = .ok (.iconst 1, 1) := by decide +kernel
theorem dX4_add_34 : decode cX4_add 34 = .ok (.iadd, 1) := by decide +kernel
theorem dX4_add_35 : decode cX4_add 35 = .ok (.putfield 32, 3) := by decide +kernel
theorem dX4_add_38 : decode cX4_add 38 = .ok (.iload 4, 2) := by decide +kernel
theorem dX4_add_40 : decode cX4_add 40 = .ok (.ireturn, 1) := by decide +kernel
theorem dX4_lastPrice_0 : decode cX4_lastPrice 0 = .ok (.aload_n 0, 1) := by decide +kernel
theorem dX4_lastPrice_1 : decode cX4_lastPrice 1 = .ok (.getfield 21, 3) := by decide +kernel
theorem dX4_lastPrice_4 : decode cX4_lastPrice 4 = .ok (.iload_n 1, 1) := by decide +kernel
theorem dX4_lastPrice_5 : decode cX4_lastPrice 5 = .ok (.iaload, 1) := by decide +kernel
theorem dX4_lastPrice_6 : decode cX4_lastPrice 6 = .ok (.ifCond .ne 7, 3) := by decide +kernel
theorem dX4_lastPrice_9 : decode cX4_lastPrice 9 = .ok (.iconst (-1), 1) := by decide +kernel
theorem dX4_lastPrice_10 : decode cX4_lastPrice 10 = .ok (.goto 18, 3) := by decide +kernel
theorem dX4_lastPrice_13 : decode cX4_lastPrice 13 = .ok (.aload_n 0, 1) := by decide +kernel
theorem dX4_lastPrice_14 : decode cX4_lastPrice 14 = .ok (.getfield 26, 3) := by decide +kernel
theorem dX4_lastPrice_17 : decode cX4_lastPrice 17 = .ok (.iload_n 1, 1) := by decide +kernel
theorem dX4_lastPrice_18 : decode cX4_lastPrice 18 = .ok (.aaload, 1) := by decide +kernel
theorem dX4_lastPrice_19 : decode cX4_lastPrice 19 = .ok (.aload_n 0, 1) := by decide +kernel
theorem dX4_lastPrice_20 : decode cX4_lastPrice 20 = .ok (.getfield 21, 3) := by decide +kernel
theorem dX4_lastPrice_23 : decode cX4_lastPrice 23 = .ok (.iload_n 1, 1) := by decide +kernel
theorem dX4_lastPrice_24 : decode cX4_lastPrice 24 = .ok (.iaload, 1) := by decide +kernel
theorem dX4_lastPrice_25 : decode cX4_lastPrice 25 = .ok (.iconst 1, 1) := by decide +kernel
theorem dX4_lastPrice_26 : decode cX4_lastPrice 26 = .ok (.isub, 1) := by decide +kernel
theorem dX4_lastPrice_27 : decode cX4_lastPrice 27 = .ok (.iaload, 1) := by decide +kernel
theorem dX4_lastPrice_28 : decode cX4_lastPrice 28 = .ok (.ireturn, 1) := by decide +kernel
theorem dX4_isSettled_0 : decode cX4_isSettled 0 = .ok (.aload_n 0, 1) := by decide +kernel
theorem dX4_isSettled_1 : decode cX4_isSettled 1 = .ok (.getfield 15, 3) := by decide +kernel
theorem dX4_isSettled_4 : decode cX4_isSettled 4 = .ok (.iload_n 1, 1) := by decide +kernel
theorem dX4_isSettled_5 : decode cX4_isSettled 5 = .ok (.iaload, 1) := by decide +kernel
theorem dX4_isSettled_6 : decode cX4_isSettled 6 = .ok (.iload_n 2, 1) := by decide +kernel
theorem dX4_isSettled_7 : decode cX4_isSettled 7 = .ok (.if_icmp .gt 17, 3) := by decide +kernel
theorem dX4_isSettled_10 : decode cX4_isSettled 10 = .ok (.aload_n 0, 1) := by decide +kernel
theorem dX4_isSettled_11 : decode cX4_isSettled 11 = .ok (.getfield 18, 3) := by decide +kernel
theorem dX4_isSettled_14 : decode cX4_isSettled 14 = .ok (.iload_n 1, 1) := by decide +kernel
theorem dX4_isSettled_15 : decode cX4_isSettled 15 = .ok (.iaload, 1) := by decide +kernel
theorem dX4_isSettled_16 : decode cX4_isSettled 16 = .ok (.iload_n 2, 1) := by decide +kernel
theorem dX4_isSettled_17 : decode cX4_isSettled 17 = .ok (.if_icmp .eq 7, 3) := by decide +kernel
theorem dX4_isSettled_20 : decode cX4_isSettled 20 = .ok (.iconst 1, 1) := by decide +kernel
theorem dX4_isSettled_21 : decode cX4_isSettled 21 = .ok (.goto 4, 3) := by decide +kernel
theorem dX4_isSettled_24 : decode cX4_isSettled 24 = .ok (.iconst 0, 1) := by decide +kernel
theorem dX4_isSettled_25 : decode cX4_isSettled 25 = .ok (.ireturn, 1) := by decide +kernel
theorem dX4_addStep_0 : decode cX4_addStep 0 = .ok (.aload_n 0, 1) := by decide +kernel
theorem dX4_addStep_1 : decode cX4_addStep 1 = .ok (.getfield 26, 3) := by decide +kernel
theorem dX4_addStep_4 : decode cX4_addStep 4 = .ok (.iload_n 1, 1) := by decide +kernel
theorem dX4_addStep_5 : decode cX4_addStep 5 = .ok (.aaload, 1) := by decide +kernel
theorem dX4_addStep_6 : decode cX4_addStep 6 = .ok (.aload_n 0, 1) := by decide +kernel
theorem dX4_addStep_7 : decode cX4_addStep 7 = .ok (.getfield 21, 3) := by decide +kernel
theorem dX4_addStep_10 : decode cX4_addStep 10 = .ok (.iload_n 1, 1) := by decide +kernel
theorem dX4_addStep_11 : decode cX4_addStep 11 = .ok (.iaload, 1) := by decide +kernel
theorem dX4_addStep_12 : decode cX4_addStep 12 = .ok (.iload_n 2, 1) := by decide +kernel
theorem dX4_addStep_13 : decode cX4_addStep 13 = .ok (.iastore, 1) := by decide +kernel
theorem dX4_addStep_14 : decode cX4_addStep 14 = .ok (.aload_n 0, 1) := by decide +kernel
theorem dX4_addStep_15 : decode cX4_addStep 15 = .ok (.getfield 29, 3) := by decide +kernel
theorem dX4_addStep_18 : decode cX4_addStep 18 = .ok (.iload_n 1, 1) := by decide +kernel
theorem dX4_addStep_19 : decode cX4_addStep 19 = .ok (.aaload, 1) := by decide +kernel
theorem dX4_addStep_20 : decode cX4_addStep 20 = .ok (.aload_n 0, 1) := by decide +kernel
theorem dX4_addStep_21 : decode cX4_addStep 21 = .ok (.getfield 21, 3) := by decide +kernel
theorem dX4_addStep_24 : decode cX4_addStep 24 = .ok (.iload_n 1, 1) := by decide +kernel
theorem dX4_addStep_25 : decode cX4_addStep 25 = .ok (.iaload, 1) := by decide +kernel
theorem dX4_addStep_26 : decode cX4_addStep 26 = .ok (.iload_n 3, 1) := by decide +kernel
theorem dX4_addStep_27 : decode cX4_addStep 27 = .ok (.iastore, 1) := by decide +kernel
theorem dX4_addStep_28 : decode cX4_addStep 28 = .ok (.aload_n 0, 1) := by decide +kernel
theorem dX4_addStep_29 : decode cX4_addStep 29 = .ok (.getfield 21, 3) := by decide +kernel
theorem dX4_addStep_32 : decode cX4_addStep 32 = .ok (.iload_n 1, 1) := by decide +kernel
theorem dX4_addStep_33 : decode cX4_addStep 33 = .ok (.dup2, 1) := by decide +kernel
theorem dX4_addStep_34 : decode cX4_addStep 34 = .ok (.iaload, 1) := by decide +kernel
theorem dX4_addStep_35 : decode cX4_addStep 35 = .ok (.iconst 1, 1) := by decide +kernel
theorem dX4_addStep_36 : decode cX4_addStep 36 = .ok (.iadd, 1) := by decide +kernel
theorem dX4_addStep_37 : decode cX4_addStep 37 = .ok (.iastore, 1) := by decide +kernel
theorem dX4_addStep_38 : decode cX4_addStep 38 = .ok (.aload_n 0, 1) := by decide +kernel
theorem dX4_addStep_39 : decode cX4_addStep 39 = .ok (.getfield 21, 3) := by decide +kernel
theorem dX4_addStep_42 : decode cX4_addStep 42 = .ok (.iload_n 1, 1) := by decide +kernel
theorem dX4_addStep_43 : decode cX4_addStep 43 = .ok (.iaload, 1) := by decide +kernel
theorem dX4_addStep_44 : decode cX4_addStep 44 = .ok (.ireturn, 1) := by decide +kernel
theorem dX4_inForce_0 : decode cX4_inForce 0 = .ok (.iconst (-1), 1) := by decide +kernel
theorem dX4_inForce_1 : decode cX4_inForce 1 = .ok (.istore_n 3, 1) := by decide +kernel
theorem dX4_inForce_2 : decode cX4_inForce 2 = .ok (.iconst 0, 1) := by decide +kernel
theorem dX4_inForce_3 : decode cX4_inForce 3 = .ok (.istore 4, 2) := by decide +kernel
theorem dX4_inForce_5 : decode cX4_inForce 5 = .ok (.iload 4, 2) := by decide +kernel
theorem dX4_inForce_7 : decode cX4_inForce 7 = .ok (.aload_n 0, 1) := by decide +kernel
theorem dX4_inForce_8 : decode cX4_inForce 8 = .ok (.getfield 32, 3) := by decide +kernel
theorem dX4_inForce_11 : decode cX4_inForce 11 = .ok (.if_icmp .ge 77, 3) := by decide +kernel
theorem dX4_inForce_14 : decode cX4_inForce 14 = .ok (.aload_n 0, 1) := by decide +kernel
theorem dX4_inForce_15 : decode cX4_inForce 15 = .ok (.getfield 9, 3) := by decide +kernel
theorem dX4_inForce_18 : decode cX4_inForce 18 = .ok (.iload 4, 2) := by decide +kernel
theorem dX4_inForce_20 : decode cX4_inForce 20 = .ok (.iaload, 1) := by decide +kernel
theorem dX4_inForce_21 : decode cX4_inForce 21 = .ok (.iload_n 1, 1) := by decide +kernel
theorem dX4_inForce_22 : decode cX4_inForce 22 = .ok (.if_icmp .ne 28, 3) := by decide +kernel
theorem dX4_inForce_25 : decode cX4_inForce 25 = .ok (.aload_n 0, 1) := by decide +kernel
theorem dX4_inForce_26 : decode cX4_inForce 26 = .ok (.getfield 21, 3) := by decide +kernel
theorem dX4_inForce_29 : decode cX4_inForce 29 = .ok (.iload 4, 2) := by decide +kernel
theorem dX4_inForce_31 : decode cX4_inForce 31 = .ok (.iaload, 1) := by decide +kernel
theorem dX4_inForce_32 : decode cX4_inForce 32 = .ok (.ifCond .le 18, 3) := by decide +kernel
theorem dX4_inForce_35 : decode cX4_inForce 35 = .ok (.aload_n 0, 1) := by decide +kernel
theorem dX4_inForce_36 : decode cX4_inForce 36 = .ok (.getfield 15, 3) := by decide +kernel
theorem dX4_inForce_39 : decode cX4_inForce 39 = .ok (.iload 4, 2) := by decide +kernel
theorem dX4_inForce_41 : decode cX4_inForce 41 = .ok (.iaload, 1) := by decide +kernel
theorem dX4_inForce_42 : decode cX4_inForce 42 = .ok (.iload_n 2, 1) := by decide +kernel
theorem dX4_inForce_43 : decode cX4_inForce 43 = .ok (.if_icmp .gt 7, 3) := by decide +kernel
theorem dX4_inForce_46 : decode cX4_inForce 46 = .ok (.iconst 1, 1) := by decide +kernel
theorem dX4_inForce_47 : decode cX4_inForce 47 = .ok (.goto 4, 3) := by decide +kernel
theorem dX4_inForce_50 : decode cX4_inForce 50 = .ok (.iconst 0, 1) := by decide +kernel
theorem dX4_inForce_51 : decode cX4_inForce 51 = .ok (.istore 5, 2) := by decide +kernel
theorem dX4_inForce_53 : decode cX4_inForce 53 = .ok (.iload 5, 2) := by decide +kernel
theorem dX4_inForce_55 : decode cX4_inForce 55 = .ok (.ifCond .eq 27, 3) := by decide +kernel
theorem dX4_inForce_58 : decode cX4_inForce 58 = .ok (.iload_n 3, 1) := by decide +kernel
theorem dX4_inForce_59 : decode cX4_inForce 59 = .ok (.iconst (-1), 1) := by decide +kernel
theorem dX4_inForce_60 : decode cX4_inForce 60 = .ok (.if_icmp .eq 19, 3) := by decide +kernel
theorem dX4_inForce_63 : decode cX4_inForce 63 = .ok (.aload_n 0, 1) := by decide +kernel
theorem dX4_inForce_64 : decode cX4_inForce 64 = .ok (.getfield 15, 3) := by decide +kernel
theorem dX4_inForce_67 : decode cX4_inForce 67 = .ok (.iload 4, 2) := by decide +kernel
theorem dX4_inForce_69 : decode cX4_inForce 69 = .ok (.iaload, 1) := by decide +kernel
theorem dX4_inForce_70 : decode cX4_inForce 70 = .ok (.aload_n 0, 1) := by decide +kernel
theorem dX4_inForce_71 : decode cX4_inForce 71 = .ok (.getfield 15, 3) := by decide +kernel
theorem dX4_inForce_74 : decode cX4_inForce 74 = .ok (.iload_n 3, 1) := by decide +kernel
theorem dX4_inForce_75 : decode cX4_inForce 75 = .ok (.iaload, 1) := by decide +kernel
theorem dX4_inForce_76 : decode cX4_inForce 76 = .ok (.if_icmp .lt 6, 3) := by decide +kernel
theorem dX4_inForce_79 : decode cX4_inForce 79 = .ok (.iload 4, 2) := by decide +kernel
theorem dX4_inForce_81 : decode cX4_inForce 81 = .ok (.istore_n 3, 1) := by decide +kernel
theorem dX4_inForce_82 : decode cX4_inForce 82 = .ok (.iinc 4 1, 3) := by decide +kernel
theorem dX4_inForce_85 : decode cX4_inForce 85 = .ok (.goto (-80), 3) := by decide +kernel
theorem dX4_inForce_88 : decode cX4_inForce 88 = .ok (.iload_n 3, 1) := by decide +kernel
theorem dX4_inForce_89 : decode cX4_inForce 89 = .ok (.ireturn, 1) := by decide +kernel
set_option maxRecDepth 20000 in
theorem ggX4_dutyBy_X4_has : GoodIn wsX4_dutyBy wsX4_has := goodIn_r _ [8, 9, 10, 11, 12, 13, 14, 15, 16] (by decide +kernel) (by decide +kernel)
set_option maxRecDepth 20000 in
theorem gX4_dutyBy_X4_has : GoodIn wsX4_dutyBy (wsV RX4 36 RX4 yX4_has wsX4_has) := goodIn_app (goodIn_of _ (by decide +kernel)) ggX4_dutyBy_X4_has
theorem dX4_dutyBy_0 : decode cX4_dutyBy 0 = .ok (.aload_n 0, 1) := by decide +kernel
theorem dX4_dutyBy_1 : decode cX4_dutyBy 1 = .ok (.iload_n 1, 1) := by decide +kernel
theorem dX4_dutyBy_2 : decode cX4_dutyBy 2 = .ok (.invokevirtual 36, 3) := by decide +kernel
theorem dX4_dutyBy_5 : decode cX4_dutyBy 5 = .ok (.ifCond .eq 12, 3) := by decide +kernel
theorem dX4_dutyBy_8 : decode cX4_dutyBy 8 = .ok (.aload_n 0, 1) := by decide +kernel
theorem dX4_dutyBy_9 : decode cX4_dutyBy 9 = .ok (.getfield 21, 3) := by decide +kernel
theorem dX4_dutyBy_12 : decode cX4_dutyBy 12 = .ok (.iload_n 1, 1) := by decide +kernel
theorem dX4_dutyBy_13 : decode cX4_dutyBy 13 = .ok (.iaload, 1) := by decide +kernel
theorem dX4_dutyBy_14 : decode cX4_dutyBy 14 = .ok (.ifCond .ne 5, 3) := by decide +kernel
theorem dX4_dutyBy_17 : decode cX4_dutyBy 17 = .ok (.iconst 0, 1) := by decide +kernel
theorem dX4_dutyBy_18 : decode cX4_dutyBy 18 = .ok (.ireturn, 1) := by decide +kernel
theorem dX4_dutyBy_19 : decode cX4_dutyBy 19 = .ok (.aload_n 0, 1) := by decide +kernel
theorem dX4_dutyBy_20 : decode cX4_dutyBy 20 = .ok (.getfield 29, 3) := by decide +kernel
theorem dX4_dutyBy_23 : decode cX4_dutyBy 23 = .ok (.iload_n 1, 1) := by decide +kernel
theorem dX4_dutyBy_24 : decode cX4_dutyBy 24 = .ok (.aaload, 1) := by decide +kernel
theorem dX4_dutyBy_25 : decode cX4_dutyBy 25 = .ok (.iconst 0, 1) := by decide +kernel
theorem dX4_dutyBy_26 : decode cX4_dutyBy 26 = .ok (.iaload, 1) := by decide +kernel
theorem dX4_dutyBy_27 : decode cX4_dutyBy 27 = .ok (.istore_n 3, 1) := by decide +kernel
theorem dX4_dutyBy_28 : decode cX4_dutyBy 28 = .ok (.iconst 1, 1) := by decide +kernel
theorem dX4_dutyBy_29 : decode cX4_dutyBy 29 = .ok (.istore 4, 2) := by decide +kernel
theorem dX4_dutyBy_31 : decode cX4_dutyBy 31 = .ok (.iload 4, 2) := by decide +kernel
theorem dX4_dutyBy_33 : decode cX4_dutyBy 33 = .ok (.aload_n 0, 1) := by decide +kernel
theorem dX4_dutyBy_34 : decode cX4_dutyBy 34 = .ok (.getfield 21, 3) := by decide +kernel
theorem dX4_dutyBy_37 : decode cX4_dutyBy 37 = .ok (.iload_n 1, 1) := by decide +kernel
theorem dX4_dutyBy_38 : decode cX4_dutyBy 38 = .ok (.iaload, 1) := by decide +kernel
theorem dX4_dutyBy_39 : decode cX4_dutyBy 39 = .ok (.if_icmp .ge 32, 3) := by decide +kernel
theorem dX4_dutyBy_42 : decode cX4_dutyBy 42 = .ok (.aload_n 0, 1) := by decide +kernel
theorem dX4_dutyBy_43 : decode cX4_dutyBy 43 = .ok (.getfield 26, 3) := by decide +kernel
theorem dX4_dutyBy_46 : decode cX4_dutyBy 46 = .ok (.iload_n 1, 1) := by decide +kernel
theorem dX4_dutyBy_47 : decode cX4_dutyBy 47 = .ok (.aaload, 1) := by decide +kernel
theorem dX4_dutyBy_48 : decode cX4_dutyBy 48 = .ok (.iload 4, 2) := by decide +kernel
theorem dX4_dutyBy_50 : decode cX4_dutyBy 50 = .ok (.iaload, 1) := by decide +kernel
theorem dX4_dutyBy_51 : decode cX4_dutyBy 51 = .ok (.iload_n 2, 1) := by decide +kernel
theorem dX4_dutyBy_52 : decode cX4_dutyBy 52 = .ok (.if_icmp .gt 13, 3) := by decide +kernel
theorem dX4_dutyBy_55 : decode cX4_dutyBy 55 = .ok (.aload_n 0, 1) := by decide +kernel
theorem dX4_dutyBy_56 : decode cX4_dutyBy 56 = .ok (.getfield 29, 3) := by decide +kernel
theorem dX4_dutyBy_59 : decode cX4_dutyBy 59 = .ok (.iload_n 1, 1) := by decide +kernel
theorem dX4_dutyBy_60 : decode cX4_dutyBy 60 = .ok (.aaload, 1) := by decide +kernel
theorem dX4_dutyBy_61 : decode cX4_dutyBy 61 = .ok (.iload 4, 2) := by decide +kernel
theorem dX4_dutyBy_63 : decode cX4_dutyBy 63 = .ok (.iaload, 1) := by decide +kernel
theorem dX4_dutyBy_64 : decode cX4_dutyBy 64 = .ok (.istore_n 3, 1) := by decide +kernel
theorem dX4_dutyBy_65 : decode cX4_dutyBy 65 = .ok (.iinc 4 1, 3) := by decide +kernel
theorem dX4_dutyBy_68 : decode cX4_dutyBy 68 = .ok (.goto (-37), 3) := by decide +kernel
theorem dX4_dutyBy_71 : decode cX4_dutyBy 71 = .ok (.iload_n 3, 1) := by decide +kernel
theorem dX4_dutyBy_72 : decode cX4_dutyBy 72 = .ok (.ireturn, 1) := by decide +kernel
set_option maxRecDepth 20000 in
theorem ggX5_init_X3_init : GoodIn wsX5_init wsX3_init := goodIn_r _ [25, 26, 2, 3, 27, 28, 29, 30, 31, 32, 33, 34, 66, 67, 68, 69, 70, 71, 72, 73] (by decide +kernel) (by decide +kernel)
set_option maxRecDepth 20000 in
theorem gX5_init_X3_init_n11 : GoodIn wsX5_init (wsX3_init) := ggX5_init_X3_init
set_option maxRecDepth 20000 in
theorem ggX5_init_X4_init : GoodIn wsX5_init wsX4_init := goodIn_r _ [36, 37, 2, 3, 27, 38, 39, 40, 41, 42, 43, 44, 82, 83, 84, 85, 86, 87, 88] (by decide +kernel) (by decide +kernel)
set_option maxRecDepth 20000 in
theorem gX5_init_X4_init_n18 : GoodIn wsX5_init (wsX4_init) := ggX5_init_X4_init
set_option maxRecDepth 20000 in
theorem ggX5_init_X1_init : GoodIn wsX5_init wsX1_init := goodIn_r _ [46, 47, 2, 3, 27, 48, 49, 50, 89, 90, 91] (by decide +kernel) (by decide +kernel)
set_option maxRecDepth 20000 in
theorem gX5_init_X1_init_n25 : GoodIn wsX5_init (wsX1_init) := ggX5_init_X1_init
set_option maxRecDepth 20000 in
theorem ggX5_init_X0_init : GoodIn wsX5_init wsX0_init := goodIn_r _ [52, 53, 2, 3, 27, 54, 55, 56, 57, 58, 59, 92, 93, 94, 95, 96, 97, 98] (by decide +kernel) (by decide +kernel)
set_option maxRecDepth 20000 in
theorem gX5_init_X0_init_n32 : GoodIn wsX5_init (wsX0_init) := ggX5_init_X0_init
set_option maxRecDepth 20000 in
theorem ggX5_init_X2_init : GoodIn wsX5_init wsX2_init := goodIn_r _ [61, 62, 2, 3, 27, 63, 64, 65, 99, 100, 101, 102] (by decide +kernel) (by decide +kernel)
set_option maxRecDepth 20000 in
theorem gX5_init_X2_init_n39 : GoodIn wsX5_init (wsX2_init) := ggX5_init_X2_init
theorem dX5_init_0 : decode cX5_init 0 = .ok (.aload_n 0, 1) := by decide +kernel
theorem dX5_init_1 : decode cX5_init 1 = .ok (.invokespecial 3, 3) := by decide +kernel
theorem dX5_init_4 : decode cX5_init 4 = .ok (.aload_n 0, 1) := by decide +kernel
theorem dX5_init_5 : decode cX5_init 5 = .ok (.new 9, 3) := by decide +kernel
theorem dX5_init_8 : decode cX5_init 8 = .ok (.dup, 1) := by decide +kernel
theorem dX5_init_9 : decode cX5_init 9 = .ok (.invokespecial 11, 3) := by decide +kernel
theorem dX5_init_12 : decode cX5_init 12 = .ok (.putfield 12, 3) := by decide +kernel
theorem dX5_init_15 : decode cX5_init 15 = .ok (.aload_n 0, 1) := by decide +kernel
theorem dX5_init_16 : decode cX5_init 16 = .ok (.new 16, 3) := by decide +kernel
theorem dX5_init_19 : decode cX5_init 19 = .ok (.dup, 1) := by decide +kernel
theorem dX5_init_20 : decode cX5_init 20 = .ok (.invokespecial 18, 3) := by decide +kernel
theorem dX5_init_23 : decode cX5_init 23 = .ok (.putfield 19, 3) := by decide +kernel
theorem dX5_init_26 : decode cX5_init 26 = .ok (.aload_n 0, 1) := by decide +kernel
theorem dX5_init_27 : decode cX5_init 27 = .ok (.new 23, 3) := by decide +kernel
theorem dX5_init_30 : decode cX5_init 30 = .ok (.dup, 1) := by decide +kernel
theorem dX5_init_31 : decode cX5_init 31 = .ok (.invokespecial 25, 3) := by decide +kernel
theorem dX5_init_34 : decode cX5_init 34 = .ok (.putfield 26, 3) := by decide +kernel
theorem dX5_init_37 : decode cX5_init 37 = .ok (.aload_n 0, 1) := by decide +kernel
theorem dX5_init_38 : decode cX5_init 38 = .ok (.new 30, 3) := by decide +kernel
theorem dX5_init_41 : decode cX5_init 41 = .ok (.dup, 1) := by decide +kernel
theorem dX5_init_42 : decode cX5_init 42 = .ok (.invokespecial 32, 3) := by decide +kernel
theorem dX5_init_45 : decode cX5_init 45 = .ok (.putfield 33, 3) := by decide +kernel
theorem dX5_init_48 : decode cX5_init 48 = .ok (.aload_n 0, 1) := by decide +kernel
theorem dX5_init_49 : decode cX5_init 49 = .ok (.new 37, 3) := by decide +kernel
theorem dX5_init_52 : decode cX5_init 52 = .ok (.dup, 1) := by decide +kernel
theorem dX5_init_53 : decode cX5_init 53 = .ok (.invokespecial 39, 3) := by decide +kernel
theorem dX5_init_56 : decode cX5_init 56 = .ok (.putfield 40, 3) := by decide +kernel
theorem dX5_init_59 : decode cX5_init 59 = .ok (.return_, 1) := by decide +kernel
set_option maxRecDepth 20000 in
theorem ggX5_weeks_X5_isOutside : GoodIn wsX5_weeks wsX5_isOutside := goodIn_r _ [7] (by decide +kernel) (by decide +kernel)
set_option maxRecDepth 20000 in
theorem gX5_weeks_X5_isOutside : GoodIn wsX5_weeks (va_wsS RX5 44 yX5_isOutside wsX5_isOutside) := goodIn_app (goodIn_of _ (by decide +kernel)) ggX5_weeks_X5_isOutside
set_option maxRecDepth 20000 in
theorem ggX5_weeks_X0_spoilAll : GoodIn wsX5_weeks wsX0_spoilAll := goodIn_r _ [12, 13, 14, 15, 16, 17, 11, 18, 27, 28, 29, 30, 31, 32, 33] (by decide +kernel) (by decide +kernel)
set_option maxRecDepth 20000 in
theorem gX5_weeks_X0_spoilAll : GoodIn wsX5_weeks (wsV RX5 55 RX0 yX0_spoilAll wsX0_spoilAll) := goodIn_app (goodIn_of _ (by decide +kernel)) ggX5_weeks_X0_spoilAll
theorem dX5_weeks_0 : decode cX5_weeks 0 = .ok (.iload_n 1, 1) := by decide +kernel
theorem dX5_weeks_1 : decode cX5_weeks 1 = .ok (.iconst 1, 1) := by decide +kernel
theorem dX5_weeks_2 : decode cX5_weeks 2 = .ok (.bipush 20, 2) := by decide +kernel
theorem dX5_weeks_4 : decode cX5_weeks 4 = .ok (.invokestatic 44, 3) := by decide +kernel
theorem dX5_weeks_7 : decode cX5_weeks 7 = .ok (.ifCond .ne 15, 3) := by decide +kernel
theorem dX5_weeks_10 : decode cX5_weeks 10 = .ok (.aload_n 0, 1) := by decide +kernel
theorem dX5_weeks_11 : decode cX5_weeks 11 = .ok (.getfield 48, 3) := by decide +kernel
theorem dX5_weeks_14 : decode cX5_weeks 14 = .ok (.iload_n 1, 1) := by decide +kernel
theorem dX5_weeks_15 : decode cX5_weeks 15 = .ok (.iadd, 1) := by decide +kernel
theorem dX5_weeks_16 : decode cX5_weeks 16 = .ok (.sipush 200, 3) := by decide +kernel
theorem dX5_weeks_19 : decode cX5_weeks 19 = .ok (.if_icmp .le 6, 3) := by decide +kernel
theorem dX5_weeks_22 : decode cX5_weeks 22 = .ok (.bipush (-2), 2) := by decide +kernel
theorem dX5_weeks_24 : decode cX5_weeks 24 = .ok (.ireturn, 1) := by decide +kernel
theorem dX5_weeks_25 : decode cX5_weeks 25 = .ok (.iconst 0, 1) := by decide +kernel
theorem dX5_weeks_26 : decode cX5_weeks 26 = .ok (.istore_n 2, 1) := by decide +kernel
theorem dX5_weeks_27 : decode cX5_weeks 27 = .ok (.iload_n 2, 1) := by decide +kernel
theorem dX5_weeks_28 : decode cX5_weeks 28 = .ok (.iload_n 1, 1) := by decide +kernel
theorem dX5_weeks_29 : decode cX5_weeks 29 = .ok (.if_icmp .ge 30, 3) := by decide +kernel
theorem dX5_weeks_32 : decode cX5_weeks 32 = .ok (.aload_n 0, 1) := by decide +kernel
theorem dX5_weeks_33 : decode cX5_weeks 33 = .ok (.dup, 1) := by decide +kernel
theorem dX5_weeks_34 : decode cX5_weeks 34 = .ok (.getfield 48, 3) := by decide +kernel
theorem dX5_weeks_37 : decode cX5_weeks 37 = .ok (.iconst 1, 1) := by decide +kernel
theorem dX5_weeks_38 : decode cX5_weeks 38 = .ok (.iadd, 1) := by decide +kernel
theorem dX5_weeks_39 : decode cX5_weeks 39 = .ok (.putfield 48, 3) := by decide +kernel
theorem dX5_weeks_42 : decode cX5_weeks 42 = .ok (.aload_n 0, 1) := by decide +kernel
theorem dX5_weeks_43 : decode cX5_weeks 43 = .ok (.getfield 33, 3) := by decide +kernel
theorem dX5_weeks_46 : decode cX5_weeks 46 = .ok (.aload_n 0, 1) := by decide +kernel
theorem dX5_weeks_47 : decode cX5_weeks 47 = .ok (.getfield 52, 3) := by decide +kernel
theorem dX5_weeks_50 : decode cX5_weeks 50 = .ok (.invokevirtual 55, 3) := by decide +kernel
theorem dX5_weeks_53 : decode cX5_weeks 53 = .ok (.iinc 2 1, 3) := by decide +kernel
theorem dX5_weeks_56 : decode cX5_weeks 56 = .ok (.goto (-29), 3) := by decide +kernel
theorem dX5_weeks_59 : decode cX5_weeks 59 = .ok (.aload_n 0, 1) := by decide +kernel
theorem dX5_weeks_60 : decode cX5_weeks 60 = .ok (.getfield 48, 3) := by decide +kernel
theorem dX5_weeks_63 : decode cX5_weeks 63 = .ok (.ireturn, 1) := by decide +kernel
set_option maxRecDepth 20000 in
theorem ggX5_sale_X5_isOutside : GoodIn wsX5_sale wsX5_isOutside := goodIn_r _ [7] (by decide +kernel) (by decide +kernel)
set_option maxRecDepth 20000 in
theorem gX5_sale_X5_isOutside : GoodIn wsX5_sale (va_wsS RX5 44 yX5_isOutside wsX5_isOutside) := goodIn_app (goodIn_of _ (by decide +kernel)) ggX5_sale_X5_isOutside
set_option maxRecDepth 20000 in
theorem ggX5_sale_X5_isNoGrain : GoodIn wsX5_sale wsX5_isNoGrain := goodIn_r _ [10, 4, 5, 6, 7] (by decide +kernel) (by decide +kernel)
set_option maxRecDepth 20000 in
theorem gX5_sale_X5_isNoGrain : GoodIn wsX5_sale (va_wsS RX5 59 yX5_isNoGrain wsX5_isNoGrain) := goodIn_app (goodIn_of _ (by decide +kernel)) ggX5_sale_X5_isNoGrain
set_option maxRecDepth 20000 in
theorem ggX5_sale_X3_add : GoodIn wsX5_sale wsX3_add := goodIn_r _ [15, 16, 17, 18, 19, 20, 21, 22, 23, 32, 33, 34, 35, 36, 37, 38, 39] (by decide +kernel) (by decide +kernel)
set_option maxRecDepth 20000 in
theorem gX5_sale_X3_add : GoodIn wsX5_sale (wsV RX5 66 RX3 yX3_add wsX3_add) := goodIn_app (goodIn_of _ (by decide +kernel)) ggX5_sale_X3_add
theorem dX5_sale_0 : decode cX5_sale 0 = .ok (.iload_n 1, 1) := by decide +kernel
theorem dX5_sale_1 : decode cX5_sale 1 = .ok (.iconst 0, 1) := by decide +kernel
theorem dX5_sale_2 : decode cX5_sale 2 = .ok (.bipush 9, 2) := by decide +kernel
theorem dX5_sale_4 : decode cX5_sale 4 = .ok (.invokestatic 44, 3) := by decide +kernel
theorem dX5_sale_7 : decode cX5_sale 7 = .ok (.ifCond .ne 46, 3) := by decide +kernel
theorem dX5_sale_10 : decode cX5_sale 10 = .ok (.iload_n 2, 1) := by decide +kernel
theorem dX5_sale_11 : decode cX5_sale 11 = .ok (.invokestatic 59, 3) := by decide +kernel
theorem dX5_sale_14 : decode cX5_sale 14 = .ok (.ifCond .ne 39, 3) := by decide +kernel
theorem dX5_sale_17 : decode cX5_sale 17 = .ok (.iload_n 3, 1) := by decide +kernel
theorem dX5_sale_18 : decode cX5_sale 18 = .ok (.iconst 0, 1) := by decide +kernel
theorem dX5_sale_19 : decode cX5_sale 19 = .ok (.aload_n 0, 1) := by decide +kernel
theorem dX5_sale_20 : decode cX5_sale 20 = .ok (.getfield 48, 3) := by decide +kernel
theorem dX5_sale_23 : decode cX5_sale 23 = .ok (.invokestatic 44, 3) := by decide +kernel
theorem dX5_sale_26 : decode cX5_sale 26 = .ok (.ifCond .ne 27, 3) := by decide +kernel
theorem dX5_sale_29 : decode cX5_sale 29 = .ok (.iload 4, 2) := by decide +kernel
theorem dX5_sale_31 : decode cX5_sale 31 = .ok (.iconst 1, 1) := by decide +kernel
theorem dX5_sale_32 : decode cX5_sale 32 = .ok (.sipush 1000, 3) := by decide +kernel
theorem dX5_sale_35 : decode cX5_sale 35 = .ok (.invokestatic 44, 3) := by decide +kernel
theorem dX5_sale_38 : decode cX5_sale 38 = .ok (.ifCond .ne 15, 3) := by decide +kernel
theorem dX5_sale_41 : decode cX5_sale 41 = .ok (.iload 5, 2) := by decide +kernel
theorem dX5_sale_43 : decode cX5_sale 43 = .ok (.iconst 1, 1) := by decide +kernel
theorem dX5_sale_44 : decode cX5_sale 44 = .ok (.sipush 2000, 3) := by decide +kernel
theorem dX5_sale_47 : decode cX5_sale 47 = .ok (.invokestatic 44, 3) := by decide +kernel
theorem dX5_sale_50 : decode cX5_sale 50 = .ok (.ifCond .eq 6, 3) := by decide +kernel
theorem dX5_sale_53 : decode cX5_sale 53 = .ok (.bipush (-2), 2) := by decide +kernel
theorem dX5_sale_55 : decode cX5_sale 55 = .ok (.ireturn, 1) := by decide +kernel
theorem dX5_sale_56 : decode cX5_sale 56 = .ok (.aload_n 0, 1) := by decide +kernel
theorem dX5_sale_57 : decode cX5_sale 57 = .ok (.getfield 12, 3) := by decide +kernel
theorem dX5_sale_60 : decode cX5_sale 60 = .ok (.getfield 63, 3) := by decide +kernel
theorem dX5_sale_63 : decode cX5_sale 63 = .ok (.bipush 60, 2) := by decide +kernel
theorem dX5_sale_65 : decode cX5_sale 65 = .ok (.if_icmp .lt 6, 3) := by decide +kernel
theorem dX5_sale_68 : decode cX5_sale 68 = .ok (.bipush (-4), 2) := by decide +kernel
theorem dX5_sale_70 : decode cX5_sale 70 = .ok (.ireturn, 1) := by decide +kernel
theorem dX5_sale_71 : decode cX5_sale 71 = .ok (.aload_n 0, 1) := by decide +kernel
