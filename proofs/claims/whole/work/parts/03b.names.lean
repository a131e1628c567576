theorem dX0_init_0 : decode cX0_init 0 = .ok (.aload_n 0, 1) := by decide +kernel
theorem dX0_init_1 : decode cX0_init 1 = .ok (.invokespecial 3, 3) := by decide +kernel
theorem dX0_init_4 : decode cX0_init 4 = .ok (.aload_n 0, 1) := by decide +kernel
theorem dX0_init_5 : decode cX0_init 5 = .ok (.bipush 21, 2) := by decide +kernel
theorem dX0_init_7 : decode cX0_init 7 = .ok (.newarray .int, 2) := by decide +kernel
theorem dX0_init_9 : decode cX0_init 9 = .ok (.putfield 11, 3) := by decide +kernel
theorem dX0_init_12 : decode cX0_init 12 = .ok (.aload_n 0, 1) := by decide +kernel
theorem dX0_init_13 : decode cX0_init 13 = .ok (.bipush 21, 2) := by decide +kernel
theorem dX0_init_15 : decode cX0_init 15 = .ok (.newarray .int, 2) := by decide +kernel
theorem dX0_init_17 : decode cX0_init 17 = .ok (.putfield 15, 3) := by decide +kernel
theorem dX0_init_20 : decode cX0_init 20 = .ok (.aload_n 0, 1) := by decide +kernel
theorem dX0_init_21 : decode cX0_init 21 = .ok (.bipush 21, 2) := by decide +kernel
theorem dX0_init_23 : decode cX0_init 23 = .ok (.newarray .boolean, 2) := by decide +kernel
theorem dX0_init_25 : decode cX0_init 25 = .ok (.putfield 18, 3) := by decide +kernel
theorem dX0_init_28 : decode cX0_init 28 = .ok (.aload_n 0, 1) := by decide +kernel
theorem dX0_init_29 : decode cX0_init 29 = .ok (.bipush 21, 2) := by decide +kernel
theorem dX0_init_31 : decode cX0_init 31 = .ok (.bipush 32, 2) := by decide +kernel
theorem dX0_init_33 : decode cX0_init 33 = .ok (.multianewarray 22 2, 4) := by decide +kernel
theorem dX0_init_37 : decode cX0_init 37 = .ok (.putfield 24, 3) := by decide +kernel
theorem dX0_init_40 : decode cX0_init 40 = .ok (.aload_n 0, 1) := by decide +kernel
theorem dX0_init_41 : decode cX0_init 41 = .ok (.iconst 0, 1) := by decide +kernel
theorem dX0_init_42 : decode cX0_init 42 = .ok (.putfield 27, 3) := by decide +kernel
theorem dX0_init_45 : decode cX0_init 45 = .ok (.aload_n 0, 1) := by decide +kernel
theorem dX0_init_46 : decode cX0_init 46 = .ok (.iconst 0, 1) := by decide +kernel
theorem dX0_init_47 : decode cX0_init 47 = .ok (.putfield 31, 3) := by decide +kernel
theorem dX0_init_50 : decode cX0_init 50 = .ok (.return_, 1) := by decide +kernel
theorem dX0_howMany_0 : decode cX0_howMany 0 = .ok (.aload_n 0, 1) := by decide +kernel
theorem dX0_howMany_1 : decode cX0_howMany 1 = .ok (.getfield 27, 3) := by decide +kernel
theorem dX0_howMany_4 : decode cX0_howMany 4 = .ok (.ireturn, 1) := by decide +kernel
theorem dX0_has_0 : decode cX0_has 0 = .ok (.iload_n 1, 1) := by decide +kernel
theorem dX0_has_1 : decode cX0_has 1 = .ok (.iconst 1, 1) := by decide +kernel
theorem dX0_has_2 : decode cX0_has 2 = .ok (.if_icmp .lt 15, 3) := by decide +kernel
theorem dX0_has_5 : decode cX0_has 5 = .ok (.iload_n 1, 1) := by decide +kernel
theorem dX0_has_6 : decode cX0_has 6 = .ok (.aload_n 0, 1) := by decide +kernel
theorem dX0_has_7 : decode cX0_has 7 = .ok (.getfield 27, 3) := by decide +kernel
theorem dX0_has_10 : decode cX0_has 10 = .ok (.if_icmp .gt 7, 3) := by decide +kernel
theorem dX0_has_13 : decode cX0_has 13 = .ok (.iconst 1, 1) := by decide +kernel
theorem dX0_has_14 : decode cX0_has 14 = .ok (.goto 4, 3) := by decide +kernel
theorem dX0_has_17 : decode cX0_has 17 = .ok (.iconst 0, 1) := by decide +kernel
theorem dX0_has_18 : decode cX0_has 18 = .ok (.ireturn, 1) := by decide +kernel
set_option maxRecDepth 20000 in
theorem ggX0_isGood_X0_has : GoodIn wsX0_isGood wsX0_has := goodIn_r _ [6, 7, 8, 9, 10, 11, 12, 13] (by decide +kernel) (by decide +kernel)
set_option maxRecDepth 20000 in
theorem gX0_isGood_X0_has : GoodIn wsX0_isGood (wsV RX0 35 RX0 yX0_has wsX0_has) := goodIn_app (goodIn_of _ (by decide +kernel)) ggX0_isGood_X0_has
theorem dX0_isGood_0 : decode cX0_isGood 0 = .ok (.aload_n 0, 1) := by decide +kernel
theorem dX0_isGood_1 : decode cX0_isGood 1 = .ok (.iload_n 1, 1) := by decide +kernel
theorem dX0_isGood_2 : decode cX0_isGood 2 = .ok (.invokevirtual 35, 3) := by decide +kernel
theorem dX0_isGood_5 : decode cX0_isGood 5 = .ok (.ifCond .eq 16, 3) := by decide +kernel
theorem dX0_isGood_8 : decode cX0_isGood 8 = .ok (.aload_n 0, 1) := by decide +kernel
theorem dX0_isGood_9 : decode cX0_isGood 9 = .ok (.getfield 18, 3) := by decide +kernel
theorem dX0_isGood_12 : decode cX0_isGood 12 = .ok (.iload_n 1, 1) := by decide +kernel
theorem dX0_isGood_13 : decode cX0_isGood 13 = .ok (.baload, 1) := by decide +kernel
theorem dX0_isGood_14 : decode cX0_isGood 14 = .ok (.ifCond .ne 7, 3) := by decide +kernel
theorem dX0_isGood_17 : decode cX0_isGood 17 = .ok (.iconst 1, 1) := by decide +kernel
theorem dX0_isGood_18 : decode cX0_isGood 18 = .ok (.goto 4, 3) := by decide +kernel
theorem dX0_isGood_21 : decode cX0_isGood 21 = .ok (.iconst 0, 1) := by decide +kernel
theorem dX0_isGood_22 : decode cX0_isGood 22 = .ok (.ireturn, 1) := by decide +kernel
set_option maxRecDepth 20000 in
theorem ggX0_startOf_X0_has : GoodIn wsX0_startOf wsX0_has := goodIn_r _ [6, 7, 8, 9, 10, 11, 12, 13] (by decide +kernel) (by decide +kernel)
set_option maxRecDepth 20000 in
theorem gX0_startOf_X0_has : GoodIn wsX0_startOf (wsV RX0 35 RX0 yX0_has wsX0_has) := goodIn_app (goodIn_of _ (by decide +kernel)) ggX0_startOf_X0_has
theorem dX0_startOf_0 : decode cX0_startOf 0 = .ok (.aload_n 0, 1) := by decide +kernel
theorem dX0_startOf_1 : decode cX0_startOf 1 = .ok (.iload_n 1, 1) := by decide +kernel
theorem dX0_startOf_2 : decode cX0_startOf 2 = .ok (.invokevirtual 35, 3) := by decide +kernel
theorem dX0_startOf_5 : decode cX0_startOf 5 = .ok (.ifCond .eq 12, 3) := by decide +kernel
theorem dX0_startOf_8 : decode cX0_startOf 8 = .ok (.aload_n 0, 1) := by decide +kernel
theorem dX0_startOf_9 : decode cX0_startOf 9 = .ok (.getfield 11, 3) := by decide +kernel
theorem dX0_startOf_12 : decode cX0_startOf 12 = .ok (.iload_n 1, 1) := by decide +kernel
theorem dX0_startOf_13 : decode cX0_startOf 13 = .ok (.iaload, 1) := by decide +kernel
theorem dX0_startOf_14 : decode cX0_startOf 14 = .ok (.goto 4, 3) := by decide +kernel
theorem dX0_startOf_17 : decode cX0_startOf 17 = .ok (.iconst 0, 1) := by decide +kernel
theorem dX0_startOf_18 : decode cX0_startOf 18 = .ok (.ireturn, 1) := by decide +kernel
set_option maxRecDepth 20000 in
theorem ggX0_endOf_X0_has : GoodIn wsX0_endOf wsX0_has := goodIn_r _ [6, 7, 8, 9, 10, 11, 12, 13] (by decide +kernel) (by decide +kernel)
set_option maxRecDepth 20000 in
theorem gX0_endOf_X0_has : GoodIn wsX0_endOf (wsV RX0 35 RX0 yX0_has wsX0_has) := goodIn_app (goodIn_of _ (by decide +kernel)) ggX0_endOf_X0_has
theorem dX0_endOf_0 : decode cX0_endOf 0 = .ok (.aload_n 0, 1) := by decide +kernel
theorem dX0_endOf_1 : decode cX0_endOf 1 = .ok (.iload_n 1, 1) := by decide +kernel
theorem dX0_endOf_2 : decode cX0_endOf 2 = .ok (.invokevirtual 35, 3) := by decide +kernel
theorem dX0_endOf_5 : decode cX0_endOf 5 = .ok (.ifCond .eq 12, 3) := by decide +kernel
theorem dX0_endOf_8 : decode cX0_endOf 8 = .ok (.aload_n 0, 1) := by decide +kernel
theorem dX0_endOf_9 : decode cX0_endOf 9 = .ok (.getfield 15, 3) := by decide +kernel
theorem dX0_endOf_12 : decode cX0_endOf 12 = .ok (.iload_n 1, 1) := by decide +kernel
theorem dX0_endOf_13 : decode cX0_endOf 13 = .ok (.iaload, 1) := by decide +kernel
theorem dX0_endOf_14 : decode cX0_endOf 14 = .ok (.goto 4, 3) := by decide +kernel
theorem dX0_endOf_17 : decode cX0_endOf 17 = .ok (.iconst 0, 1) := by decide +kernel
theorem dX0_endOf_18 : decode cX0_endOf 18 = .ok (.ireturn, 1) := by decide +kernel
theorem dX0_take_0 : decode cX0_take 0 = .ok (.aload_n 0, 1) := by decide +kernel
theorem dX0_take_1 : decode cX0_take 1 = .ok (.getfield 27, 3) := by decide +kernel
theorem dX0_take_4 : decode cX0_take 4 = .ok (.bipush 20, 2) := by decide +kernel
theorem dX0_take_6 : decode cX0_take 6 = .ok (.if_icmp .lt 5, 3) := by decide +kernel
theorem dX0_take_9 : decode cX0_take 9 = .ok (.iconst (-1), 1) := by decide +kernel
theorem dX0_take_10 : decode cX0_take 10 = .ok (.ireturn, 1) := by decide +kernel
theorem dX0_take_11 : decode cX0_take 11 = .ok (.aload_n 0, 1) := by decide +kernel
theorem dX0_take_12 : decode cX0_take 12 = .ok (.dup, 1) := by decide +kernel
theorem dX0_take_13 : decode cX0_take 13 = .ok (.getfield 27, 3) := by decide +kernel
theorem dX0_take_16 : decode cX0_take 16 = .ok (.iconst 1, 1) := by decide +kernel
theorem dX0_take_17 : decode cX0_take 17 = .ok (.iadd, 1) := by decide +kernel
theorem dX0_take_18 : decode cX0_take 18 = .ok (.putfield 27, 3) := by decide +kernel
theorem dX0_take_21 : decode cX0_take 21 = .ok (.aload_n 0, 1) := by decide +kernel
theorem dX0_take_22 : decode cX0_take 22 = .ok (.getfield 11, 3) := by decide +kernel
theorem dX0_take_25 : decode cX0_take 25 = .ok (.aload_n 0, 1) := by decide +kernel
theorem dX0_take_26 : decode cX0_take 26 = .ok (.getfield 27, 3) := by decide +kernel
theorem dX0_take_29 : decode cX0_take 29 = .ok (.iload_n 2, 1) := by decide +kernel
theorem dX0_take_30 : decode cX0_take 30 = .ok (.iastore, 1) := by decide +kernel
theorem dX0_take_31 : decode cX0_take 31 = .ok (.aload_n 0, 1) := by decide +kernel
theorem dX0_take_32 : decode cX0_take 32 = .ok (.getfield 15, 3) := by decide +kernel
theorem dX0_take_35 : decode cX0_take 35 = .ok (.aload_n 0, 1) := by decide +kernel
theorem dX0_take_36 : decode cX0_take 36 = .ok (.getfield 27, 3) := by decide +kernel
theorem dX0_take_39 : decode cX0_take 39 = .ok (.iload_n 2, 1) := by decide +kernel
theorem dX0_take_40 : decode cX0_take 40 = .ok (.iastore, 1) := by decide +kernel
theorem dX0_take_41 : decode cX0_take 41 = .ok (.iload_n 1, 1) := by decide +kernel
theorem dX0_take_42 : decode cX0_take 42 = .ok (.ifCond .eq 8, 3) := by decide +kernel
theorem dX0_take_45 : decode cX0_take 45 = .ok (.bipush 16, 2) := by decide +kernel
theorem dX0_take_47 : decode cX0_take 47 = .ok (.goto 5, 3) := by decide +kernel
theorem dX0_take_50 : decode cX0_take 50 = .ok (.bipush 32, 2) := by decide +kernel
theorem dX0_take_52 : decode cX0_take 52 = .ok (.istore 4, 2) := by decide +kernel
theorem dX0_take_54 : decode cX0_take 54 = .ok (.aload_n 3, 1) := by decide +kernel
theorem dX0_take_55 : decode cX0_take 55 = .ok (.iconst 0, 1) := by decide +kernel
theorem dX0_take_56 : decode cX0_take 56 = .ok (.aload_n 0, 1) := by decide +kernel
theorem dX0_take_57 : decode cX0_take 57 = .ok (.getfield 24, 3) := by decide +kernel
theorem dX0_take_60 : decode cX0_take 60 = .ok (.aload_n 0, 1) := by decide +kernel
theorem dX0_take_61 : decode cX0_take 61 = .ok (.getfield 27, 3) := by decide +kernel
theorem dX0_take_64 : decode cX0_take 64 = .ok (.aaload, 1) := by decide +kernel
theorem dX0_take_65 : decode cX0_take 65 = .ok (.iconst 0, 1) := by decide +kernel
theorem dX0_take_66 : decode cX0_take 66 = .ok (.iload 4, 2) := by decide +kernel
theorem dX0_take_68 : decode cX0_take 68 = .ok (.invokestatic 39, 3) := by decide +kernel
theorem dX0_take_71 : decode cX0_take 71 = .ok (.aload_n 0, 1) := by decide +kernel
theorem dX0_take_72 : decode cX0_take 72 = .ok (.iload_n 1, 1) := by decide +kernel
theorem dX0_take_73 : decode cX0_take 73 = .ok (.putfield 31, 3) := by decide +kernel
theorem dX0_take_76 : decode cX0_take 76 = .ok (.aload_n 0, 1) := by decide +kernel
theorem dX0_take_77 : decode cX0_take 77 = .ok (.getfield 27, 3) := by decide +kernel
theorem dX0_take_80 : decode cX0_take 80 = .ok (.ireturn, 1) := by decide +kernel
theorem dX0_finish_0 : decode cX0_finish 0 = .ok (.aload_n 0, 1) := by decide +kernel
theorem dX0_finish_1 : decode cX0_finish 1 = .ok (.getfield 31, 3) := by decide +kernel
theorem dX0_finish_4 : decode cX0_finish 4 = .ok (.ifCond .ne 4, 3) := by decide +kernel
theorem dX0_finish_7 : decode cX0_finish 7 = .ok (.return_, 1) := by decide +kernel
theorem dX0_finish_8 : decode cX0_finish 8 = .ok (.aload_n 2, 1) := by decide +kernel
theorem dX0_finish_9 : decode cX0_finish 9 = .ok (.bipush 16, 2) := by decide +kernel
theorem dX0_finish_11 : decode cX0_finish 11 = .ok (.aload_n 0, 1) := by decide +kernel
theorem dX0_finish_12 : decode cX0_finish 12 = .ok (.getfield 24, 3) := by decide +kernel
theorem dX0_finish_15 : decode cX0_finish 15 = .ok (.aload_n 0, 1) := by decide +kernel
theorem dX0_finish_16 : decode cX0_finish 16 = .ok (.getfield 27, 3) := by decide +kernel
theorem dX0_finish_19 : decode cX0_finish 19 = .ok (.aaload, 1) := by decide +kernel
theorem dX0_finish_20 : decode cX0_finish 20 = .ok (.bipush 16, 2) := by decide +kernel
theorem dX0_finish_22 : decode cX0_finish 22 = .ok (.bipush 16, 2) := by decide +kernel
theorem dX0_finish_24 : decode cX0_finish 24 = .ok (.invokestatic 39, 3) := by decide +kernel
theorem dX0_finish_27 : decode cX0_finish 27 = .ok (.aload_n 0, 1) := by decide +kernel
theorem dX0_finish_28 : decode cX0_finish 28 = .ok (.getfield 15, 3) := by decide +kernel
theorem dX0_finish_31 : decode cX0_finish 31 = .ok (.aload_n 0, 1) := by decide +kernel
theorem dX0_finish_32 : decode cX0_finish 32 = .ok (.getfield 27, 3) := by decide +kernel
theorem dX0_finish_35 : decode cX0_finish 35 = .ok (.iload_n 1, 1) := by decide +kernel
theorem dX0_finish_36 : decode cX0_finish 36 = .ok (.iastore, 1) := by decide +kernel
theorem dX0_finish_37 : decode cX0_finish 37 = .ok (.aload_n 0, 1) := by decide +kernel
theorem dX0_finish_38 : decode cX0_finish 38 = .ok (.iconst 0, 1) := by decide +kernel
theorem dX0_finish_39 : decode cX0_finish 39 = .ok (.putfield 31, 3) := by decide +kernel
theorem dX0_finish_42 : decode cX0_finish 42 = .ok (.return_, 1) := by decide +kernel
set_option maxRecDepth 20000 in
theorem ggX0_finishBehindFifth_X0_finish : GoodIn wsX0_finishBehindFifth wsX0_finish := goodIn_ca (goodIn_r _ [7, 8, 9, 2, 10, 11, 12, 13, 14, 15, 16, 17, 18, 19, 20] (by decide +kernel) (by decide +kernel)) (goodIn_sub (fun _ h => List.mem_cons_of_mem _ (List.mem_append_right _ h)) (by decide +kernel))
set_option maxRecDepth 20000 in
theorem gX0_finishBehindFifth_X0_finish : GoodIn wsX0_finishBehindFifth (wsV RX0 45 RX0 yX0_finish wsX0_finish) := goodIn_app (goodIn_of _ (by decide +kernel)) ggX0_finishBehindFifth_X0_finish
theorem dX0_finishBehindFifth_0 : decode cX0_finishBehindFifth 0 = .ok (.iload_n 1, 1) := by decide +kernel
theorem dX0_finishBehindFifth_1 : decode cX0_finishBehindFifth 1 = .ok (.aload_n 0, 1) := by decide +kernel
theorem dX0_finishBehindFifth_2 : decode cX0_finishBehindFifth 2 = .ok (.getfield 11, 3) := by decide +kernel
theorem dX0_finishBehindFifth_5 : decode cX0_finishBehindFifth 5 = .ok (.aload_n 0, 1) := by decide +kernel
theorem dX0_finishBehindFifth_6 : decode cX0_finishBehindFifth 6 = .ok (.getfield 27, 3) := by decide +kernel
theorem dX0_finishBehindFifth_9 : decode cX0_finishBehindFifth 9 = .ok (.iaload, 1) := by decide +kernel
theorem dX0_finishBehindFifth_10 : decode cX0_finishBehindFifth 10 = .ok (.isub, 1) := by decide +kernel
theorem dX0_finishBehindFifth_11 : decode cX0_finishBehindFifth 11 = .ok (.iconst 5, 1) := by decide +kernel
theorem dX0_finishBehindFifth_12 : decode cX0_finishBehindFifth 12 = .ok (.if_icmp .lt 9, 3) := by decide +kernel
theorem dX0_finishBehindFifth_15 : decode cX0_finishBehindFifth 15 = .ok (.aload_n 0, 1) := by decide +kernel
theorem dX0_finishBehindFifth_16 : decode cX0_finishBehindFifth 16 = .ok (.iload_n 1, 1) := by decide +kernel
theorem dX0_finishBehindFifth_17 : decode cX0_finishBehindFifth 17 = .ok (.aload_n 2, 1) := by decide +kernel
theorem dX0_finishBehindFifth_18 : decode cX0_finishBehindFifth 18 = .ok (.invokevirtual 45, 3) := by decide +kernel
theorem dX0_finishBehindFifth_21 : decode cX0_finishBehindFifth 21 = .ok (.return_, 1) := by decide +kernel
set_option maxRecDepth 20000 in
theorem ggX0_putBack_X0_has : GoodIn wsX0_putBack wsX0_has := goodIn_r _ [10, 11, 12, 13, 14, 15, 16, 17] (by decide +kernel) (by decide +kernel)
set_option maxRecDepth 20000 in
theorem gX0_putBack_X0_has : GoodIn wsX0_putBack (wsV RX0 35 RX0 yX0_has wsX0_has) := goodIn_app (goodIn_of _ (by decide +kernel)) ggX0_putBack_X0_has
theorem dX0_putBack_0 : decode cX0_putBack 0 = .ok (.aload_n 0, 1) := by decide +kernel
theorem dX0_putBack_1 : decode cX0_putBack 1 = .ok (.iload_n 1, 1) := by decide +kernel
theorem dX0_putBack_2 : decode cX0_putBack 2 = .ok (.invokevirtual 35, 3) := by decide +kernel
theorem dX0_putBack_5 : decode cX0_putBack 5 = .ok (.ifCond .eq 17, 3) := by decide +kernel
theorem dX0_putBack_8 : decode cX0_putBack 8 = .ok (.aload_n 0, 1) := by decide +kernel
theorem dX0_putBack_9 : decode cX0_putBack 9 = .ok (.getfield 24, 3) := by decide +kernel
theorem dX0_putBack_12 : decode cX0_putBack 12 = .ok (.iload_n 1, 1) := by decide +kernel
theorem dX0_putBack_13 : decode cX0_putBack 13 = .ok (.aaload, 1) := by decide +kernel
theorem dX0_putBack_14 : decode cX0_putBack 14 = .ok (.iconst 0, 1) := by decide +kernel
theorem dX0_putBack_15 : decode cX0_putBack 15 = .ok (.aload_n 2, 1) := by decide +kernel
theorem dX0_putBack_16 : decode cX0_putBack 16 = .ok (.iconst 0, 1) := by decide +kernel
theorem dX0_putBack_17 : decode cX0_putBack 17 = .ok (.bipush 32, 2) := by decide +kernel
theorem dX0_putBack_19 : decode cX0_putBack 19 = .ok (.invokestatic 39, 3) := by decide +kernel
theorem dX0_putBack_22 : decode cX0_putBack 22 = .ok (.return_, 1) := by decide +kernel
theorem dX0_spoilBehind_0 : decode cX0_spoilBehind 0 = .ok (.iconst 1, 1) := by decide +kernel
theorem dX0_spoilBehind_1 : decode cX0_spoilBehind 1 = .ok (.istore_n 2, 1) := by decide +kernel
theorem dX0_spoilBehind_2 : decode cX0_spoilBehind 2 = .ok (.iload_n 2, 1) := by decide +kernel
theorem dX0_spoilBehind_3 : decode cX0_spoilBehind 3 = .ok (.aload_n 0, 1) := by decide +kernel
theorem dX0_spoilBehind_4 : decode cX0_spoilBehind 4 = .ok (.getfield 27, 3) := by decide +kernel
theorem dX0_spoilBehind_7 : decode cX0_spoilBehind 7 = .ok (.if_icmp .gt 26, 3) := by decide +kernel
theorem dX0_spoilBehind_10 : decode cX0_spoilBehind 10 = .ok (.aload_n 0, 1) := by decide +kernel
theorem dX0_spoilBehind_11 : decode cX0_spoilBehind 11 = .ok (.getfield 15, 3) := by decide +kernel
theorem dX0_spoilBehind_14 : decode cX0_spoilBehind 14 = .ok (.iload_n 2, 1) := by decide +kernel
theorem dX0_spoilBehind_15 : decode cX0_spoilBehind 15 = .ok (.iaload, 1) := by decide +kernel
theorem dX0_spoilBehind_16 : decode cX0_spoilBehind 16 = .ok (.iload_n 1, 1) := by decide +kernel
theorem dX0_spoilBehind_17 : decode cX0_spoilBehind 17 = .ok (.if_icmp .le 10, 3) := by decide +kernel
theorem dX0_spoilBehind_20 : decode cX0_spoilBehind 20 = .ok (.aload_n 0, 1) := by decide +kernel
theorem dX0_spoilBehind_21 : decode cX0_spoilBehind 21 = .ok (.getfield 18, 3) := by decide +kernel
theorem dX0_spoilBehind_24 : decode cX0_spoilBehind 24 = .ok (.iload_n 2, 1) := by decide +kernel
theorem dX0_spoilBehind_25 : decode cX0_spoilBehind 25 = .ok (.iconst 1, 1) := by decide +kernel
theorem dX0_spoilBehind_26 : decode cX0_spoilBehind 26 = .ok (.bastore, 1) := by decide +kernel
theorem dX0_spoilBehind_27 : decode cX0_spoilBehind 27 = .ok (.iinc 2 1, 3) := by decide +kernel
theorem dX0_spoilBehind_30 : decode cX0_spoilBehind 30 = .ok (.goto (-28), 3) := by decide +kernel
theorem dX0_spoilBehind_33 : decode cX0_spoilBehind 33 = .ok (.return_, 1) := by decide +kernel
theorem dX1_init_0 : decode cX1_init 0 = .ok (.aload_n 0, 1) := by decide +kernel
theorem dX1_init_1 : decode cX1_init 1 = .ok (.invokespecial 3, 3) := by decide +kernel
theorem dX1_init_4 : decode cX1_init 4 = .ok (.aload_n 0, 1) := by decide +kernel
theorem dX1_init_5 : decode cX1_init 5 = .ok (.sipush 2001, 3) := by decide +kernel
theorem dX1_init_8 : decode cX1_init 8 = .ok (.newarray .int, 2) := by decide +kernel
theorem dX1_init_10 : decode cX1_init 10 = .ok (.putfield 9, 3) := by decide +kernel
theorem dX1_init_13 : decode cX1_init 13 = .ok (.aload_n 0, 1) := by decide +kernel
theorem dX1_init_14 : decode cX1_init 14 = .ok (.sipush 2001, 3) := by decide +kernel
theorem dX1_init_17 : decode cX1_init 17 = .ok (.newarray .int, 2) := by decide +kernel
theorem dX1_init_19 : decode cX1_init 19 = .ok (.putfield 15, 3) := by decide +kernel
theorem dX1_init_22 : decode cX1_init 22 = .ok (.aload_n 0, 1) := by decide +kernel
theorem dX1_init_23 : decode cX1_init 23 = .ok (.sipush 2001, 3) := by decide +kernel
theorem dX1_init_26 : decode cX1_init 26 = .ok (.newarray .int, 2) := by decide +kernel
theorem dX1_init_28 : decode cX1_init 28 = .ok (.putfield 18, 3) := by decide +kernel
theorem dX1_init_31 : decode cX1_init 31 = .ok (.aload_n 0, 1) := by decide +kernel
theorem dX1_init_32 : decode cX1_init 32 = .ok (.sipush 2001, 3) := by decide +kernel
theorem dX1_init_35 : decode cX1_init 35 = .ok (.newarray .long, 2) := by decide +kernel
theorem dX1_init_37 : decode cX1_init 37 = .ok (.putfield 21, 3) := by decide +kernel
theorem dX1_init_40 : decode cX1_init 40 = .ok (.aload_n 0, 1) := by decide +kernel
theorem dX1_init_41 : decode cX1_init 41 = .ok (.sipush 2001, 3) := by decide +kernel
theorem dX1_init_44 : decode cX1_init 44 = .ok (.newarray .long, 2) := by decide +kernel
theorem dX1_init_46 : decode cX1_init 46 = .ok (.putfield 25, 3) := by decide +kernel
theorem dX1_init_49 : decode cX1_init 49 = .ok (.aload_n 0, 1) := by decide +kernel
theorem dX1_init_50 : decode cX1_init 50 = .ok (.sipush 2001, 3) := by decide +kernel
theorem dX1_init_53 : decode cX1_init 53 = .ok (.newarray .int, 2) := by decide +kernel
theorem dX1_init_55 : decode cX1_init 55 = .ok (.putfield 28, 3) := by decide +kernel
theorem dX1_init_58 : decode cX1_init 58 = .ok (.aload_n 0, 1) := by decide +kernel
theorem dX1_init_59 : decode cX1_init 59 = .ok (.sipush 2001, 3) := by decide +kernel
theorem dX1_init_62 : decode cX1_init 62 = .ok (.newarray .boolean, 2) := by decide +kernel
theorem dX1_init_64 : decode cX1_init 64 = .ok (.putfield 31, 3) := by decide +kernel
theorem dX1_init_67 : decode cX1_init 67 = .ok (.aload_n 0, 1) := by decide +kernel
theorem dX1_init_68 : decode cX1_init 68 = .ok (.iconst 0, 1) := by decide +kernel
theorem dX1_init_69 : decode cX1_init 69 = .ok (.putfield 35, 3) := by decide +kernel
theorem dX1_init_72 : decode cX1_init 72 = .ok (.aload_n 0, 1) := by decide +kernel
theorem dX1_init_73 : decode cX1_init 73 = .ok (.iconst 0, 1) := by decide +kernel
theorem dX1_init_74 : decode cX1_init 74 = .ok (.putfield 39, 3) := by decide +kernel
theorem dX1_init_77 : decode cX1_init 77 = .ok (.return_, 1) := by decide +kernel
theorem dX1_latest_0 : decode cX1_latest 0 = .ok (.aload_n 0, 1) := by decide +kernel
theorem dX1_latest_1 : decode cX1_latest 1 = .ok (.getfield 35, 3) := by decide +kernel
theorem dX1_latest_4 : decode cX1_latest 4 = .ok (.ireturn, 1) := by decide +kernel
theorem dX1_archived_0 : decode cX1_archived 0 = .ok (.aload_n 0, 1) := by decide +kernel
theorem dX1_archived_1 : decode cX1_archived 1 = .ok (.getfield 39, 3) := by decide +kernel
theorem dX1_archived_4 : decode cX1_archived 4 = .ok (.ireturn, 1) := by decide +kernel
theorem dX1_has_0 : decode cX1_has 0 = .ok (.iload_n 1, 1) := by decide +kernel
theorem dX1_has_1 : decode cX1_has 1 = .ok (.iconst 1, 1) := by decide +kernel
theorem dX1_has_2 : decode cX1_has 2 = .ok (.if_icmp .lt 15, 3) := by decide +kernel
theorem dX1_has_5 : decode cX1_has 5 = .ok (.iload_n 1, 1) := by decide +kernel
theorem dX1_has_6 : decode cX1_has 6 = .ok (.aload_n 0, 1) := by decide +kernel
theorem dX1_has_7 : decode cX1_has 7 = .ok (.getfield 35, 3) := by decide +kernel
theorem dX1_has_10 : decode cX1_has 10 = .ok (.if_icmp .gt 7, 3) := by decide +kernel
theorem dX1_has_13 : decode cX1_has 13 = .ok (.iconst 1, 1) := by decide +kernel
theorem dX1_has_14 : decode cX1_has 14 = .ok (.goto 4, 3) := by decide +kernel
theorem dX1_has_17 : decode cX1_has 17 = .ok (.iconst 0, 1) := by decide +kernel
theorem dX1_has_18 : decode cX1_has 18 = .ok (.ireturn, 1) := by decide +kernel
theorem dX1_hasRoomFor_0 : decode cX1_hasRoomFor 0 = .ok (.iload_n 1, 1) := by decide +kernel
theorem dX1_hasRoomFor_1 : decode cX1_hasRoomFor 1 = .ok (.sipush 2000, 3) := by decide +kernel
theorem dX1_hasRoomFor_4 : decode cX1_hasRoomFor 4 = .ok (.aload_n 0, 1) := by decide +kernel
theorem dX1_hasRoomFor_5 : decode cX1_hasRoomFor 5 = .ok (.getfield 35, 3) := by decide +kernel
theorem dX1_hasRoomFor_8 : decode cX1_hasRoomFor 8 = .ok (.isub, 1) := by decide +kernel
theorem dX1_hasRoomFor_9 : decode cX1_hasRoomFor 9 = .ok (.if_icmp .gt 7, 3) := by decide +kernel
theorem dX1_hasRoomFor_12 : decode cX1_hasRoomFor 12 = .ok (.iconst 1, 1) := by decide +kernel
theorem dX1_hasRoomFor_13 : decode cX1_hasRoomFor 13 = .ok (.goto 4, 3) := by decide +kernel
theorem dX1_hasRoomFor_16 : decode cX1_hasRoomFor 16 = .ok (.iconst 0, 1) := by decide +kernel
theorem dX1_hasRoomFor_17 : decode cX1_hasRoomFor 17 = .ok (.ireturn, 1) := by decide +kernel
set_option maxRecDepth 20000 in
theorem ggX1_write_X1_hasRoomFor : GoodIn wsX1_write wsX1_hasRoomFor := goodIn_r _ [13, 1, 14, 15, 16, 17, 18, 19, 20, 21, 22] (by decide +kernel) (by decide +kernel)
set_option maxRecDepth 20000 in
theorem gX1_write_X1_hasRoomFor : GoodIn wsX1_write (wsV RX1 42 RX1 yX1_hasRoomFor wsX1_hasRoomFor) := goodIn_app (goodIn_of _ (by decide +kernel)) ggX1_write_X1_hasRoomFor
theorem dX1_write_0 : decode cX1_write 0 = .ok (.aload_n 0, 1) := by decide +kernel
theorem dX1_write_1 : decode cX1_write 1 = .ok (.iconst 1, 1) := by decide +kernel
theorem dX1_write_2 : decode cX1_write 2 = .ok (.invokevirtual 42, 3) := by decide +kernel
theorem dX1_write_5 : decode cX1_write 5 = .ok (.ifCond .ne 5, 3) := by decide +kernel
theorem dX1_write_8 : decode cX1_write 8 = .ok (.iconst (-1), 1) := by decide +kernel
theorem dX1_write_9 : decode cX1_write 9 = .ok (.ireturn, 1) := by decide +kernel
theorem dX1_write_10 : decode cX1_write 10 = .ok (.aload_n 0, 1) := by decide +kernel
theorem dX1_write_11 : decode cX1_write 11 = .ok (.dup, 1) := by decide +kernel
theorem dX1_write_12 : decode cX1_write 12 = .ok (.getfield 35, 3) := by decide +kernel
theorem dX1_write_15 : decode cX1_write 15 = .ok (.iconst 1, 1) := by decide +kernel
theorem dX1_write_16 : decode cX1_write 16 = .ok (.iadd, 1) := by decide +kernel
theorem dX1_write_17 : decode cX1_write 17 = .ok (.putfield 35, 3) := by decide +kernel
theorem dX1_write_20 : decode cX1_write 20 = .ok (.aload_n 0, 1) := by decide +kernel
theorem dX1_write_21 : decode cX1_write 21 = .ok (.getfield 9, 3) := by decide +kernel
theorem dX1_write_24 : decode cX1_write 24 = .ok (.aload_n 0, 1) := by decide +kernel
theorem dX1_write_25 : decode cX1_write 25 = .ok (.getfield 35, 3) := by decide +kernel
theorem dX1_write_28 : decode cX1_write 28 = .ok (.iload_n 1, 1) := by decide +kernel
theorem dX1_write_29 : decode cX1_write 29 = .ok (.iastore, 1) := by decide +kernel
theorem dX1_write_30 : decode cX1_write 30 = .ok (.aload_n 0, 1) := by decide +kernel
theorem dX1_write_31 : decode cX1_write 31 = .ok (.getfield 15, 3) := by decide +kernel
theorem dX1_write_34 : decode cX1_write 34 = .ok (.aload_n 0, 1) := by decide +kernel
theorem dX1_write_35 : decode cX1_write 35 = .ok (.getfield 35, 3) := by decide +kernel
theorem dX1_write_38 : decode cX1_write 38 = .ok (.iload_n 2, 1) := by decide +kernel
theorem dX1_write_39 : decode cX1_write 39 = .ok (.iastore, 1) := by decide +kernel
theorem dX1_write_40 : decode cX1_write 40 = .ok (.aload_n 0, 1) := by decide +kernel
theorem dX1_write_41 : decode cX1_write 41 = .ok (.getfield 18, 3) := by decide +kernel
theorem dX1_write_44 : decode cX1_write 44 = .ok (.aload_n 0, 1) := by decide +kernel
theorem dX1_write_45 : decode cX1_write 45 = .ok (.getfield 35, 3) := by decide +kernel
theorem dX1_write_48 : decode cX1_write 48 = .ok (.iload_n 3, 1) := by decide +kernel
theorem dX1_write_49 : decode cX1_write 49 = .ok (.iastore, 1) := by decide +kernel
theorem dX1_write_50 : decode cX1_write 50 = .ok (.aload_n 0, 1) := by decide +kernel
theorem dX1_write_51 : decode cX1_write 51 = .ok (.getfield 21, 3) := by decide +kernel
theorem dX1_write_54 : decode cX1_write 54 = .ok (.aload_n 0, 1) := by decide +kernel
theorem dX1_write_55 : decode cX1_write 55 = .ok (.getfield 35, 3) := by decide +kernel
theorem dX1_write_58 : decode cX1_write 58 = .ok (.lload 4, 2) := by decide +kernel
theorem dX1_write_60 : decode cX1_write 60 = .ok (.lastore, 1) := by decide +kernel
theorem dX1_write_61 : decode cX1_write 61 = .ok (.aload_n 0, 1) := by decide +kernel
theorem dX1_write_62 : decode cX1_write 62 = .ok (.getfield 25, 3) := by decide +kernel
theorem dX1_write_65 : decode cX1_write 65 = .ok (.aload_n 0, 1) := by decide +kernel
theorem dX1_write_66 : decode cX1_write 66 = .ok (.getfield 35, 3) := by decide +kernel
theorem dX1_write_69 : decode cX1_write 69 = .ok (.lload 6, 2) := by decide +kernel
theorem dX1_write_71 : decode cX1_write 71 = .ok (.lastore, 1) := by decide +kernel
theorem dX1_write_72 : decode cX1_write 72 = .ok (.aload_n 0, 1) := by decide +kernel
theorem dX1_write_73 : decode cX1_write 73 = .ok (.getfield 31, 3) := by decide +kernel
theorem dX1_write_76 : decode cX1_write 76 = .ok (.aload_n 0, 1) := by decide +kernel
theorem dX1_write_77 : decode cX1_write 77 = .ok (.getfield 35, 3) := by decide +kernel
theorem dX1_write_80 : decode cX1_write 80 = .ok (.iload 8, 2) := by decide +kernel
theorem dX1_write_82 : decode cX1_write 82 = .ok (.bastore, 1) := by decide +kernel
theorem dX1_write_83 : decode cX1_write 83 = .ok (.aload_n 0, 1) := by decide +kernel
theorem dX1_write_84 : decode cX1_write 84 = .ok (.getfield 28, 3) := by decide +kernel
theorem dX1_write_87 : decode cX1_write 87 = .ok (.aload_n 0, 1) := by decide +kernel
theorem dX1_write_88 : decode cX1_write 88 = .ok (.getfield 35, 3) := by decide +kernel
theorem dX1_write_91 : decode cX1_write 91 = .ok (.iconst 0, 1) := by decide +kernel
theorem dX1_write_92 : decode cX1_write 92 = .ok (.iastore, 1) := by decide +kernel
theorem dX1_write_93 : decode cX1_write 93 = .ok (.aload_n 0, 1) := by decide +kernel
theorem dX1_write_94 : decode cX1_write 94 = .ok (.getfield 35, 3) := by decide +kernel
theorem dX1_write_97 : decode cX1_write 97 = .ok (.ireturn, 1) := by decide +kernel
set_option maxRecDepth 20000 in
theorem ggX1_tear_X1_has : GoodIn wsX1_tear wsX1_has := goodIn_r _ [6, 7, 8, 9, 10, 11, 12, 13, 14, 15, 16] (by decide +kernel) (by decide +kernel)
set_option maxRecDepth 20000 in
theorem gX1_tear_X1_has : GoodIn wsX1_tear (wsV RX1 46 RX1 yX1_has wsX1_has) := goodIn_app (goodIn_of _ (by decide +kernel)) ggX1_tear_X1_has
theorem dX1_tear_0 : decode cX1_tear 0 = .ok (.aload_n 0, 1) := by decide +kernel
theorem dX1_tear_1 : decode cX1_tear 1 = .ok (.iload_n 2, 1) := by decide +kernel
theorem dX1_tear_2 : decode cX1_tear 2 = .ok (.invokevirtual 46, 3) := by decide +kernel
theorem dX1_tear_5 : decode cX1_tear 5 = .ok (.ifCond .eq 16, 3) := by decide +kernel
theorem dX1_tear_8 : decode cX1_tear 8 = .ok (.aload_n 0, 1) := by decide +kernel
theorem dX1_tear_9 : decode cX1_tear 9 = .ok (.getfield 28, 3) := by decide +kernel
theorem dX1_tear_12 : decode cX1_tear 12 = .ok (.iload_n 2, 1) := by decide +kernel
theorem dX1_tear_13 : decode cX1_tear 13 = .ok (.iaload, 1) := by decide +kernel
theorem dX1_tear_14 : decode cX1_tear 14 = .ok (.iload_n 1, 1) := by decide +kernel
theorem dX1_tear_15 : decode cX1_tear 15 = .ok (.ishr, 1) := by decide +kernel
theorem dX1_tear_16 : decode cX1_tear 16 = .ok (.iconst 1, 1) := by decide +kernel
theorem dX1_tear_17 : decode cX1_tear 17 = .ok (.iand, 1) := by decide +kernel
theorem dX1_tear_18 : decode cX1_tear 18 = .ok (.ifCond .eq 5, 3) := by decide +kernel
theorem dX1_tear_21 : decode cX1_tear 21 = .ok (.iconst 0, 1) := by decide +kernel
theorem dX1_tear_22 : decode cX1_tear 22 = .ok (.ireturn, 1) := by decide +kernel
theorem dX1_tear_23 : decode cX1_tear 23 = .ok (.aload_n 0, 1) := by decide +kernel
theorem dX1_tear_24 : decode cX1_tear 24 = .ok (.getfield 28, 3) := by decide +kernel
theorem dX1_tear_27 : decode cX1_tear 27 = .ok (.iload_n 2, 1) := by decide +kernel
theorem dX1_tear_28 : decode cX1_tear 28 = .ok (.dup2, 1) := by decide +kernel
theorem dX1_tear_29 : decode cX1_tear 29 = .ok (.iaload, 1) := by decide +kernel
theorem dX1_tear_30 : decode cX1_tear 30 = .ok (.iconst 1, 1) := by decide +kernel
theorem dX1_tear_31 : decode cX1_tear 31 = .ok (.iload_n 1, 1) := by decide +kernel
theorem dX1_tear_32 : decode cX1_tear 32 = .ok (.ishl, 1) := by decide +kernel
theorem dX1_tear_33 : decode cX1_tear 33 = .ok (.ior, 1) := by decide +kernel
theorem dX1_tear_34 : decode cX1_tear 34 = .ok (.iastore, 1) := by decide +kernel
theorem dX1_tear_35 : decode cX1_tear 35 = .ok (.iconst 1, 1) := by decide +kernel
theorem dX1_tear_36 : decode cX1_tear 36 = .ok (.ireturn, 1) := by decide +kernel
theorem dX1_putAway_0 : decode cX1_putAway 0 = .ok (.aload_n 0, 1) := by decide +kernel
theorem dX1_putAway_1 : decode cX1_putAway 1 = .ok (.aload_n 0, 1) := by decide +kernel
theorem dX1_putAway_2 : decode cX1_putAway 2 = .ok (.getfield 39, 3) := by decide +kernel
theorem dX1_putAway_5 : decode cX1_putAway 5 = .ok (.iload_n 1, 1) := by decide +kernel
theorem dX1_putAway_6 : decode cX1_putAway 6 = .ok (.invokestatic 49, 3) := by decide +kernel
theorem dX1_putAway_9 : decode cX1_putAway 9 = .ok (.putfield 39, 3) := by decide +kernel
theorem dX1_putAway_12 : decode cX1_putAway 12 = .ok (.return_, 1) := by decide +kernel
theorem dX1_dropBehind_0 : decode cX1_dropBehind 0 = .ok (.aload_n 0, 1) := by decide +kernel
theorem dX1_dropBehind_1 : decode cX1_dropBehind 1 = .ok (.aload_n 0, 1) := by decide +kernel
theorem dX1_dropBehind_2 : decode cX1_dropBehind 2 = .ok (.getfield 35, 3) := by decide +kernel
theorem dX1_dropBehind_5 : decode cX1_dropBehind 5 = .ok (.iload_n 1, 1) := by decide +kernel
theorem dX1_dropBehind_6 : decode cX1_dropBehind 6 = .ok (.invokestatic 55, 3) := by decide +kernel
theorem dX1_dropBehind_9 : decode cX1_dropBehind 9 = .ok (.putfield 35, 3) := by decide +kernel
theorem dX1_dropBehind_12 : decode cX1_dropBehind 12 = .ok (.aload_n 0, 1) := by decide +kernel
theorem dX1_dropBehind_13 : decode cX1_dropBehind 13 = .ok (.aload_n 0, 1) := by decide +kernel
theorem dX1_dropBehind_14 : decode cX1_dropBehind 14 = .ok (.getfield 39, 3) := by decide +kernel
theorem dX1_dropBehind_17 : decode cX1_dropBehind 17 = .ok (.iload_n 1, 1) := by decide +kernel
theorem dX1_dropBehind_18 : decode cX1_dropBehind 18 = .ok (.invokestatic 55, 3) := by decide +kernel
theorem dX1_dropBehind_21 : decode cX1_dropBehind 21 = .ok (.putfield 39, 3) := by decide +kernel
theorem dX1_dropBehind_24 : decode cX1_dropBehind 24 = .ok (.return_, 1) := by decide +kernel
set_option maxRecDepth 20000 in
theorem ggX1_isMissing_X1_has : GoodIn wsX1_isMissing wsX1_has := goodIn_r _ [6, 7, 8, 9, 10, 11, 12, 13, 14, 15, 16] (by decide +kernel) (by decide +kernel)
set_option maxRecDepth 20000 in
theorem gX1_isMissing_X1_has : GoodIn wsX1_isMissing (wsV RX1 46 RX1 yX1_has wsX1_has) := goodIn_app (goodIn_of _ (by decide +kernel)) ggX1_isMissing_X1_has
theorem dX1_isMissing_0 : decode cX1_isMissing 0 = .ok (.aload_n 0, 1) := by decide +kernel
theorem dX1_isMissing_1 : decode cX1_isMissing 1 = .ok (.iload_n 1, 1) := by decide +kernel
theorem dX1_isMissing_2 : decode cX1_isMissing 2 = .ok (.invokevirtual 46, 3) := by decide +kernel
theorem dX1_isMissing_5 : decode cX1_isMissing 5 = .ok (.ifCond .eq 17, 3) := by decide +kernel
theorem dX1_isMissing_8 : decode cX1_isMissing 8 = .ok (.aload_n 0, 1) := by decide +kernel
theorem dX1_isMissing_9 : decode cX1_isMissing 9 = .ok (.getfield 28, 3) := by decide +kernel
theorem dX1_isMissing_12 : decode cX1_isMissing 12 = .ok (.iload_n 1, 1) := by decide +kernel
theorem dX1_isMissing_13 : decode cX1_isMissing 13 = .ok (.iaload, 1) := by decide +kernel
theorem dX1_isMissing_14 : decode cX1_isMissing 14 = .ok (.iconst 3, 1) := by decide +kernel
theorem dX1_isMissing_15 : decode cX1_isMissing 15 = .ok (.if_icmp .ne 7, 3) := by decide +kernel
theorem dX1_isMissing_18 : decode cX1_isMissing 18 = .ok (.iconst 1, 1) := by decide +kernel
theorem dX1_isMissing_19 : decode cX1_isMissing 19 = .ok (.goto 4, 3) := by decide +kernel
theorem dX1_isMissing_22 : decode cX1_isMissing 22 = .ok (.iconst 0, 1) := by decide +kernel
theorem dX1_isMissing_23 : decode cX1_isMissing 23 = .ok (.ireturn, 1) := by decide +kernel
set_option maxRecDepth 20000 in
theorem ggX1_isChange_X1_has : GoodIn wsX1_isChange wsX1_has := goodIn_r _ [6, 7, 8, 9, 10, 11, 12, 13, 14, 15, 16] (by decide +kernel) (by decide +kernel)
set_option maxRecDepth 20000 in
theorem gX1_isChange_X1_has : GoodIn wsX1_isChange (wsV RX1 46 RX1 yX1_has wsX1_has) := goodIn_app (goodIn_of _ (by decide +kernel)) ggX1_isChange_X1_has
theorem dX1_isChange_0 : decode cX1_isChange 0 = .ok (.aload_n 0, 1) := by decide +kernel
theorem dX1_isChange_1 : decode cX1_isChange 1 = .ok (.iload_n 1, 1) := by decide +kernel
theorem dX1_isChange_2 : decode cX1_isChange 2 = .ok (.invokevirtual 46, 3) := by decide +kernel
theorem dX1_isChange_5 : decode cX1_isChange 5 = .ok (.ifCond .eq 16, 3) := by decide +kernel
theorem dX1_isChange_8 : decode cX1_isChange 8 = .ok (.aload_n 0, 1) := by decide +kernel
theorem dX1_isChange_9 : decode cX1_isChange 9 = .ok (.getfield 9, 3) := by decide +kernel
theorem dX1_isChange_12 : decode cX1_isChange 12 = .ok (.iload_n 1, 1) := by decide +kernel
theorem dX1_isChange_13 : decode cX1_isChange 13 = .ok (.iaload, 1) := by decide +kernel
theorem dX1_isChange_14 : decode cX1_isChange 14 = .ok (.ifCond .ne 7, 3) := by decide +kernel
theorem dX1_isChange_17 : decode cX1_isChange 17 = .ok (.iconst 1, 1) := by decide +kernel
theorem dX1_isChange_18 : decode cX1_isChange 18 = .ok (.goto 4, 3) := by decide +kernel
theorem dX1_isChange_21 : decode cX1_isChange 21 = .ok (.iconst 0, 1) := by decide +kernel
theorem dX1_isChange_22 : decode cX1_isChange 22 = .ok (.ireturn, 1) := by decide +kernel
set_option maxRecDepth 20000 in
theorem ggX1_isBackable_X1_isChange : GoodIn wsX1_isBackable wsX1_isChange := goodIn_ca (goodIn_r _ [6, 7, 8, 9, 10, 5, 11, 12, 13, 14, 15, 16, 17, 18, 19, 20, 21] (by decide +kernel) (by decide +kernel)) (goodIn_sub (fun _ h => List.mem_cons_of_mem _ (List.mem_append_right _ h)) (by decide +kernel))
set_option maxRecDepth 20000 in
theorem gX1_isBackable_X1_isChange : GoodIn wsX1_isBackable (wsV RX1 58 RX1 yX1_isChange wsX1_isChange) := goodIn_app (goodIn_of _ (by decide +kernel)) ggX1_isBackable_X1_isChange
theorem dX1_isBackable_0 : decode cX1_isBackable 0 = .ok (.aload_n 0, 1) := by decide +kernel
theorem dX1_isBackable_1 : decode cX1_isBackable 1 = .ok (.iload_n 1, 1) := by decide +kernel
theorem dX1_isBackable_2 : decode cX1_isBackable 2 = .ok (.invokevirtual 58, 3) := by decide +kernel
theorem dX1_isBackable_5 : decode cX1_isBackable 5 = .ok (.ifCond .eq 16, 3) := by decide +kernel
theorem dX1_isBackable_8 : decode cX1_isBackable 8 = .ok (.aload_n 0, 1) := by decide +kernel
theorem dX1_isBackable_9 : decode cX1_isBackable 9 = .ok (.getfield 31, 3) := by decide +kernel
theorem dX1_isBackable_12 : decode cX1_isBackable 12 = .ok (.iload_n 1, 1) := by decide +kernel
theorem dX1_isBackable_13 : decode cX1_isBackable 13 = .ok (.baload, 1) := by decide +kernel
theorem dX1_isBackable_14 : decode cX1_isBackable 14 = .ok (.ifCond .ne 7, 3) := by decide +kernel
theorem dX1_isBackable_17 : decode cX1_isBackable 17 = .ok (.iconst 1, 1) := by decide +kernel
theorem dX1_isBackable_18 : decode cX1_isBackable 18 = .ok (.goto 4, 3) := by decide +kernel
theorem dX1_isBackable_21 : decode cX1_isBackable 21 = .ok (.iconst 0, 1) := by decide +kernel
theorem dX1_isBackable_22 : decode cX1_isBackable 22 = .ok (.ireturn, 1) := by decide +kernel
set_option maxRecDepth 20000 in
theorem ggX1_kindOf_X1_has : GoodIn wsX1_kindOf wsX1_has := goodIn_r _ [6, 7, 8, 9, 10, 11, 12, 13, 14, 15, 16] (by decide +kernel) (by decide +kernel)
set_option maxRecDepth 20000 in
theorem gX1_kindOf_X1_has : GoodIn wsX1_kindOf (wsV RX1 46 RX1 yX1_has wsX1_has) := goodIn_app (goodIn_of _ (by decide +kernel)) ggX1_kindOf_X1_has
theorem dX1_kindOf_0 : decode cX1_kindOf 0 = .ok (.aload_n 0, 1) := by decide +kernel
theorem dX1_kindOf_1 : decode cX1_kindOf 1 = .ok (.iload_n 1, 1) := by decide +kernel
theorem dX1_kindOf_2 : decode cX1_kindOf 2 = .ok (.invokevirtual 46, 3) := by decide +kernel
theorem dX1_kindOf_5 : decode cX1_kindOf 5 = .ok (.ifCond .eq 12, 3) := by decide +kernel
theorem dX1_kindOf_8 : decode cX1_kindOf 8 = .ok (.aload_n 0, 1) := by decide +kernel
theorem dX1_kindOf_9 : decode cX1_kindOf 9 = .ok (.getfield 9, 3) := by decide +kernel
theorem dX1_kindOf_12 : decode cX1_kindOf 12 = .ok (.iload_n 1, 1) := by decide +kernel
theorem dX1_kindOf_13 : decode cX1_kindOf 13 = .ok (.iaload, 1) := by decide +kernel
theorem dX1_kindOf_14 : decode cX1_kindOf 14 = .ok (.goto 4, 3) := by decide +kernel
theorem dX1_kindOf_17 : decode cX1_kindOf 17 = .ok (.iconst (-1), 1) := by decide +kernel
theorem dX1_kindOf_18 : decode cX1_kindOf 18 = .ok (.ireturn, 1) := by decide +kernel
set_option maxRecDepth 20000 in
theorem ggX1_unitOf_X1_has : GoodIn wsX1_unitOf wsX1_has := goodIn_r _ [6, 7, 8, 9, 10, 11, 12, 13, 14, 15, 16] (by decide +kernel) (by decide +kernel)
set_option maxRecDepth 20000 in
theorem gX1_unitOf_X1_has : GoodIn wsX1_unitOf (wsV RX1 46 RX1 yX1_has wsX1_has) := goodIn_app (goodIn_of _ (by decide +kernel)) ggX1_unitOf_X1_has
theorem dX1_unitOf_0 : decode cX1_unitOf 0 = .ok (.aload_n 0, 1) := by decide +kernel
theorem dX1_unitOf_1 : decode cX1_unitOf 1 = .ok (.iload_n 1, 1) := by decide +kernel
theorem dX1_unitOf_2 : decode cX1_unitOf 2 = .ok (.invokevirtual 46, 3) := by decide +kernel
theorem dX1_unitOf_5 : decode cX1_unitOf 5 = .ok (.ifCond .eq 12, 3) := by decide +kernel
theorem dX1_unitOf_8 : decode cX1_unitOf 8 = .ok (.aload_n 0, 1) := by decide +kernel
theorem dX1_unitOf_9 : decode cX1_unitOf 9 = .ok (.getfield 15, 3) := by decide +kernel
theorem dX1_unitOf_12 : decode cX1_unitOf 12 = .ok (.iload_n 1, 1) := by decide +kernel
theorem dX1_unitOf_13 : decode cX1_unitOf 13 = .ok (.iaload, 1) := by decide +kernel
theorem dX1_unitOf_14 : decode cX1_unitOf 14 = .ok (.goto 4, 3) := by decide +kernel
theorem dX1_unitOf_17 : decode cX1_unitOf 17 = .ok (.iconst 0, 1) := by decide +kernel
theorem dX1_unitOf_18 : decode cX1_unitOf 18 = .ok (.ireturn, 1) := by decide +kernel
set_option maxRecDepth 20000 in
theorem ggX1_cellOf_X1_has : GoodIn wsX1_cellOf wsX1_has := goodIn_r _ [6, 7, 8, 9, 10, 11, 12, 13, 14, 15, 16] (by decide +kernel) (by decide +kernel)
set_option maxRecDepth 20000 in
theorem gX1_cellOf_X1_has : GoodIn wsX1_cellOf (wsV RX1 46 RX1 yX1_has wsX1_has) := goodIn_app (goodIn_of _ (by decide +kernel)) ggX1_cellOf_X1_has
theorem dX1_cellOf_0 : decode cX1_cellOf 0 = .ok (.aload_n 0, 1) := by decide +kernel
theorem dX1_cellOf_1 : decode cX1_cellOf 1 = .ok (.iload_n 1, 1) := by decide +kernel
theorem dX1_cellOf_2 : decode cX1_cellOf 2 = .ok (.invokevirtual 46, 3) := by decide +kernel
theorem dX1_cellOf_5 : decode cX1_cellOf 5 = .ok (.ifCond .eq 12, 3) := by decide +kernel
theorem dX1_cellOf_8 : decode cX1_cellOf 8 = .ok (.aload_n 0, 1) := by decide +kernel
theorem dX1_cellOf_9 : decode cX1_cellOf 9 = .ok (.getfield 18, 3) := by decide +kernel
theorem dX1_cellOf_12 : decode cX1_cellOf 12 = .ok (.iload_n 1, 1) := by decide +kernel
theorem dX1_cellOf_13 : decode cX1_cellOf 13 = .ok (.iaload, 1) := by decide +kernel
theorem dX1_cellOf_14 : decode cX1_cellOf 14 = .ok (.goto 4, 3) := by decide +kernel
theorem dX1_cellOf_17 : decode cX1_cellOf 17 = .ok (.iconst (-1), 1) := by decide +kernel
theorem dX1_cellOf_18 : decode cX1_cellOf 18 = .ok (.ireturn, 1) := by decide +kernel
set_option maxRecDepth 20000 in
theorem ggX1_beforeOf_X1_has : GoodIn wsX1_beforeOf wsX1_has := goodIn_r _ [6, 7, 8, 9, 10, 11, 12, 13, 14, 15, 16] (by decide +kernel) (by decide +kernel)
set_option maxRecDepth 20000 in
theorem gX1_beforeOf_X1_has : GoodIn wsX1_beforeOf (wsV RX1 46 RX1 yX1_has wsX1_has) := goodIn_app (goodIn_of _ (by decide +kernel)) ggX1_beforeOf_X1_has
theorem dX1_beforeOf_0 : decode cX1_beforeOf 0 = .ok (.aload_n 0, 1) := by decide +kernel
theorem dX1_beforeOf_1 : decode cX1_beforeOf 1 = .ok (.iload_n 1, 1) := by decide +kernel
theorem dX1_beforeOf_2 : decode cX1_beforeOf 2 = .ok (.invokevirtual 46, 3) := by decide +kernel
theorem dX1_beforeOf_5 : decode cX1_beforeOf 5 = .ok (.ifCond .eq 12, 3) := by decide +kernel
theorem dX1_beforeOf_8 : decode cX1_beforeOf 8 = .ok (.aload_n 0, 1) := by decide +kernel
theorem dX1_beforeOf_9 : decode cX1_beforeOf 9 = .ok (.getfield 21, 3) := by decide +kernel
theorem dX1_beforeOf_12 : decode cX1_beforeOf 12 = .ok (.iload_n 1, 1) := by decide +kernel
theorem dX1_beforeOf_13 : decode cX1_beforeOf 13 = .ok (.laload, 1) := by decide +kernel
theorem dX1_beforeOf_14 : decode cX1_beforeOf 14 = .ok (.goto 4, 3) := by decide +kernel
theorem dX1_beforeOf_17 : decode cX1_beforeOf 17 = .ok (.lconst 0, 1) := by decide +kernel
theorem dX1_beforeOf_18 : decode cX1_beforeOf 18 = .ok (.lreturn, 1) := by decide +kernel
set_option maxRecDepth 20000 in
theorem ggX1_afterOf_X1_has : GoodIn wsX1_afterOf wsX1_has := goodIn_r _ [6, 7, 8, 9, 10, 11, 12, 13, 14, 15, 16] (by decide +kernel) (by decide +kernel)
set_option maxRecDepth 20000 in
theorem gX1_afterOf_X1_has : GoodIn wsX1_afterOf (wsV RX1 46 RX1 yX1_has wsX1_has) := goodIn_app (goodIn_of _ (by decide +kernel)) ggX1_afterOf_X1_has
theorem dX1_afterOf_0 : decode cX1_afterOf 0 = .ok (.aload_n 0, 1) := by decide +kernel
theorem dX1_afterOf_1 : decode cX1_afterOf 1 = .ok (.iload_n 1, 1) := by decide +kernel
theorem dX1_afterOf_2 : decode cX1_afterOf 2 = .ok (.invokevirtual 46, 3) := by decide +kernel
theorem dX1_afterOf_5 : decode cX1_afterOf 5 = .ok (.ifCond .eq 12, 3) := by decide +kernel
theorem dX1_afterOf_8 : decode cX1_afterOf 8 = .ok (.aload_n 0, 1) := by decide +kernel
theorem dX1_afterOf_9 : decode cX1_afterOf 9 = .ok (.getfield 25, 3) := by decide +kernel
theorem dX1_afterOf_12 : decode cX1_afterOf 12 = .ok (.iload_n 1, 1) := by decide +kernel
theorem dX1_afterOf_13 : decode cX1_afterOf 13 = .ok (.laload, 1) := by decide +kernel
theorem dX1_afterOf_14 : decode cX1_afterOf 14 = .ok (.goto 4, 3) := by decide +kernel
theorem dX1_afterOf_17 : decode cX1_afterOf 17 = .ok (.lconst 0, 1) := by decide +kernel
theorem dX1_afterOf_18 : decode cX1_afterOf 18 = .ok (.lreturn, 1) := by decide +kernel
set_option maxRecDepth 20000 in
theorem ggX1_tell_X1_has : GoodIn wsX1_tell wsX1_has := goodIn_r _ [12, 13, 14, 15, 16, 17, 18, 19, 20, 21, 22] (by decide +kernel) (by decide +kernel)
set_option maxRecDepth 20000 in
theorem gX1_tell_X1_has : GoodIn wsX1_tell (wsV RX1 46 RX1 yX1_has wsX1_has) := goodIn_app (goodIn_of _ (by decide +kernel)) ggX1_tell_X1_has
theorem dX1_tell_0 : decode cX1_tell 0 = .ok (.aload_n 0, 1) := by decide +kernel
theorem dX1_tell_1 : decode cX1_tell 1 = .ok (.iload_n 1, 1) := by decide +kernel
theorem dX1_tell_2 : decode cX1_tell 2 = .ok (.invokevirtual 46, 3) := by decide +kernel
theorem dX1_tell_5 : decode cX1_tell 5 = .ok (.ifCond .ne 5, 3) := by decide +kernel
theorem dX1_tell_8 : decode cX1_tell 8 = .ok (.iconst (-1), 1) := by decide +kernel
theorem dX1_tell_9 : decode cX1_tell 9 = .ok (.ireturn, 1) := by decide +kernel
theorem dX1_tell_10 : decode cX1_tell 10 = .ok (.iload_n 2, 1) := by decide +kernel
theorem dX1_tell_11 : decode cX1_tell 11 = .ok (.tableswitch 81 0 5 #[37, 44, 51, 58, 66, 74], 37) := by decide +kernel
theorem dX1_tell_48 : decode cX1_tell 48 = .ok (.aload_n 0, 1) := by decide +kernel
theorem dX1_tell_49 : decode cX1_tell 49 = .ok (.getfield 9, 3) := by decide +kernel
theorem dX1_tell_52 : decode cX1_tell 52 = .ok (.iload_n 1, 1) := by decide +kernel
theorem dX1_tell_53 : decode cX1_tell 53 = .ok (.iaload, 1) := by decide +kernel
theorem dX1_tell_54 : decode cX1_tell 54 = .ok (.ireturn, 1) := by decide +kernel
theorem dX1_tell_55 : decode cX1_tell 55 = .ok (.aload_n 0, 1) := by decide +kernel
theorem dX1_tell_56 : decode cX1_tell 56 = .ok (.getfield 15, 3) := by decide +kernel
theorem dX1_tell_59 : decode cX1_tell 59 = .ok (.iload_n 1, 1) := by decide +kernel
theorem dX1_tell_60 : decode cX1_tell 60 = .ok (.iaload, 1) := by decide +kernel
theorem dX1_tell_61 : decode cX1_tell 61 = .ok (.ireturn, 1) := by decide +kernel
theorem dX1_tell_62 : decode cX1_tell 62 = .ok (.aload_n 0, 1) := by decide +kernel
theorem dX1_tell_63 : decode cX1_tell 63 = .ok (.getfield 18, 3) := by decide +kernel
theorem dX1_tell_66 : decode cX1_tell 66 = .ok (.iload_n 1, 1) := by decide +kernel
theorem dX1_tell_67 : decode cX1_tell 67 = .ok (.iaload, 1) := by decide +kernel
theorem dX1_tell_68 : decode cX1_tell 68 = .ok (.ireturn, 1) := by decide +kernel
theorem dX1_tell_69 : decode cX1_tell 69 = .ok (.aload_n 0, 1) := by decide +kernel
theorem dX1_tell_70 : decode cX1_tell 70 = .ok (.getfield 21, 3) := by decide +kernel
theorem dX1_tell_73 : decode cX1_tell 73 = .ok (.iload_n 1, 1) := by decide +kernel
theorem dX1_tell_74 : decode cX1_tell 74 = .ok (.laload, 1) := by decide +kernel
theorem dX1_tell_75 : decode cX1_tell 75 = .ok (.l2i, 1) := by decide +kernel
theorem dX1_tell_76 : decode cX1_tell 76 = .ok (.ireturn, 1) := by decide +kernel
theorem dX1_tell_77 : decode cX1_tell 77 = .ok (.aload_n 0, 1) := by decide +kernel
theorem dX1_tell_78 : decode cX1_tell 78 = .ok (.getfield 25, 3) := by decide +kernel
theorem dX1_tell_81 : decode cX1_tell 81 = .ok (.iload_n 1, 1) := by decide +kernel
theorem dX1_tell_82 : decode cX1_tell 82 = .ok (.laload, 1) := by decide +kernel
theorem dX1_tell_83 : decode cX1_tell 83 = .ok (.l2i, 1) := by decide +kernel
theorem dX1_tell_84 : decode cX1_tell 84 = .ok (.ireturn, 1) := by decide +kernel
theorem dX1_tell_85 : decode cX1_tell 85 = .ok (.aload_n 0, 1) := by decide +kernel
theorem dX1_tell_86 : decode cX1_tell 86 = .ok (.getfield 28, 3) := by decide +kernel
theorem dX1_tell_89 : decode cX1_tell 89 = .ok (.iload_n 1, 1) := by decide +kernel
theorem dX1_tell_90 : decode cX1_tell 90 = .ok (.iaload, 1) := by decide +kernel
theorem dX1_tell_91 : decode cX1_tell 91 = .ok (.ireturn, 1) := by decide +kernel
theorem dX1_tell_92 : decode cX1_tell 92 = .ok (.aload_n 0, 1) := by decide +kernel
theorem dX1_tell_93 : decode cX1_tell 93 = .ok (.getfield 31, 3) := by decide +kernel
theorem dX1_tell_96 : decode cX1_tell 96 = .ok (.iload_n 1, 1) := by decide +kernel
theorem dX1_tell_97 : decode cX1_tell 97 = .ok (.baload, 1) := by decide +kernel
theorem dX1_tell_98 : decode cX1_tell 98 = .ok (.ifCond .eq 7, 3) := by decide +kernel
theorem dX1_tell_101 : decode cX1_tell 101 = .ok (.iconst 1, 1) := by decide +kernel
theorem dX1_tell_102 : decode cX1_tell 102 = .ok (.goto 4, 3) := by decide +kernel
theorem dX1_tell_105 : decode cX1_tell 105 = .ok (.iconst 0, 1) := by decide +kernel
theorem dX1_tell_106 : decode cX1_tell 106 = .ok (.ireturn, 1) := by decide +kernel
set_option maxRecDepth 20000 in
theorem ggX2_init_J7_fill_53178 : GoodIn wsX2_init wsJ7_fill_53178 := goodIn_r _ [10] (by decide +kernel) (by decide +kernel)
set_option maxRecDepth 20000 in
theorem gX2_init_J7_fill_53178 : GoodIn wsX2_init (va_wsS RX2 18 yJ7_fill_53178 wsJ7_fill_53178) := goodIn_app (goodIn_of _ (by decide +kernel)) ggX2_init_J7_fill_53178
theorem dX2_init_0 : decode cX2_init 0 = .ok (.aload_n 0, 1) := by decide +kernel
theorem dX2_init_1 : decode cX2_init 1 = .ok (.invokespecial 3, 3) := by decide +kernel
theorem dX2_init_4 : decode cX2_init 4 = .ok (.aload_n 0, 1) := by decide +kernel
theorem dX2_init_5 : decode cX2_init 5 = .ok (.bipush 61, 2) := by decide +kernel
theorem dX2_init_7 : decode cX2_init 7 = .ok (.newarray .int, 2) := by decide +kernel
theorem dX2_init_9 : decode cX2_init 9 = .ok (.putfield 9, 3) := by decide +kernel
theorem dX2_init_12 : decode cX2_init 12 = .ok (.aload_n 0, 1) := by decide +kernel
theorem dX2_init_13 : decode cX2_init 13 = .ok (.bipush 32, 2) := by decide +kernel
theorem dX2_init_15 : decode cX2_init 15 = .ok (.newarray .int, 2) := by decide +kernel
theorem dX2_init_17 : decode cX2_init 17 = .ok (.putfield 15, 3) := by decide +kernel
theorem dX2_init_20 : decode cX2_init 20 = .ok (.aload_n 0, 1) := by decide +kernel
theorem dX2_init_21 : decode cX2_init 21 = .ok (.getfield 9, 3) := by decide +kernel
theorem dX2_init_24 : decode cX2_init 24 = .ok (.iconst (-1), 1) := by decide +kernel
theorem dX2_init_25 : decode cX2_init 25 = .ok (.invokestatic 18, 3) := by decide +kernel
theorem dX2_init_28 : decode cX2_init 28 = .ok (.return_, 1) := by decide +kernel
set_option maxRecDepth 20000 in
theorem ggX2_isOpen_X3_isUnit : GoodIn wsX2_isOpen wsX3_isUnit := goodIn_r _ [4] (by decide +kernel) (by decide +kernel)
set_option maxRecDepth 20000 in
theorem gX2_isOpen_X3_isUnit_n24 : GoodIn wsX2_isOpen (wsX3_isUnit) := ggX2_isOpen_X3_isUnit
theorem dX2_isOpen_0 : decode cX2_isOpen 0 = .ok (.iload_n 1, 1) := by decide +kernel
theorem dX2_isOpen_1 : decode cX2_isOpen 1 = .ok (.invokestatic 24, 3) := by decide +kernel
theorem dX2_isOpen_4 : decode cX2_isOpen 4 = .ok (.ifCond .eq 16, 3) := by decide +kernel
theorem dX2_isOpen_7 : decode cX2_isOpen 7 = .ok (.aload_n 0, 1) := by decide +kernel
theorem dX2_isOpen_8 : decode cX2_isOpen 8 = .ok (.getfield 9, 3) := by decide +kernel
theorem dX2_isOpen_11 : decode cX2_isOpen 11 = .ok (.iload_n 1, 1) := by decide +kernel
theorem dX2_isOpen_12 : decode cX2_isOpen 12 = .ok (.iaload, 1) := by decide +kernel
theorem dX2_isOpen_13 : decode cX2_isOpen 13 = .ok (.ifCond .ne 7, 3) := by decide +kernel
theorem dX2_isOpen_16 : decode cX2_isOpen 16 = .ok (.iconst 1, 1) := by decide +kernel
theorem dX2_isOpen_17 : decode cX2_isOpen 17 = .ok (.goto 4, 3) := by decide +kernel
theorem dX2_isOpen_20 : decode cX2_isOpen 20 = .ok (.iconst 0, 1) := by decide +kernel
theorem dX2_isOpen_21 : decode cX2_isOpen 21 = .ok (.ireturn, 1) := by decide +kernel
set_option maxRecDepth 20000 in
theorem ggX2_isOver_X3_isUnit : GoodIn wsX2_isOver wsX3_isUnit := goodIn_r _ [4] (by decide +kernel) (by decide +kernel)
set_option maxRecDepth 20000 in
theorem gX2_isOver_X3_isUnit_n24 : GoodIn wsX2_isOver (wsX3_isUnit) := ggX2_isOver_X3_isUnit
theorem dX2_isOver_0 : decode cX2_isOver 0 = .ok (.iload_n 1, 1) := by decide +kernel
theorem dX2_isOver_1 : decode cX2_isOver 1 = .ok (.invokestatic 24, 3) := by decide +kernel
theorem dX2_isOver_4 : decode cX2_isOver 4 = .ok (.ifCond .eq 16, 3) := by decide +kernel
theorem dX2_isOver_7 : decode cX2_isOver 7 = .ok (.aload_n 0, 1) := by decide +kernel
theorem dX2_isOver_8 : decode cX2_isOver 8 = .ok (.getfield 9, 3) := by decide +kernel
theorem dX2_isOver_11 : decode cX2_isOver 11 = .ok (.iload_n 1, 1) := by decide +kernel
theorem dX2_isOver_12 : decode cX2_isOver 12 = .ok (.iaload, 1) := by decide +kernel
theorem dX2_isOver_13 : decode cX2_isOver 13 = .ok (.ifCond .le 7, 3) := by decide +kernel
theorem dX2_isOver_16 : decode cX2_isOver 16 = .ok (.iconst 1, 1) := by decide +kernel
theorem dX2_isOver_17 : decode cX2_isOver 17 = .ok (.goto 4, 3) := by decide +kernel
theorem dX2_isOver_20 : decode cX2_isOver 20 = .ok (.iconst 0, 1) := by decide +kernel
theorem dX2_isOver_21 : decode cX2_isOver 21 = .ok (.ireturn, 1) := by decide +kernel
set_option maxRecDepth 20000 in
theorem ggX2_isChangedByAnother_X3_isCell : GoodIn wsX2_isChangedByAnother wsX3_isCell := goodIn_r _ [4] (by decide +kernel) (by decide +kernel)
set_option maxRecDepth 20000 in
theorem gX2_isChangedByAnother_X3_isCell_n28 : GoodIn wsX2_isChangedByAnother (wsX3_isCell) := ggX2_isChangedByAnother_X3_isCell
set_option maxRecDepth 20000 in
theorem ggX2_isChangedByAnother_X2_isOpen : GoodIn wsX2_isChangedByAnother wsX2_isOpen := goodIn_ca (goodIn_r _ [9, 10, 11, 3, 12, 13, 14] (by decide +kernel) (by decide +kernel)) (goodIn_sub (fun _ h => List.mem_cons_of_mem _ (List.mem_append_right _ h)) (by decide +kernel))
set_option maxRecDepth 20000 in
theorem gX2_isChangedByAnother_X2_isOpen : GoodIn wsX2_isChangedByAnother (wsV RX2 31 RX2 yX2_isOpen wsX2_isOpen) := goodIn_app (goodIn_of _ (by decide +kernel)) ggX2_isChangedByAnother_X2_isOpen
theorem dX2_isChangedByAnother_0 : decode cX2_isChangedByAnother 0 = .ok (.iload_n 1, 1) := by decide +kernel
theorem dX2_isChangedByAnother_1 : decode cX2_isChangedByAnother 1 = .ok (.invokestatic 28, 3) := by decide +kernel
theorem dX2_isChangedByAnother_4 : decode cX2_isChangedByAnother 4 = .ok (.ifCond .eq 30, 3) := by decide +kernel
theorem dX2_isChangedByAnother_7 : decode cX2_isChangedByAnother 7 = .ok (.aload_n 0, 1) := by decide +kernel
theorem dX2_isChangedByAnother_8 : decode cX2_isChangedByAnother 8 = .ok (.getfield 15, 3) := by decide +kernel
theorem dX2_isChangedByAnother_11 : decode cX2_isChangedByAnother 11 = .ok (.iload_n 1, 1) := by decide +kernel
theorem dX2_isChangedByAnother_12 : decode cX2_isChangedByAnother 12 = .ok (.iaload, 1) := by decide +kernel
theorem dX2_isChangedByAnother_13 : decode cX2_isChangedByAnother 13 = .ok (.iload_n 2, 1) := by decide +kernel
theorem dX2_isChangedByAnother_14 : decode cX2_isChangedByAnother 14 = .ok (.if_icmp .eq 20, 3) := by decide +kernel
theorem dX2_isChangedByAnother_17 : decode cX2_isChangedByAnother 17 = .ok (.aload_n 0, 1) := by decide +kernel
theorem dX2_isChangedByAnother_18 : decode cX2_isChangedByAnother 18 = .ok (.aload_n 0, 1) := by decide +kernel
theorem dX2_isChangedByAnother_19 : decode cX2_isChangedByAnother 19 = .ok (.getfield 15, 3) := by decide +kernel
theorem dX2_isChangedByAnother_22 : decode cX2_isChangedByAnother 22 = .ok (.iload_n 1, 1) := by decide +kernel
theorem dX2_isChangedByAnother_23 : decode cX2_isChangedByAnother 23 = .ok (.iaload, 1) := by decide +kernel
theorem dX2_isChangedByAnother_24 : decode cX2_isChangedByAnother 24 = .ok (.invokevirtual 31, 3) := by decide +kernel
theorem dX2_isChangedByAnother_27 : decode cX2_isChangedByAnother 27 = .ok (.ifCond .eq 7, 3) := by decide +kernel
theorem dX2_isChangedByAnother_30 : decode cX2_isChangedByAnother 30 = .ok (.iconst 1, 1) := by decide +kernel
theorem dX2_isChangedByAnother_31 : decode cX2_isChangedByAnother 31 = .ok (.goto 4, 3) := by decide +kernel
theorem dX2_isChangedByAnother_34 : decode cX2_isChangedByAnother 34 = .ok (.iconst 0, 1) := by decide +kernel
theorem dX2_isChangedByAnother_35 : decode cX2_isChangedByAnother 35 = .ok (.ireturn, 1) := by decide +kernel
set_option maxRecDepth 20000 in
theorem ggX2_follow_X3_isUnit : GoodIn wsX2_follow wsX3_isUnit := goodIn_r _ [5] (by decide +kernel) (by decide +kernel)
set_option maxRecDepth 20000 in
theorem gX2_follow_X3_isUnit_n24 : GoodIn wsX2_follow (wsX3_isUnit) := ggX2_follow_X3_isUnit
set_option maxRecDepth 20000 in
theorem ggX2_follow_X3_isCell : GoodIn wsX2_follow wsX3_isCell := goodIn_r _ [7] (by decide +kernel) (by decide +kernel)
set_option maxRecDepth 20000 in
theorem gX2_follow_X3_isCell_n28 : GoodIn wsX2_follow (wsX3_isCell) := ggX2_follow_X3_isCell
theorem dX2_follow_0 : decode cX2_follow 0 = .ok (.iload_n 2, 1) := by decide +kernel
theorem dX2_follow_1 : decode cX2_follow 1 = .ok (.invokestatic 24, 3) := by decide +kernel
theorem dX2_follow_4 : decode cX2_follow 4 = .ok (.ifCond .eq 10, 3) := by decide +kernel
theorem dX2_follow_7 : decode cX2_follow 7 = .ok (.aload_n 0, 1) := by decide +kernel
theorem dX2_follow_8 : decode cX2_follow 8 = .ok (.getfield 9, 3) := by decide +kernel
theorem dX2_follow_11 : decode cX2_follow 11 = .ok (.iload_n 2, 1) := by decide +kernel
theorem dX2_follow_12 : decode cX2_follow 12 = .ok (.iload_n 1, 1) := by decide +kernel
theorem dX2_follow_13 : decode cX2_follow 13 = .ok (.iastore, 1) := by decide +kernel
theorem dX2_follow_14 : decode cX2_follow 14 = .ok (.iload_n 3, 1) := by decide +kernel
theorem dX2_follow_15 : decode cX2_follow 15 = .ok (.invokestatic 28, 3) := by decide +kernel
theorem dX2_follow_18 : decode cX2_follow 18 = .ok (.ifCond .eq 10, 3) := by decide +kernel
theorem dX2_follow_21 : decode cX2_follow 21 = .ok (.aload_n 0, 1) := by decide +kernel
theorem dX2_follow_22 : decode cX2_follow 22 = .ok (.getfield 15, 3) := by decide +kernel
theorem dX2_follow_25 : decode cX2_follow 25 = .ok (.iload_n 3, 1) := by decide +kernel
theorem dX2_follow_26 : decode cX2_follow 26 = .ok (.iload_n 2, 1) := by decide +kernel
theorem dX2_follow_27 : decode cX2_follow 27 = .ok (.iastore, 1) := by decide +kernel
theorem dX2_follow_28 : decode cX2_follow 28 = .ok (.return_, 1) := by decide +kernel
set_option maxRecDepth 20000 in
theorem ggX2_followAll_J7_fill_53178 : GoodIn wsX2_followAll wsJ7_fill_53178 := goodIn_r _ [6] (by decide +kernel) (by decide +kernel)
set_option maxRecDepth 20000 in
theorem gX2_followAll_J7_fill_53178 : GoodIn wsX2_followAll (va_wsS RX2 18 yJ7_fill_53178 wsJ7_fill_53178) := goodIn_app (goodIn_of _ (by decide +kernel)) ggX2_followAll_J7_fill_53178
set_option maxRecDepth 20000 in
theorem ggX2_followAll_X1_kindOf : GoodIn wsX2_followAll wsX1_kindOf := goodIn_ca (goodIn_r _ [11, 12, 13, 14, 15, 10, 16, 17, 40, 41, 42, 43, 44, 45, 46, 47, 48] (by decide +kernel) (by decide +kernel)) (goodIn_sub (fun _ h => List.mem_cons_of_mem _ (List.mem_append_right _ h)) (by decide +kernel))
set_option maxRecDepth 20000 in
theorem gX2_followAll_X1_kindOf : GoodIn wsX2_followAll (wsV RX2 34 RX1 yX1_kindOf wsX1_kindOf) := goodIn_app (goodIn_of _ (by decide +kernel)) ggX2_followAll_X1_kindOf
set_option maxRecDepth 20000 in
theorem ggX2_followAll_X1_unitOf : GoodIn wsX2_followAll wsX1_unitOf := goodIn_ca (goodIn_r _ [21, 22, 13, 14, 15, 10, 16, 17, 40, 41, 42, 43, 44, 45, 46, 47, 48] (by decide +kernel) (by decide +kernel)) (goodIn_sub (fun _ h => List.mem_cons_of_mem _ (List.mem_append_right _ h)) (by decide +kernel))
set_option maxRecDepth 20000 in
theorem gX2_followAll_X1_unitOf : GoodIn wsX2_followAll (wsV RX2 40 RX1 yX1_unitOf wsX1_unitOf) := goodIn_app (goodIn_of _ (by decide +kernel)) ggX2_followAll_X1_unitOf
set_option maxRecDepth 20000 in
theorem ggX2_followAll_X1_cellOf : GoodIn wsX2_followAll wsX1_cellOf := goodIn_ca (goodIn_r _ [26, 27, 13, 14, 15, 10, 16, 17, 40, 41, 42, 43, 44, 45, 46, 47, 48] (by decide +kernel) (by decide +kernel)) (goodIn_sub (fun _ h => List.mem_cons_of_mem _ (List.mem_append_right _ h)) (by decide +kernel))
set_option maxRecDepth 20000 in
theorem gX2_followAll_X1_cellOf : GoodIn wsX2_followAll (wsV RX2 43 RX1 yX1_cellOf wsX1_cellOf) := goodIn_app (goodIn_of _ (by decide +kernel)) ggX2_followAll_X1_cellOf
set_option maxRecDepth 20000 in
theorem ggX2_followAll_X2_follow : GoodIn wsX2_followAll wsX2_follow := goodIn_ca (goodIn_r _ [32, 1, 2, 33, 34, 35, 36, 37, 38, 39] (by decide +kernel) (by decide +kernel)) (goodIn_sub (fun _ h => List.mem_cons_of_mem _ (List.mem_append_right _ h)) (by decide +kernel))
set_option maxRecDepth 20000 in
theorem gX2_followAll_X2_follow : GoodIn wsX2_followAll (wsV RX2 46 RX2 yX2_follow wsX2_follow) := goodIn_app (goodIn_of _ (by decide +kernel)) ggX2_followAll_X2_follow
theorem dX2_followAll_0 : decode cX2_followAll 0 = .ok (.aload_n 0, 1) := by decide +kernel
theorem dX2_followAll_1 : decode cX2_followAll 1 = .ok (.getfield 9, 3) := by decide +kernel
theorem dX2_followAll_4 : decode cX2_followAll 4 = .ok (.iconst (-1), 1) := by decide +kernel
theorem dX2_followAll_5 : decode cX2_followAll 5 = .ok (.invokestatic 18, 3) := by decide +kernel
theorem dX2_followAll_8 : decode cX2_followAll 8 = .ok (.aload_n 0, 1) := by decide +kernel
theorem dX2_followAll_9 : decode cX2_followAll 9 = .ok (.getfield 15, 3) := by decide +kernel
theorem dX2_followAll_12 : decode cX2_followAll 12 = .ok (.iconst 0, 1) := by decide +kernel
theorem dX2_followAll_13 : decode cX2_followAll 13 = .ok (.invokestatic 18, 3) := by decide +kernel
theorem dX2_followAll_16 : decode cX2_followAll 16 = .ok (.iconst 1, 1) := by decide +kernel
theorem dX2_followAll_17 : decode cX2_followAll 17 = .ok (.istore_n 3, 1) := by decide +kernel
theorem dX2_followAll_18 : decode cX2_followAll 18 = .ok (.iload_n 3, 1) := by decide +kernel
theorem dX2_followAll_19 : decode cX2_followAll 19 = .ok (.iload_n 2, 1) := by decide +kernel
theorem dX2_followAll_20 : decode cX2_followAll 20 = .ok (.if_icmp .gt 28, 3) := by decide +kernel
theorem dX2_followAll_23 : decode cX2_followAll 23 = .ok (.aload_n 0, 1) := by decide +kernel
theorem dX2_followAll_24 : decode cX2_followAll 24 = .ok (.aload_n 1, 1) := by decide +kernel
theorem dX2_followAll_25 : decode cX2_followAll 25 = .ok (.iload_n 3, 1) := by decide +kernel
theorem dX2_followAll_26 : decode cX2_followAll 26 = .ok (.invokevirtual 34, 3) := by decide +kernel
theorem dX2_followAll_29 : decode cX2_followAll 29 = .ok (.aload_n 1, 1) := by decide +kernel
theorem dX2_followAll_30 : decode cX2_followAll 30 = .ok (.iload_n 3, 1) := by decide +kernel
theorem dX2_followAll_31 : decode cX2_followAll 31 = .ok (.invokevirtual 40, 3) := by decide +kernel
theorem dX2_followAll_34 : decode cX2_followAll 34 = .ok (.aload_n 1, 1) := by decide +kernel
theorem dX2_followAll_35 : decode cX2_followAll 35 = .ok (.iload_n 3, 1) := by decide +kernel
theorem dX2_followAll_36 : decode cX2_followAll 36 = .ok (.invokevirtual 43, 3) := by decide +kernel
theorem dX2_followAll_39 : decode cX2_followAll 39 = .ok (.invokevirtual 46, 3) := by decide +kernel
theorem dX2_followAll_42 : decode cX2_followAll 42 = .ok (.iinc 3 1, 3) := by decide +kernel
theorem dX2_followAll_45 : decode cX2_followAll 45 = .ok (.goto (-27), 3) := by decide +kernel
theorem dX2_followAll_48 : decode cX2_followAll 48 = .ok (.return_, 1) := by decide +kernel
set_option maxRecDepth 20000 in
theorem ggX2_howManyOpen_X2_howManyEndedBy : GoodIn wsX2_howManyOpen wsX2_howManyEndedBy := goodIn_ca (goodIn_r _ [5, 6, 7, 8] (by decide +kernel) (by decide +kernel)) (goodIn_sub (fun _ h => List.mem_cons_of_mem _ (List.mem_append_right _ h)) (by decide +kernel))
set_option maxRecDepth 20000 in
theorem gX2_howManyOpen_X2_howManyEndedBy : GoodIn wsX2_howManyOpen (wsV RX2 50 RX2 yX2_howManyEndedBy wsX2_howManyEndedBy) := goodIn_app (goodIn_of _ (by decide +kernel)) ggX2_howManyOpen_X2_howManyEndedBy
theorem dX2_howManyOpen_0 : decode cX2_howManyOpen 0 = .ok (.aload_n 0, 1) := by decide +kernel
theorem dX2_howManyOpen_1 : decode cX2_howManyOpen 1 = .ok (.iconst 0, 1) := by decide +kernel
theorem dX2_howManyOpen_2 : decode cX2_howManyOpen 2 = .ok (.invokevirtual 50, 3) := by decide +kernel
theorem dX2_howManyOpen_5 : decode cX2_howManyOpen 5 = .ok (.ireturn, 1) := by decide +kernel
theorem dX2_howManyEndedBy_0 : decode cX2_howManyEndedBy 0 = .ok (.iconst 0, 1) := by decide +kernel
theorem dX2_howManyEndedBy_1 : decode cX2_howManyEndedBy 1 = .ok (.istore_n 2, 1) := by decide +kernel
theorem dX2_howManyEndedBy_2 : decode cX2_howManyEndedBy 2 = .ok (.iconst 1, 1) := by decide +kernel
theorem dX2_howManyEndedBy_3 : decode cX2_howManyEndedBy 3 = .ok (.istore_n 3, 1) := by decide +kernel
theorem dX2_howManyEndedBy_4 : decode cX2_howManyEndedBy 4 = .ok (.iload_n 3, 1) := by decide +kernel
theorem dX2_howManyEndedBy_5 : decode cX2_howManyEndedBy 5 = .ok (.bipush 60, 2) := by decide +kernel
theorem dX2_howManyEndedBy_7 : decode cX2_howManyEndedBy 7 = .ok (.if_icmp .gt 22, 3) := by decide +kernel
theorem dX2_howManyEndedBy_10 : decode cX2_howManyEndedBy 10 = .ok (.aload_n 0, 1) := by decide +kernel
theorem dX2_howManyEndedBy_11 : decode cX2_howManyEndedBy 11 = .ok (.getfield 9, 3) := by decide +kernel
theorem dX2_howManyEndedBy_14 : decode cX2_howManyEndedBy 14 = .ok (.iload_n 3, 1) := by decide +kernel
theorem dX2_howManyEndedBy_15 : decode cX2_howManyEndedBy 15 = .ok (.iaload, 1) := by decide +kernel
theorem dX2_howManyEndedBy_16 : decode cX2_howManyEndedBy 16 = .ok (.iload_n 1, 1) := by decide +kernel
theorem dX2_howManyEndedBy_17 : decode cX2_howManyEndedBy 17 = .ok (.if_icmp .ne 6, 3) := by decide +kernel
theorem dX2_howManyEndedBy_20 : decode cX2_howManyEndedBy 20 = .ok (.iinc 2 1, 3) := by decide +kernel
theorem dX2_howManyEndedBy_23 : decode cX2_howManyEndedBy 23 = .ok (.iinc 3 1, 3) := by decide +kernel
theorem dX2_howManyEndedBy_26 : decode cX2_howManyEndedBy 26 = .ok (.goto (-22), 3) := by decide +kernel
theorem dX2_howManyEndedBy_29 : decode cX2_howManyEndedBy 29 = .ok (.iload_n 2, 1) := by decide +kernel
theorem dX2_howManyEndedBy_30 : decode cX2_howManyEndedBy 30 = .ok (.ireturn, 1) := by decide +kernel
set_option maxRecDepth 20000 in
theorem ggX3_init_X1_init : GoodIn wsX3_init wsX1_init := goodIn_r _ [28, 29, 2, 3, 30, 31, 32, 33, 4, 34, 35, 36, 37, 38, 39, 40, 67, 68, 69, 70, 71, 72, 73, 74, 75] (by decide +kernel) (by decide +kernel)
set_option maxRecDepth 20000 in
theorem gX3_init_X1_init_n15 : GoodIn wsX3_init (wsX1_init) := ggX3_init_X1_init
set_option maxRecDepth 20000 in
theorem ggX3_init_X2_init : GoodIn wsX3_init wsX2_init := goodIn_r _ [43, 44, 2, 3, 30, 45, 46, 47, 48, 49, 50, 76, 77] (by decide +kernel) (by decide +kernel)
set_option maxRecDepth 20000 in
theorem gX3_init_X2_init : GoodIn wsX3_init (wsX2_init) := ggX3_init_X2_init
set_option maxRecDepth 20000 in
theorem ggX3_init_X0_init : GoodIn wsX3_init wsX0_init := goodIn_r _ [52, 53, 2, 3, 30, 54, 55, 37, 56, 57, 4, 58, 59, 60, 78, 79, 80, 81, 82, 83] (by decide +kernel) (by decide +kernel)
set_option maxRecDepth 20000 in
theorem gX3_init_X0_init_n32 : GoodIn wsX3_init (wsX0_init) := ggX3_init_X0_init
