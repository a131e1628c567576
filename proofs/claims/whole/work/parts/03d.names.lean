theorem dX4_init_0 : decode cX4_init 0 = .ok (.aload_n 0, 1) := by decide +kernel
theorem dX4_init_1 : decode cX4_init 1 = .ok (.invokespecial 1, 3) := by decide +kernel
theorem dX4_init_4 : decode cX4_init 4 = .ok (.aload_n 0, 1) := by decide +kernel
theorem dX4_init_5 : decode cX4_init 5 = .ok (.bipush 32, 2) := by decide +kernel
theorem dX4_init_7 : decode cX4_init 7 = .ok (.newarray .long, 2) := by decide +kernel
theorem dX4_init_9 : decode cX4_init 9 = .ok (.putfield 7, 3) := by decide +kernel
theorem dX4_init_12 : decode cX4_init 12 = .ok (.aload_n 0, 1) := by decide +kernel
theorem dX4_init_13 : decode cX4_init 13 = .ok (.sipush 2001, 3) := by decide +kernel
theorem dX4_init_16 : decode cX4_init 16 = .ok (.newarray .int, 2) := by decide +kernel
theorem dX4_init_18 : decode cX4_init 18 = .ok (.putfield 13, 3) := by decide +kernel
theorem dX4_init_21 : decode cX4_init 21 = .ok (.aload_n 0, 1) := by decide +kernel
theorem dX4_init_22 : decode cX4_init 22 = .ok (.sipush 2001, 3) := by decide +kernel
theorem dX4_init_25 : decode cX4_init 25 = .ok (.newarray .int, 2) := by decide +kernel
theorem dX4_init_27 : decode cX4_init 27 = .ok (.putfield 17, 3) := by decide +kernel
theorem dX4_init_30 : decode cX4_init 30 = .ok (.aload_n 0, 1) := by decide +kernel
theorem dX4_init_31 : decode cX4_init 31 = .ok (.sipush 2001, 3) := by decide +kernel
theorem dX4_init_34 : decode cX4_init 34 = .ok (.newarray .int, 2) := by decide +kernel
theorem dX4_init_36 : decode cX4_init 36 = .ok (.putfield 20, 3) := by decide +kernel
theorem dX4_init_39 : decode cX4_init 39 = .ok (.aload_n 0, 1) := by decide +kernel
theorem dX4_init_40 : decode cX4_init 40 = .ok (.sipush 2001, 3) := by decide +kernel
theorem dX4_init_43 : decode cX4_init 43 = .ok (.newarray .int, 2) := by decide +kernel
theorem dX4_init_45 : decode cX4_init 45 = .ok (.putfield 23, 3) := by decide +kernel
theorem dX4_init_48 : decode cX4_init 48 = .ok (.aload_n 0, 1) := by decide +kernel
theorem dX4_init_49 : decode cX4_init 49 = .ok (.sipush 2001, 3) := by decide +kernel
theorem dX4_init_52 : decode cX4_init 52 = .ok (.newarray .long, 2) := by decide +kernel
theorem dX4_init_54 : decode cX4_init 54 = .ok (.putfield 26, 3) := by decide +kernel
theorem dX4_init_57 : decode cX4_init 57 = .ok (.aload_n 0, 1) := by decide +kernel
theorem dX4_init_58 : decode cX4_init 58 = .ok (.sipush 2001, 3) := by decide +kernel
theorem dX4_init_61 : decode cX4_init 61 = .ok (.newarray .long, 2) := by decide +kernel
theorem dX4_init_63 : decode cX4_init 63 = .ok (.putfield 29, 3) := by decide +kernel
theorem dX4_init_66 : decode cX4_init 66 = .ok (.aload_n 0, 1) := by decide +kernel
theorem dX4_init_67 : decode cX4_init 67 = .ok (.sipush 2001, 3) := by decide +kernel
theorem dX4_init_70 : decode cX4_init 70 = .ok (.newarray .boolean, 2) := by decide +kernel
theorem dX4_init_72 : decode cX4_init 72 = .ok (.putfield 32, 3) := by decide +kernel
theorem dX4_init_75 : decode cX4_init 75 = .ok (.aload_n 0, 1) := by decide +kernel
theorem dX4_init_76 : decode cX4_init 76 = .ok (.sipush 672, 3) := by decide +kernel
theorem dX4_init_79 : decode cX4_init 79 = .ok (.newarray .long, 2) := by decide +kernel
theorem dX4_init_81 : decode cX4_init 81 = .ok (.putfield 36, 3) := by decide +kernel
theorem dX4_init_84 : decode cX4_init 84 = .ok (.aload_n 0, 1) := by decide +kernel
theorem dX4_init_85 : decode cX4_init 85 = .ok (.bipush 21, 2) := by decide +kernel
theorem dX4_init_87 : decode cX4_init 87 = .ok (.newarray .int, 2) := by decide +kernel
theorem dX4_init_89 : decode cX4_init 89 = .ok (.putfield 39, 3) := by decide +kernel
theorem dX4_init_92 : decode cX4_init 92 = .ok (.aload_n 0, 1) := by decide +kernel
theorem dX4_init_93 : decode cX4_init 93 = .ok (.bipush 21, 2) := by decide +kernel
theorem dX4_init_95 : decode cX4_init 95 = .ok (.newarray .int, 2) := by decide +kernel
theorem dX4_init_97 : decode cX4_init 97 = .ok (.putfield 42, 3) := by decide +kernel
theorem dX4_init_100 : decode cX4_init 100 = .ok (.aload_n 0, 1) := by decide +kernel
theorem dX4_init_101 : decode cX4_init 101 = .ok (.bipush 21, 2) := by decide +kernel
theorem dX4_init_103 : decode cX4_init 103 = .ok (.newarray .boolean, 2) := by decide +kernel
theorem dX4_init_105 : decode cX4_init 105 = .ok (.putfield 45, 3) := by decide +kernel
theorem dX4_init_108 : decode cX4_init 108 = .ok (.aload_n 0, 1) := by decide +kernel
theorem dX4_init_109 : decode cX4_init 109 = .ok (.iload_n 1, 1) := by decide +kernel
theorem dX4_init_110 : decode cX4_init 110 = .ok (.iconst 1, 1) := by decide +kernel
theorem dX4_init_111 : decode cX4_init 111 = .ok (.if_icmp .ge 7, 3) := by decide +kernel
theorem dX4_init_114 : decode cX4_init 114 = .ok (.iconst 1, 1) := by decide +kernel
theorem dX4_init_115 : decode cX4_init 115 = .ok (.goto 13, 3) := by decide +kernel
theorem dX4_init_118 : decode cX4_init 118 = .ok (.iload_n 1, 1) := by decide +kernel
theorem dX4_init_119 : decode cX4_init 119 = .ok (.iconst 4, 1) := by decide +kernel
theorem dX4_init_120 : decode cX4_init 120 = .ok (.if_icmp .le 7, 3) := by decide +kernel
theorem dX4_init_123 : decode cX4_init 123 = .ok (.iconst 4, 1) := by decide +kernel
theorem dX4_init_124 : decode cX4_init 124 = .ok (.goto 4, 3) := by decide +kernel
theorem dX4_init_127 : decode cX4_init 127 = .ok (.iload_n 1, 1) := by decide +kernel
theorem dX4_init_128 : decode cX4_init 128 = .ok (.putfield 48, 3) := by decide +kernel
theorem dX4_init_131 : decode cX4_init 131 = .ok (.return_, 1) := by decide +kernel
theorem dX4_thrown_0 : decode cX4_thrown 0 = .ok (.aload_n 0, 1) := by decide +kernel
theorem dX4_thrown_1 : decode cX4_thrown 1 = .ok (.getfield 52, 3) := by decide +kernel
theorem dX4_thrown_4 : decode cX4_thrown 4 = .ok (.ireturn, 1) := by decide +kernel
theorem dX4_isUnit_0 : decode cX4_isUnit 0 = .ok (.iload_n 0, 1) := by decide +kernel
theorem dX4_isUnit_1 : decode cX4_isUnit 1 = .ok (.ifCond .le 13, 3) := by decide +kernel
theorem dX4_isUnit_4 : decode cX4_isUnit 4 = .ok (.iload_n 0, 1) := by decide +kernel
theorem dX4_isUnit_5 : decode cX4_isUnit 5 = .ok (.bipush 60, 2) := by decide +kernel
theorem dX4_isUnit_7 : decode cX4_isUnit 7 = .ok (.if_icmp .gt 7, 3) := by decide +kernel
theorem dX4_isUnit_10 : decode cX4_isUnit 10 = .ok (.iconst 1, 1) := by decide +kernel
theorem dX4_isUnit_11 : decode cX4_isUnit 11 = .ok (.goto 4, 3) := by decide +kernel
theorem dX4_isUnit_14 : decode cX4_isUnit 14 = .ok (.iconst 0, 1) := by decide +kernel
theorem dX4_isUnit_15 : decode cX4_isUnit 15 = .ok (.ireturn, 1) := by decide +kernel
theorem dX4_isCell_0 : decode cX4_isCell 0 = .ok (.iload_n 0, 1) := by decide +kernel
theorem dX4_isCell_1 : decode cX4_isCell 1 = .ok (.ifCond .lt 13, 3) := by decide +kernel
theorem dX4_isCell_4 : decode cX4_isCell 4 = .ok (.iload_n 0, 1) := by decide +kernel
theorem dX4_isCell_5 : decode cX4_isCell 5 = .ok (.bipush 32, 2) := by decide +kernel
theorem dX4_isCell_7 : decode cX4_isCell 7 = .ok (.if_icmp .ge 7, 3) := by decide +kernel
theorem dX4_isCell_10 : decode cX4_isCell 10 = .ok (.iconst 1, 1) := by decide +kernel
theorem dX4_isCell_11 : decode cX4_isCell 11 = .ok (.goto 4, 3) := by decide +kernel
theorem dX4_isCell_14 : decode cX4_isCell 14 = .ok (.iconst 0, 1) := by decide +kernel
theorem dX4_isCell_15 : decode cX4_isCell 15 = .ok (.ireturn, 1) := by decide +kernel
theorem dX4_stateOf_0 : decode cX4_stateOf 0 = .ok (.iconst 0, 1) := by decide +kernel
theorem dX4_stateOf_1 : decode cX4_stateOf 1 = .ok (.istore_n 3, 1) := by decide +kernel
theorem dX4_stateOf_2 : decode cX4_stateOf 2 = .ok (.iconst 1, 1) := by decide +kernel
theorem dX4_stateOf_3 : decode cX4_stateOf 3 = .ok (.istore 4, 2) := by decide +kernel
theorem dX4_stateOf_5 : decode cX4_stateOf 5 = .ok (.iload 4, 2) := by decide +kernel
theorem dX4_stateOf_7 : decode cX4_stateOf 7 = .ok (.iload_n 2, 1) := by decide +kernel
theorem dX4_stateOf_8 : decode cX4_stateOf 8 = .ok (.if_icmp .gt 63, 3) := by decide +kernel
theorem dX4_stateOf_11 : decode cX4_stateOf 11 = .ok (.aload_n 0, 1) := by decide +kernel
theorem dX4_stateOf_12 : decode cX4_stateOf 12 = .ok (.getfield 17, 3) := by decide +kernel
theorem dX4_stateOf_15 : decode cX4_stateOf 15 = .ok (.iload 4, 2) := by decide +kernel
theorem dX4_stateOf_17 : decode cX4_stateOf 17 = .ok (.iaload, 1) := by decide +kernel
theorem dX4_stateOf_18 : decode cX4_stateOf 18 = .ok (.iload_n 1, 1) := by decide +kernel
theorem dX4_stateOf_19 : decode cX4_stateOf 19 = .ok (.if_icmp .eq 6, 3) := by decide +kernel
theorem dX4_stateOf_22 : decode cX4_stateOf 22 = .ok (.goto 43, 3) := by decide +kernel
theorem dX4_stateOf_25 : decode cX4_stateOf 25 = .ok (.aload_n 0, 1) := by decide +kernel
theorem dX4_stateOf_26 : decode cX4_stateOf 26 = .ok (.getfield 13, 3) := by decide +kernel
theorem dX4_stateOf_29 : decode cX4_stateOf 29 = .ok (.iload 4, 2) := by decide +kernel
theorem dX4_stateOf_31 : decode cX4_stateOf 31 = .ok (.iaload, 1) := by decide +kernel
theorem dX4_stateOf_32 : decode cX4_stateOf 32 = .ok (.iconst 1, 1) := by decide +kernel
theorem dX4_stateOf_33 : decode cX4_stateOf 33 = .ok (.if_icmp .ne 7, 3) := by decide +kernel
theorem dX4_stateOf_36 : decode cX4_stateOf 36 = .ok (.iconst 2, 1) := by decide +kernel
theorem dX4_stateOf_37 : decode cX4_stateOf 37 = .ok (.goto 27, 3) := by decide +kernel
theorem dX4_stateOf_40 : decode cX4_stateOf 40 = .ok (.aload_n 0, 1) := by decide +kernel
theorem dX4_stateOf_41 : decode cX4_stateOf 41 = .ok (.getfield 13, 3) := by decide +kernel
theorem dX4_stateOf_44 : decode cX4_stateOf 44 = .ok (.iload 4, 2) := by decide +kernel
theorem dX4_stateOf_46 : decode cX4_stateOf 46 = .ok (.iaload, 1) := by decide +kernel
theorem dX4_stateOf_47 : decode cX4_stateOf 47 = .ok (.iconst 2, 1) := by decide +kernel
theorem dX4_stateOf_48 : decode cX4_stateOf 48 = .ok (.if_icmp .ne 7, 3) := by decide +kernel
theorem dX4_stateOf_51 : decode cX4_stateOf 51 = .ok (.iconst 3, 1) := by decide +kernel
theorem dX4_stateOf_52 : decode cX4_stateOf 52 = .ok (.goto 12, 3) := by decide +kernel
theorem dX4_stateOf_55 : decode cX4_stateOf 55 = .ok (.iload_n 3, 1) := by decide +kernel
theorem dX4_stateOf_56 : decode cX4_stateOf 56 = .ok (.ifCond .ne 7, 3) := by decide +kernel
theorem dX4_stateOf_59 : decode cX4_stateOf 59 = .ok (.iconst 1, 1) := by decide +kernel
theorem dX4_stateOf_60 : decode cX4_stateOf 60 = .ok (.goto 4, 3) := by decide +kernel
theorem dX4_stateOf_63 : decode cX4_stateOf 63 = .ok (.iload_n 3, 1) := by decide +kernel
theorem dX4_stateOf_64 : decode cX4_stateOf 64 = .ok (.istore_n 3, 1) := by decide +kernel
theorem dX4_stateOf_65 : decode cX4_stateOf 65 = .ok (.iinc 4 1, 3) := by decide +kernel
theorem dX4_stateOf_68 : decode cX4_stateOf 68 = .ok (.goto (-63), 3) := by decide +kernel
theorem dX4_stateOf_71 : decode cX4_stateOf 71 = .ok (.iload_n 3, 1) := by decide +kernel
theorem dX4_stateOf_72 : decode cX4_stateOf 72 = .ok (.ireturn, 1) := by decide +kernel
set_option maxRecDepth 20000 in
theorem ggX4_isOpen_X4_stateOf : GoodIn wsX4_isOpen wsX4_stateOf := goodIn_ca (goodIn_r _ [6, 7, 8, 9, 10, 11, 12, 13, 14, 15, 16, 17, 18, 19, 20, 21, 22, 23, 24, 25, 26] (by decide +kernel) (by decide +kernel)) (goodIn_sub (fun _ h => List.mem_cons_of_mem _ (List.mem_append_right _ h)) (by decide +kernel))
set_option maxRecDepth 20000 in
theorem gX4_isOpen_X4_stateOf : GoodIn wsX4_isOpen (wsV RX4 58 RX4 yX4_stateOf wsX4_stateOf) := goodIn_app (goodIn_of _ (by decide +kernel)) ggX4_isOpen_X4_stateOf
theorem dX4_isOpen_0 : decode cX4_isOpen 0 = .ok (.aload_n 0, 1) := by decide +kernel
theorem dX4_isOpen_1 : decode cX4_isOpen 1 = .ok (.iload_n 1, 1) := by decide +kernel
theorem dX4_isOpen_2 : decode cX4_isOpen 2 = .ok (.aload_n 0, 1) := by decide +kernel
theorem dX4_isOpen_3 : decode cX4_isOpen 3 = .ok (.getfield 55, 3) := by decide +kernel
theorem dX4_isOpen_6 : decode cX4_isOpen 6 = .ok (.invokevirtual 58, 3) := by decide +kernel
theorem dX4_isOpen_9 : decode cX4_isOpen 9 = .ok (.iconst 1, 1) := by decide +kernel
theorem dX4_isOpen_10 : decode cX4_isOpen 10 = .ok (.if_icmp .ne 7, 3) := by decide +kernel
theorem dX4_isOpen_13 : decode cX4_isOpen 13 = .ok (.iconst 1, 1) := by decide +kernel
theorem dX4_isOpen_14 : decode cX4_isOpen 14 = .ok (.goto 4, 3) := by decide +kernel
theorem dX4_isOpen_17 : decode cX4_isOpen 17 = .ok (.iconst 0, 1) := by decide +kernel
theorem dX4_isOpen_18 : decode cX4_isOpen 18 = .ok (.ireturn, 1) := by decide +kernel
theorem dX4_isMissing_0 : decode cX4_isMissing 0 = .ok (.aload_n 0, 1) := by decide +kernel
theorem dX4_isMissing_1 : decode cX4_isMissing 1 = .ok (.getfield 23, 3) := by decide +kernel
theorem dX4_isMissing_4 : decode cX4_isMissing 4 = .ok (.iload_n 1, 1) := by decide +kernel
theorem dX4_isMissing_5 : decode cX4_isMissing 5 = .ok (.iaload, 1) := by decide +kernel
theorem dX4_isMissing_6 : decode cX4_isMissing 6 = .ok (.iconst 3, 1) := by decide +kernel
theorem dX4_isMissing_7 : decode cX4_isMissing 7 = .ok (.if_icmp .ne 7, 3) := by decide +kernel
theorem dX4_isMissing_10 : decode cX4_isMissing 10 = .ok (.iconst 1, 1) := by decide +kernel
theorem dX4_isMissing_11 : decode cX4_isMissing 11 = .ok (.goto 4, 3) := by decide +kernel
theorem dX4_isMissing_14 : decode cX4_isMissing 14 = .ok (.iconst 0, 1) := by decide +kernel
theorem dX4_isMissing_15 : decode cX4_isMissing 15 = .ok (.ireturn, 1) := by decide +kernel
theorem dX4_isChange_0 : decode cX4_isChange 0 = .ok (.aload_n 0, 1) := by decide +kernel
theorem dX4_isChange_1 : decode cX4_isChange 1 = .ok (.getfield 13, 3) := by decide +kernel
theorem dX4_isChange_4 : decode cX4_isChange 4 = .ok (.iload_n 1, 1) := by decide +kernel
theorem dX4_isChange_5 : decode cX4_isChange 5 = .ok (.iaload, 1) := by decide +kernel
theorem dX4_isChange_6 : decode cX4_isChange 6 = .ok (.ifCond .ne 26, 3) := by decide +kernel
theorem dX4_isChange_9 : decode cX4_isChange 9 = .ok (.aload_n 0, 1) := by decide +kernel
theorem dX4_isChange_10 : decode cX4_isChange 10 = .ok (.getfield 17, 3) := by decide +kernel
theorem dX4_isChange_13 : decode cX4_isChange 13 = .ok (.iload_n 1, 1) := by decide +kernel
theorem dX4_isChange_14 : decode cX4_isChange 14 = .ok (.iaload, 1) := by decide +kernel
theorem dX4_isChange_15 : decode cX4_isChange 15 = .ok (.iload_n 2, 1) := by decide +kernel
theorem dX4_isChange_16 : decode cX4_isChange 16 = .ok (.if_icmp .ne 16, 3) := by decide +kernel
theorem dX4_isChange_19 : decode cX4_isChange 19 = .ok (.aload_n 0, 1) := by decide +kernel
theorem dX4_isChange_20 : decode cX4_isChange 20 = .ok (.getfield 32, 3) := by decide +kernel
theorem dX4_isChange_23 : decode cX4_isChange 23 = .ok (.iload_n 1, 1) := by decide +kernel
theorem dX4_isChange_24 : decode cX4_isChange 24 = .ok (.baload, 1) := by decide +kernel
theorem dX4_isChange_25 : decode cX4_isChange 25 = .ok (.ifCond .ne 7, 3) := by decide +kernel
theorem dX4_isChange_28 : decode cX4_isChange 28 = .ok (.iconst 1, 1) := by decide +kernel
theorem dX4_isChange_29 : decode cX4_isChange 29 = .ok (.goto 4, 3) := by decide +kernel
theorem dX4_isChange_32 : decode cX4_isChange 32 = .ok (.iconst 0, 1) := by decide +kernel
theorem dX4_isChange_33 : decode cX4_isChange 33 = .ok (.ireturn, 1) := by decide +kernel
set_option maxRecDepth 20000 in
theorem ggX4_changes_X4_isChange : GoodIn wsX4_changes wsX4_isChange := goodIn_ca (goodIn_r _ [5, 6, 7, 8, 9, 10, 11, 12, 13, 14, 15, 16, 17, 18, 19, 20, 21, 22, 23, 24, 25, 26] (by decide +kernel) (by decide +kernel)) (goodIn_sub (fun _ h => List.mem_cons_of_mem _ (List.mem_append_right _ h)) (by decide +kernel))
set_option maxRecDepth 20000 in
theorem gX4_changes_X4_isChange : GoodIn wsX4_changes (wsV RX4 62 RX4 yX4_isChange wsX4_isChange) := goodIn_app (goodIn_of _ (by decide +kernel)) ggX4_changes_X4_isChange
theorem dX4_changes_0 : decode cX4_changes 0 = .ok (.iconst 0, 1) := by decide +kernel
theorem dX4_changes_1 : decode cX4_changes 1 = .ok (.istore_n 3, 1) := by decide +kernel
theorem dX4_changes_2 : decode cX4_changes 2 = .ok (.iconst 1, 1) := by decide +kernel
theorem dX4_changes_3 : decode cX4_changes 3 = .ok (.istore 4, 2) := by decide +kernel
theorem dX4_changes_5 : decode cX4_changes 5 = .ok (.iload 4, 2) := by decide +kernel
theorem dX4_changes_7 : decode cX4_changes 7 = .ok (.iload_n 2, 1) := by decide +kernel
theorem dX4_changes_8 : decode cX4_changes 8 = .ok (.if_icmp .gt 27, 3) := by decide +kernel
theorem dX4_changes_11 : decode cX4_changes 11 = .ok (.iload_n 3, 1) := by decide +kernel
theorem dX4_changes_12 : decode cX4_changes 12 = .ok (.aload_n 0, 1) := by decide +kernel
theorem dX4_changes_13 : decode cX4_changes 13 = .ok (.iload 4, 2) := by decide +kernel
theorem dX4_changes_15 : decode cX4_changes 15 = .ok (.iload_n 1, 1) := by decide +kernel
theorem dX4_changes_16 : decode cX4_changes 16 = .ok (.invokevirtual 62, 3) := by decide +kernel
theorem dX4_changes_19 : decode cX4_changes 19 = .ok (.ifCond .eq 7, 3) := by decide +kernel
theorem dX4_changes_22 : decode cX4_changes 22 = .ok (.iconst 1, 1) := by decide +kernel
theorem dX4_changes_23 : decode cX4_changes 23 = .ok (.goto 4, 3) := by decide +kernel
theorem dX4_changes_26 : decode cX4_changes 26 = .ok (.iconst 0, 1) := by decide +kernel
theorem dX4_changes_27 : decode cX4_changes 27 = .ok (.iadd, 1) := by decide +kernel
theorem dX4_changes_28 : decode cX4_changes 28 = .ok (.istore_n 3, 1) := by decide +kernel
theorem dX4_changes_29 : decode cX4_changes 29 = .ok (.iinc 4 1, 3) := by decide +kernel
theorem dX4_changes_32 : decode cX4_changes 32 = .ok (.goto (-27), 3) := by decide +kernel
theorem dX4_changes_35 : decode cX4_changes 35 = .ok (.iload_n 3, 1) := by decide +kernel
theorem dX4_changes_36 : decode cX4_changes 36 = .ok (.ireturn, 1) := by decide +kernel
theorem dX4_finish_0 : decode cX4_finish 0 = .ok (.aload_n 0, 1) := by decide +kernel
theorem dX4_finish_1 : decode cX4_finish 1 = .ok (.getfield 66, 3) := by decide +kernel
theorem dX4_finish_4 : decode cX4_finish 4 = .ok (.ifCond .ne 4, 3) := by decide +kernel
theorem dX4_finish_7 : decode cX4_finish 7 = .ok (.return_, 1) := by decide +kernel
theorem dX4_finish_8 : decode cX4_finish 8 = .ok (.bipush 16, 2) := by decide +kernel
theorem dX4_finish_10 : decode cX4_finish 10 = .ok (.istore_n 1, 1) := by decide +kernel
theorem dX4_finish_11 : decode cX4_finish 11 = .ok (.iload_n 1, 1) := by decide +kernel
theorem dX4_finish_12 : decode cX4_finish 12 = .ok (.bipush 32, 2) := by decide +kernel
theorem dX4_finish_14 : decode cX4_finish 14 = .ok (.if_icmp .ge 29, 3) := by decide +kernel
theorem dX4_finish_17 : decode cX4_finish 17 = .ok (.aload_n 0, 1) := by decide +kernel
theorem dX4_finish_18 : decode cX4_finish 18 = .ok (.getfield 36, 3) := by decide +kernel
theorem dX4_finish_21 : decode cX4_finish 21 = .ok (.bipush 32, 2) := by decide +kernel
theorem dX4_finish_23 : decode cX4_finish 23 = .ok (.aload_n 0, 1) := by decide +kernel
theorem dX4_finish_24 : decode cX4_finish 24 = .ok (.getfield 66, 3) := by decide +kernel
theorem dX4_finish_27 : decode cX4_finish 27 = .ok (.imul, 1) := by decide +kernel
theorem dX4_finish_28 : decode cX4_finish 28 = .ok (.iload_n 1, 1) := by decide +kernel
theorem dX4_finish_29 : decode cX4_finish 29 = .ok (.iadd, 1) := by decide +kernel
theorem dX4_finish_30 : decode cX4_finish 30 = .ok (.aload_n 0, 1) := by decide +kernel
theorem dX4_finish_31 : decode cX4_finish 31 = .ok (.getfield 7, 3) := by decide +kernel
theorem dX4_finish_34 : decode cX4_finish 34 = .ok (.iload_n 1, 1) := by decide +kernel
theorem dX4_finish_35 : decode cX4_finish 35 = .ok (.laload, 1) := by decide +kernel
theorem dX4_finish_36 : decode cX4_finish 36 = .ok (.lastore, 1) := by decide +kernel
theorem dX4_finish_37 : decode cX4_finish 37 = .ok (.iinc 1 1, 3) := by decide +kernel
theorem dX4_finish_40 : decode cX4_finish 40 = .ok (.goto (-29), 3) := by decide +kernel
theorem dX4_finish_43 : decode cX4_finish 43 = .ok (.aload_n 0, 1) := by decide +kernel
theorem dX4_finish_44 : decode cX4_finish 44 = .ok (.getfield 42, 3) := by decide +kernel
theorem dX4_finish_47 : decode cX4_finish 47 = .ok (.aload_n 0, 1) := by decide +kernel
theorem dX4_finish_48 : decode cX4_finish 48 = .ok (.getfield 66, 3) := by decide +kernel
theorem dX4_finish_51 : decode cX4_finish 51 = .ok (.aload_n 0, 1) := by decide +kernel
theorem dX4_finish_52 : decode cX4_finish 52 = .ok (.getfield 55, 3) := by decide +kernel
theorem dX4_finish_55 : decode cX4_finish 55 = .ok (.iastore, 1) := by decide +kernel
theorem dX4_finish_56 : decode cX4_finish 56 = .ok (.aload_n 0, 1) := by decide +kernel
theorem dX4_finish_57 : decode cX4_finish 57 = .ok (.iconst 0, 1) := by decide +kernel
theorem dX4_finish_58 : decode cX4_finish 58 = .ok (.putfield 66, 3) := by decide +kernel
theorem dX4_finish_61 : decode cX4_finish 61 = .ok (.return_, 1) := by decide +kernel
set_option maxRecDepth 20000 in
theorem ggX4_write_X4_finish : GoodIn wsX4_write wsX4_finish := goodIn_ca (goodIn_r _ [16, 10, 17, 9, 18, 1, 19, 20, 21, 22, 23, 24, 25, 26, 27, 28, 29, 30, 31, 32, 33, 34, 35, 36] (by decide +kernel) (by decide +kernel)) (goodIn_sub (fun _ h => List.mem_cons_of_mem _ (List.mem_append_right _ h)) (by decide +kernel))
set_option maxRecDepth 20000 in
theorem gX4_write_X4_finish : GoodIn wsX4_write (wsV RX4 69 RX4 yX4_finish wsX4_finish) := goodIn_app (goodIn_of _ (by decide +kernel)) ggX4_write_X4_finish
theorem dX4_write_0 : decode cX4_write 0 = .ok (.aload_n 0, 1) := by decide +kernel
theorem dX4_write_1 : decode cX4_write 1 = .ok (.dup, 1) := by decide +kernel
theorem dX4_write_2 : decode cX4_write 2 = .ok (.getfield 55, 3) := by decide +kernel
theorem dX4_write_5 : decode cX4_write 5 = .ok (.iconst 1, 1) := by decide +kernel
theorem dX4_write_6 : decode cX4_write 6 = .ok (.iadd, 1) := by decide +kernel
theorem dX4_write_7 : decode cX4_write 7 = .ok (.putfield 55, 3) := by decide +kernel
theorem dX4_write_10 : decode cX4_write 10 = .ok (.aload_n 0, 1) := by decide +kernel
theorem dX4_write_11 : decode cX4_write 11 = .ok (.getfield 13, 3) := by decide +kernel
theorem dX4_write_14 : decode cX4_write 14 = .ok (.aload_n 0, 1) := by decide +kernel
theorem dX4_write_15 : decode cX4_write 15 = .ok (.getfield 55, 3) := by decide +kernel
theorem dX4_write_18 : decode cX4_write 18 = .ok (.iload_n 1, 1) := by decide +kernel
theorem dX4_write_19 : decode cX4_write 19 = .ok (.iastore, 1) := by decide +kernel
theorem dX4_write_20 : decode cX4_write 20 = .ok (.aload_n 0, 1) := by decide +kernel
theorem dX4_write_21 : decode cX4_write 21 = .ok (.getfield 17, 3) := by decide +kernel
theorem dX4_write_24 : decode cX4_write 24 = .ok (.aload_n 0, 1) := by decide +kernel
theorem dX4_write_25 : decode cX4_write 25 = .ok (.getfield 55, 3) := by decide +kernel
theorem dX4_write_28 : decode cX4_write 28 = .ok (.iload_n 2, 1) := by decide +kernel
theorem dX4_write_29 : decode cX4_write 29 = .ok (.iastore, 1) := by decide +kernel
theorem dX4_write_30 : decode cX4_write 30 = .ok (.aload_n 0, 1) := by decide +kernel
theorem dX4_write_31 : decode cX4_write 31 = .ok (.getfield 20, 3) := by decide +kernel
theorem dX4_write_34 : decode cX4_write 34 = .ok (.aload_n 0, 1) := by decide +kernel
theorem dX4_write_35 : decode cX4_write 35 = .ok (.getfield 55, 3) := by decide +kernel
theorem dX4_write_38 : decode cX4_write 38 = .ok (.iload_n 3, 1) := by decide +kernel
theorem dX4_write_39 : decode cX4_write 39 = .ok (.iastore, 1) := by decide +kernel
theorem dX4_write_40 : decode cX4_write 40 = .ok (.aload_n 0, 1) := by decide +kernel
theorem dX4_write_41 : decode cX4_write 41 = .ok (.getfield 26, 3) := by decide +kernel
theorem dX4_write_44 : decode cX4_write 44 = .ok (.aload_n 0, 1) := by decide +kernel
theorem dX4_write_45 : decode cX4_write 45 = .ok (.getfield 55, 3) := by decide +kernel
theorem dX4_write_48 : decode cX4_write 48 = .ok (.lload 4, 2) := by decide +kernel
theorem dX4_write_50 : decode cX4_write 50 = .ok (.lastore, 1) := by decide +kernel
theorem dX4_write_51 : decode cX4_write 51 = .ok (.aload_n 0, 1) := by decide +kernel
theorem dX4_write_52 : decode cX4_write 52 = .ok (.getfield 29, 3) := by decide +kernel
theorem dX4_write_55 : decode cX4_write 55 = .ok (.aload_n 0, 1) := by decide +kernel
theorem dX4_write_56 : decode cX4_write 56 = .ok (.getfield 55, 3) := by decide +kernel
theorem dX4_write_59 : decode cX4_write 59 = .ok (.lload 6, 2) := by decide +kernel
theorem dX4_write_61 : decode cX4_write 61 = .ok (.lastore, 1) := by decide +kernel
theorem dX4_write_62 : decode cX4_write 62 = .ok (.aload_n 0, 1) := by decide +kernel
theorem dX4_write_63 : decode cX4_write 63 = .ok (.getfield 23, 3) := by decide +kernel
theorem dX4_write_66 : decode cX4_write 66 = .ok (.aload_n 0, 1) := by decide +kernel
theorem dX4_write_67 : decode cX4_write 67 = .ok (.getfield 55, 3) := by decide +kernel
theorem dX4_write_70 : decode cX4_write 70 = .ok (.iconst 0, 1) := by decide +kernel
theorem dX4_write_71 : decode cX4_write 71 = .ok (.iastore, 1) := by decide +kernel
theorem dX4_write_72 : decode cX4_write 72 = .ok (.aload_n 0, 1) := by decide +kernel
theorem dX4_write_73 : decode cX4_write 73 = .ok (.getfield 32, 3) := by decide +kernel
theorem dX4_write_76 : decode cX4_write 76 = .ok (.aload_n 0, 1) := by decide +kernel
theorem dX4_write_77 : decode cX4_write 77 = .ok (.getfield 55, 3) := by decide +kernel
theorem dX4_write_80 : decode cX4_write 80 = .ok (.iload 8, 2) := by decide +kernel
theorem dX4_write_82 : decode cX4_write 82 = .ok (.bastore, 1) := by decide +kernel
theorem dX4_write_83 : decode cX4_write 83 = .ok (.iload_n 1, 1) := by decide +kernel
theorem dX4_write_84 : decode cX4_write 84 = .ok (.ifCond .ne 11, 3) := by decide +kernel
theorem dX4_write_87 : decode cX4_write 87 = .ok (.aload_n 0, 1) := by decide +kernel
theorem dX4_write_88 : decode cX4_write 88 = .ok (.getfield 7, 3) := by decide +kernel
theorem dX4_write_91 : decode cX4_write 91 = .ok (.iload_n 3, 1) := by decide +kernel
theorem dX4_write_92 : decode cX4_write 92 = .ok (.lload 6, 2) := by decide +kernel
theorem dX4_write_94 : decode cX4_write 94 = .ok (.lastore, 1) := by decide +kernel
theorem dX4_write_95 : decode cX4_write 95 = .ok (.aload_n 0, 1) := by decide +kernel
theorem dX4_write_96 : decode cX4_write 96 = .ok (.getfield 66, 3) := by decide +kernel
theorem dX4_write_99 : decode cX4_write 99 = .ok (.ifCond .le 25, 3) := by decide +kernel
theorem dX4_write_102 : decode cX4_write 102 = .ok (.aload_n 0, 1) := by decide +kernel
theorem dX4_write_103 : decode cX4_write 103 = .ok (.getfield 55, 3) := by decide +kernel
theorem dX4_write_106 : decode cX4_write 106 = .ok (.aload_n 0, 1) := by decide +kernel
theorem dX4_write_107 : decode cX4_write 107 = .ok (.getfield 39, 3) := by decide +kernel
theorem dX4_write_110 : decode cX4_write 110 = .ok (.aload_n 0, 1) := by decide +kernel
theorem dX4_write_111 : decode cX4_write 111 = .ok (.getfield 66, 3) := by decide +kernel
theorem dX4_write_114 : decode cX4_write 114 = .ok (.iaload, 1) := by decide +kernel
theorem dX4_write_115 : decode cX4_write 115 = .ok (.iconst 5, 1) := by decide +kernel
theorem dX4_write_116 : decode cX4_write 116 = .ok (.iadd, 1) := by decide +kernel
theorem dX4_write_117 : decode cX4_write 117 = .ok (.if_icmp .ne 7, 3) := by decide +kernel
theorem dX4_write_120 : decode cX4_write 120 = .ok (.aload_n 0, 1) := by decide +kernel
theorem dX4_write_121 : decode cX4_write 121 = .ok (.invokevirtual 69, 3) := by decide +kernel
theorem dX4_write_124 : decode cX4_write 124 = .ok (.return_, 1) := by decide +kernel
set_option maxRecDepth 20000 in
theorem ggX4_isTaken_X4_isOpen : GoodIn wsX4_isTaken wsX4_isOpen := goodIn_ca (goodIn_r _ [7, 1, 8, 9, 10, 6, 11, 12, 13, 19, 20, 21, 22, 23, 24, 25, 26, 27, 28, 29, 30, 31, 32, 33, 34, 35, 36] (by decide +kernel) (by decide +kernel)) (goodIn_sub (fun _ h => List.mem_cons_of_mem _ (List.mem_append_right _ h)) (by decide +kernel))
set_option maxRecDepth 20000 in
theorem gX4_isTaken_X4_isOpen : GoodIn wsX4_isTaken (wsV RX4 72 RX4 yX4_isOpen wsX4_isOpen) := goodIn_app (goodIn_of _ (by decide +kernel)) ggX4_isTaken_X4_isOpen
set_option maxRecDepth 20000 in
theorem ggX4_isTaken_X4_isChange : GoodIn wsX4_isTaken wsX4_isChange := goodIn_ca (goodIn_r _ [17, 13, 12, 18, 19, 20, 21, 22, 23, 24, 25, 26, 27, 28, 29, 30, 31, 32, 33, 34, 35, 36] (by decide +kernel) (by decide +kernel)) (goodIn_sub (fun _ h => List.mem_cons_of_mem _ (List.mem_append_right _ h)) (by decide +kernel))
set_option maxRecDepth 20000 in
theorem gX4_isTaken_X4_isChange : GoodIn wsX4_isTaken (wsV RX4 62 RX4 yX4_isChange wsX4_isChange) := goodIn_app (goodIn_of _ (by decide +kernel)) ggX4_isTaken_X4_isChange
theorem dX4_isTaken_0 : decode cX4_isTaken 0 = .ok (.iconst 1, 1) := by decide +kernel
theorem dX4_isTaken_1 : decode cX4_isTaken 1 = .ok (.istore_n 3, 1) := by decide +kernel
theorem dX4_isTaken_2 : decode cX4_isTaken 2 = .ok (.iload_n 3, 1) := by decide +kernel
theorem dX4_isTaken_3 : decode cX4_isTaken 3 = .ok (.bipush 60, 2) := by decide +kernel
theorem dX4_isTaken_5 : decode cX4_isTaken 5 = .ok (.if_icmp .gt 66, 3) := by decide +kernel
theorem dX4_isTaken_8 : decode cX4_isTaken 8 = .ok (.iload_n 3, 1) := by decide +kernel
theorem dX4_isTaken_9 : decode cX4_isTaken 9 = .ok (.iload_n 2, 1) := by decide +kernel
theorem dX4_isTaken_10 : decode cX4_isTaken 10 = .ok (.if_icmp .eq 55, 3) := by decide +kernel
theorem dX4_isTaken_13 : decode cX4_isTaken 13 = .ok (.aload_n 0, 1) := by decide +kernel
theorem dX4_isTaken_14 : decode cX4_isTaken 14 = .ok (.iload_n 3, 1) := by decide +kernel
theorem dX4_isTaken_15 : decode cX4_isTaken 15 = .ok (.invokevirtual 72, 3) := by decide +kernel
theorem dX4_isTaken_18 : decode cX4_isTaken 18 = .ok (.ifCond .ne 6, 3) := by decide +kernel
theorem dX4_isTaken_21 : decode cX4_isTaken 21 = .ok (.goto 44, 3) := by decide +kernel
theorem dX4_isTaken_24 : decode cX4_isTaken 24 = .ok (.iconst 1, 1) := by decide +kernel
theorem dX4_isTaken_25 : decode cX4_isTaken 25 = .ok (.istore 4, 2) := by decide +kernel
theorem dX4_isTaken_27 : decode cX4_isTaken 27 = .ok (.iload 4, 2) := by decide +kernel
theorem dX4_isTaken_29 : decode cX4_isTaken 29 = .ok (.aload_n 0, 1) := by decide +kernel
theorem dX4_isTaken_30 : decode cX4_isTaken 30 = .ok (.getfield 55, 3) := by decide +kernel
theorem dX4_isTaken_33 : decode cX4_isTaken 33 = .ok (.if_icmp .gt 32, 3) := by decide +kernel
theorem dX4_isTaken_36 : decode cX4_isTaken 36 = .ok (.aload_n 0, 1) := by decide +kernel
theorem dX4_isTaken_37 : decode cX4_isTaken 37 = .ok (.iload 4, 2) := by decide +kernel
theorem dX4_isTaken_39 : decode cX4_isTaken 39 = .ok (.iload_n 3, 1) := by decide +kernel
theorem dX4_isTaken_40 : decode cX4_isTaken 40 = .ok (.invokevirtual 62, 3) := by decide +kernel
theorem dX4_isTaken_43 : decode cX4_isTaken 43 = .ok (.ifCond .eq 16, 3) := by decide +kernel
theorem dX4_isTaken_46 : decode cX4_isTaken 46 = .ok (.aload_n 0, 1) := by decide +kernel
theorem dX4_isTaken_47 : decode cX4_isTaken 47 = .ok (.getfield 20, 3) := by decide +kernel
theorem dX4_isTaken_50 : decode cX4_isTaken 50 = .ok (.iload 4, 2) := by decide +kernel
theorem dX4_isTaken_52 : decode cX4_isTaken 52 = .ok (.iaload, 1) := by decide +kernel
theorem dX4_isTaken_53 : decode cX4_isTaken 53 = .ok (.iload_n 1, 1) := by decide +kernel
theorem dX4_isTaken_54 : decode cX4_isTaken 54 = .ok (.if_icmp .ne 5, 3) := by decide +kernel
theorem dX4_isTaken_57 : decode cX4_isTaken 57 = .ok (.iconst 1, 1) := by decide +kernel
theorem dX4_isTaken_58 : decode cX4_isTaken 58 = .ok (.ireturn, 1) := by decide +kernel
theorem dX4_isTaken_59 : decode cX4_isTaken 59 = .ok (.iinc 4 1, 3) := by decide +kernel
theorem dX4_isTaken_62 : decode cX4_isTaken 62 = .ok (.goto (-35), 3) := by decide +kernel
theorem dX4_isTaken_65 : decode cX4_isTaken 65 = .ok (.iinc 3 1, 3) := by decide +kernel
theorem dX4_isTaken_68 : decode cX4_isTaken 68 = .ok (.goto (-66), 3) := by decide +kernel
theorem dX4_isTaken_71 : decode cX4_isTaken 71 = .ok (.iconst 0, 1) := by decide +kernel
theorem dX4_isTaken_72 : decode cX4_isTaken 72 = .ok (.ireturn, 1) := by decide +kernel
set_option maxRecDepth 20000 in
theorem ggX4_row_X4_isUnit : GoodIn wsX4_row wsX4_isUnit := goodIn_r _ [7] (by decide +kernel) (by decide +kernel)
set_option maxRecDepth 20000 in
theorem gX4_row_X4_isUnit : GoodIn wsX4_row (va_wsS RX4 76 yX4_isUnit wsX4_isUnit) := goodIn_app (goodIn_of _ (by decide +kernel)) ggX4_row_X4_isUnit
set_option maxRecDepth 20000 in
theorem ggX4_row_X4_isCell : GoodIn wsX4_row wsX4_isCell := goodIn_r _ [10] (by decide +kernel) (by decide +kernel)
set_option maxRecDepth 20000 in
theorem gX4_row_X4_isCell : GoodIn wsX4_row (va_wsS RX4 79 yX4_isCell wsX4_isCell) := goodIn_app (goodIn_of _ (by decide +kernel)) ggX4_row_X4_isCell
set_option maxRecDepth 20000 in
theorem ggX4_row_X4_stateOf : GoodIn wsX4_row wsX4_stateOf := goodIn_ca (goodIn_r _ [14, 15, 16, 46, 47, 48, 49, 50, 51, 52, 53, 54, 55, 56, 57, 58, 59, 60, 61, 62, 63] (by decide +kernel) (by decide +kernel)) (goodIn_sub (fun _ h => List.mem_cons_of_mem _ (List.mem_append_right _ h)) (by decide +kernel))
set_option maxRecDepth 20000 in
theorem gX4_row_X4_stateOf : GoodIn wsX4_row (wsV RX4 58 RX4 yX4_stateOf wsX4_stateOf) := goodIn_app (goodIn_of _ (by decide +kernel)) ggX4_row_X4_stateOf
set_option maxRecDepth 20000 in
theorem ggX4_row_X4_isTaken : GoodIn wsX4_row wsX4_isTaken := goodIn_ca (goodIn_r _ [20, 2, 21, 22, 23, 24, 6, 25, 11, 12, 13, 14, 15, 16, 26, 27, 28, 29, 30, 46, 47, 48, 49, 50, 51, 52, 53, 54, 55, 56, 57, 58, 59, 60, 61, 62, 63] (by decide +kernel) (by decide +kernel)) (goodIn_sub (fun _ h => List.mem_cons_of_mem _ (List.mem_append_right _ h)) (by decide +kernel))
set_option maxRecDepth 20000 in
theorem gX4_row_X4_isTaken : GoodIn wsX4_row (wsV RX4 82 RX4 yX4_isTaken wsX4_isTaken) := goodIn_app (goodIn_of _ (by decide +kernel)) ggX4_row_X4_isTaken
set_option maxRecDepth 20000 in
theorem ggX4_row_X4_write : GoodIn wsX4_row wsX4_write := goodIn_ca (goodIn_r _ [34, 2, 16, 15, 21, 35, 36, 37, 30, 3, 38, 39, 40, 41, 42, 6, 43, 44, 45, 46, 47, 48, 49, 50, 51, 52, 53, 54, 55, 56, 57, 58, 59, 60, 61, 62, 63] (by decide +kernel) (by decide +kernel)) (goodIn_sub (fun _ h => List.mem_cons_of_mem _ (List.mem_append_right _ h)) (by decide +kernel))
set_option maxRecDepth 20000 in
theorem gX4_row_X4_write : GoodIn wsX4_row (wsV RX4 85 RX4 yX4_write wsX4_write) := goodIn_app (goodIn_of _ (by decide +kernel)) ggX4_row_X4_write
theorem dX4_row_0 : decode cX4_row 0 = .ok (.aload_n 0, 1) := by decide +kernel
theorem dX4_row_1 : decode cX4_row 1 = .ok (.iconst 0, 1) := by decide +kernel
theorem dX4_row_2 : decode cX4_row 2 = .ok (.putfield 52, 3) := by decide +kernel
theorem dX4_row_5 : decode cX4_row 5 = .ok (.iload_n 1, 1) := by decide +kernel
theorem dX4_row_6 : decode cX4_row 6 = .ok (.invokestatic 76, 3) := by decide +kernel
theorem dX4_row_9 : decode cX4_row 9 = .ok (.ifCond .eq 10, 3) := by decide +kernel
theorem dX4_row_12 : decode cX4_row 12 = .ok (.iload_n 2, 1) := by decide +kernel
theorem dX4_row_13 : decode cX4_row 13 = .ok (.invokestatic 79, 3) := by decide +kernel
theorem dX4_row_16 : decode cX4_row 16 = .ok (.ifCond .ne 6, 3) := by decide +kernel
theorem dX4_row_19 : decode cX4_row 19 = .ok (.bipush (-4), 2) := by decide +kernel
theorem dX4_row_21 : decode cX4_row 21 = .ok (.ireturn, 1) := by decide +kernel
theorem dX4_row_22 : decode cX4_row 22 = .ok (.aload_n 0, 1) := by decide +kernel
theorem dX4_row_23 : decode cX4_row 23 = .ok (.iload_n 1, 1) := by decide +kernel
theorem dX4_row_24 : decode cX4_row 24 = .ok (.aload_n 0, 1) := by decide +kernel
theorem dX4_row_25 : decode cX4_row 25 = .ok (.getfield 55, 3) := by decide +kernel
theorem dX4_row_28 : decode cX4_row 28 = .ok (.invokevirtual 58, 3) := by decide +kernel
theorem dX4_row_31 : decode cX4_row 31 = .ok (.iconst 1, 1) := by decide +kernel
theorem dX4_row_32 : decode cX4_row 32 = .ok (.if_icmp .le 6, 3) := by decide +kernel
theorem dX4_row_35 : decode cX4_row 35 = .ok (.bipush (-5), 2) := by decide +kernel
theorem dX4_row_37 : decode cX4_row 37 = .ok (.ireturn, 1) := by decide +kernel
theorem dX4_row_38 : decode cX4_row 38 = .ok (.aload_n 0, 1) := by decide +kernel
theorem dX4_row_39 : decode cX4_row 39 = .ok (.iload_n 2, 1) := by decide +kernel
theorem dX4_row_40 : decode cX4_row 40 = .ok (.iload_n 1, 1) := by decide +kernel
theorem dX4_row_41 : decode cX4_row 41 = .ok (.invokevirtual 82, 3) := by decide +kernel
theorem dX4_row_44 : decode cX4_row 44 = .ok (.ifCond .eq 6, 3) := by decide +kernel
theorem dX4_row_47 : decode cX4_row 47 = .ok (.bipush (-3), 2) := by decide +kernel
theorem dX4_row_49 : decode cX4_row 49 = .ok (.ireturn, 1) := by decide +kernel
theorem dX4_row_50 : decode cX4_row 50 = .ok (.aload_n 0, 1) := by decide +kernel
theorem dX4_row_51 : decode cX4_row 51 = .ok (.getfield 7, 3) := by decide +kernel
theorem dX4_row_54 : decode cX4_row 54 = .ok (.iload_n 2, 1) := by decide +kernel
theorem dX4_row_55 : decode cX4_row 55 = .ok (.laload, 1) := by decide +kernel
theorem dX4_row_56 : decode cX4_row 56 = .ok (.lload_n 3, 1) := by decide +kernel
theorem dX4_row_57 : decode cX4_row 57 = .ok (.lcmp, 1) := by decide +kernel
theorem dX4_row_58 : decode cX4_row 58 = .ok (.ifCond .eq 5, 3) := by decide +kernel
theorem dX4_row_61 : decode cX4_row 61 = .ok (.iconst 0, 1) := by decide +kernel
theorem dX4_row_62 : decode cX4_row 62 = .ok (.ireturn, 1) := by decide +kernel
theorem dX4_row_63 : decode cX4_row 63 = .ok (.aload_n 0, 1) := by decide +kernel
theorem dX4_row_64 : decode cX4_row 64 = .ok (.getfield 55, 3) := by decide +kernel
theorem dX4_row_67 : decode cX4_row 67 = .ok (.sipush 2000, 3) := by decide +kernel
theorem dX4_row_70 : decode cX4_row 70 = .ok (.if_icmp .ne 5, 3) := by decide +kernel
theorem dX4_row_73 : decode cX4_row 73 = .ok (.iconst (-1), 1) := by decide +kernel
theorem dX4_row_74 : decode cX4_row 74 = .ok (.ireturn, 1) := by decide +kernel
theorem dX4_row_75 : decode cX4_row 75 = .ok (.aload_n 0, 1) := by decide +kernel
theorem dX4_row_76 : decode cX4_row 76 = .ok (.iconst 0, 1) := by decide +kernel
theorem dX4_row_77 : decode cX4_row 77 = .ok (.iload_n 1, 1) := by decide +kernel
theorem dX4_row_78 : decode cX4_row 78 = .ok (.iload_n 2, 1) := by decide +kernel
theorem dX4_row_79 : decode cX4_row 79 = .ok (.lload_n 3, 1) := by decide +kernel
theorem dX4_row_80 : decode cX4_row 80 = .ok (.lload 5, 2) := by decide +kernel
theorem dX4_row_82 : decode cX4_row 82 = .ok (.iconst 0, 1) := by decide +kernel
theorem dX4_row_83 : decode cX4_row 83 = .ok (.invokevirtual 85, 3) := by decide +kernel
theorem dX4_row_86 : decode cX4_row 86 = .ok (.aload_n 0, 1) := by decide +kernel
theorem dX4_row_87 : decode cX4_row 87 = .ok (.getfield 55, 3) := by decide +kernel
theorem dX4_row_90 : decode cX4_row 90 = .ok (.ireturn, 1) := by decide +kernel
set_option maxRecDepth 20000 in
theorem ggX4_sync_X4_isUnit : GoodIn wsX4_sync wsX4_isUnit := goodIn_r _ [6] (by decide +kernel) (by decide +kernel)
set_option maxRecDepth 20000 in
theorem gX4_sync_X4_isUnit : GoodIn wsX4_sync (va_wsS RX4 76 yX4_isUnit wsX4_isUnit) := goodIn_app (goodIn_of _ (by decide +kernel)) ggX4_sync_X4_isUnit
set_option maxRecDepth 20000 in
theorem ggX4_sync_X4_isOpen : GoodIn wsX4_sync wsX4_isOpen := goodIn_ca (goodIn_r _ [10, 2, 11, 12, 13, 5, 14, 15, 16, 35, 36, 37, 38, 39, 40, 41, 42, 43, 44, 45, 46, 47, 48, 49, 50, 51, 52] (by decide +kernel) (by decide +kernel)) (goodIn_sub (fun _ h => List.mem_cons_of_mem _ (List.mem_append_right _ h)) (by decide +kernel))
set_option maxRecDepth 20000 in
theorem gX4_sync_X4_isOpen : GoodIn wsX4_sync (wsV RX4 72 RX4 yX4_isOpen wsX4_isOpen) := goodIn_app (goodIn_of _ (by decide +kernel)) ggX4_sync_X4_isOpen
set_option maxRecDepth 20000 in
theorem ggX4_sync_X4_write : GoodIn wsX4_sync wsX4_write := goodIn_ca (goodIn_r _ [20, 2, 16, 15, 21, 22, 23, 24, 25, 26, 27, 28, 29, 30, 31, 5, 32, 33, 34, 35, 36, 37, 38, 39, 40, 41, 42, 43, 44, 45, 46, 47, 48, 49, 50, 51, 52] (by decide +kernel) (by decide +kernel)) (goodIn_sub (fun _ h => List.mem_cons_of_mem _ (List.mem_append_right _ h)) (by decide +kernel))
set_option maxRecDepth 20000 in
theorem gX4_sync_X4_write : GoodIn wsX4_sync (wsV RX4 85 RX4 yX4_write wsX4_write) := goodIn_app (goodIn_of _ (by decide +kernel)) ggX4_sync_X4_write
theorem dX4_sync_0 : decode cX4_sync 0 = .ok (.aload_n 0, 1) := by decide +kernel
theorem dX4_sync_1 : decode cX4_sync 1 = .ok (.iconst 0, 1) := by decide +kernel
theorem dX4_sync_2 : decode cX4_sync 2 = .ok (.putfield 52, 3) := by decide +kernel
theorem dX4_sync_5 : decode cX4_sync 5 = .ok (.iload_n 1, 1) := by decide +kernel
theorem dX4_sync_6 : decode cX4_sync 6 = .ok (.invokestatic 76, 3) := by decide +kernel
theorem dX4_sync_9 : decode cX4_sync 9 = .ok (.ifCond .ne 6, 3) := by decide +kernel
theorem dX4_sync_12 : decode cX4_sync 12 = .ok (.bipush (-4), 2) := by decide +kernel
theorem dX4_sync_14 : decode cX4_sync 14 = .ok (.ireturn, 1) := by decide +kernel
theorem dX4_sync_15 : decode cX4_sync 15 = .ok (.aload_n 0, 1) := by decide +kernel
theorem dX4_sync_16 : decode cX4_sync 16 = .ok (.iload_n 1, 1) := by decide +kernel
theorem dX4_sync_17 : decode cX4_sync 17 = .ok (.invokevirtual 72, 3) := by decide +kernel
theorem dX4_sync_20 : decode cX4_sync 20 = .ok (.ifCond .ne 6, 3) := by decide +kernel
theorem dX4_sync_23 : decode cX4_sync 23 = .ok (.bipush (-5), 2) := by decide +kernel
theorem dX4_sync_25 : decode cX4_sync 25 = .ok (.ireturn, 1) := by decide +kernel
theorem dX4_sync_26 : decode cX4_sync 26 = .ok (.aload_n 0, 1) := by decide +kernel
theorem dX4_sync_27 : decode cX4_sync 27 = .ok (.getfield 55, 3) := by decide +kernel
theorem dX4_sync_30 : decode cX4_sync 30 = .ok (.sipush 2000, 3) := by decide +kernel
theorem dX4_sync_33 : decode cX4_sync 33 = .ok (.if_icmp .ne 5, 3) := by decide +kernel
theorem dX4_sync_36 : decode cX4_sync 36 = .ok (.iconst (-1), 1) := by decide +kernel
theorem dX4_sync_37 : decode cX4_sync 37 = .ok (.ireturn, 1) := by decide +kernel
theorem dX4_sync_38 : decode cX4_sync 38 = .ok (.aload_n 0, 1) := by decide +kernel
theorem dX4_sync_39 : decode cX4_sync 39 = .ok (.iconst 1, 1) := by decide +kernel
theorem dX4_sync_40 : decode cX4_sync 40 = .ok (.iload_n 1, 1) := by decide +kernel
theorem dX4_sync_41 : decode cX4_sync 41 = .ok (.iconst (-1), 1) := by decide +kernel
theorem dX4_sync_42 : decode cX4_sync 42 = .ok (.lconst 0, 1) := by decide +kernel
theorem dX4_sync_43 : decode cX4_sync 43 = .ok (.lconst 0, 1) := by decide +kernel
theorem dX4_sync_44 : decode cX4_sync 44 = .ok (.iconst 0, 1) := by decide +kernel
theorem dX4_sync_45 : decode cX4_sync 45 = .ok (.invokevirtual 85, 3) := by decide +kernel
theorem dX4_sync_48 : decode cX4_sync 48 = .ok (.aload_n 0, 1) := by decide +kernel
theorem dX4_sync_49 : decode cX4_sync 49 = .ok (.getfield 55, 3) := by decide +kernel
theorem dX4_sync_52 : decode cX4_sync 52 = .ok (.ireturn, 1) := by decide +kernel
set_option maxRecDepth 20000 in
theorem ggX4_takeBack_X4_isChange : GoodIn wsX4_takeBack wsX4_isChange := goodIn_ca (goodIn_r _ [9, 10, 11, 12, 27, 28, 29, 30, 31, 32, 33, 34, 35, 36, 37, 38, 39, 40, 41, 42, 43, 44] (by decide +kernel) (by decide +kernel)) (goodIn_sub (fun _ h => List.mem_cons_of_mem _ (List.mem_append_right _ h)) (by decide +kernel))
set_option maxRecDepth 20000 in
theorem gX4_takeBack_X4_isChange : GoodIn wsX4_takeBack (wsV RX4 62 RX4 yX4_isChange wsX4_isChange) := goodIn_app (goodIn_of _ (by decide +kernel)) ggX4_takeBack_X4_isChange
set_option maxRecDepth 20000 in
theorem ggX4_takeBack_X4_write : GoodIn wsX4_takeBack wsX4_write := goodIn_ca (goodIn_r _ [16, 1, 10, 11, 2, 4, 3, 17, 12, 18, 19, 20, 21, 22, 23, 8, 24, 25, 26, 27, 28, 29, 30, 31, 32, 33, 34, 35, 36, 37, 38, 39, 40, 41, 42, 43, 44] (by decide +kernel) (by decide +kernel)) (goodIn_sub (fun _ h => List.mem_cons_of_mem _ (List.mem_append_right _ h)) (by decide +kernel))
set_option maxRecDepth 20000 in
theorem gX4_takeBack_X4_write : GoodIn wsX4_takeBack (wsV RX4 85 RX4 yX4_write wsX4_write) := goodIn_app (goodIn_of _ (by decide +kernel)) ggX4_takeBack_X4_write
theorem dX4_takeBack_0 : decode cX4_takeBack 0 = .ok (.iconst 0, 1) := by decide +kernel
theorem dX4_takeBack_1 : decode cX4_takeBack 1 = .ok (.istore_n 2, 1) := by decide +kernel
theorem dX4_takeBack_2 : decode cX4_takeBack 2 = .ok (.aload_n 0, 1) := by decide +kernel
theorem dX4_takeBack_3 : decode cX4_takeBack 3 = .ok (.getfield 55, 3) := by decide +kernel
theorem dX4_takeBack_6 : decode cX4_takeBack 6 = .ok (.istore_n 3, 1) := by decide +kernel
theorem dX4_takeBack_7 : decode cX4_takeBack 7 = .ok (.iload_n 3, 1) := by decide +kernel
theorem dX4_takeBack_8 : decode cX4_takeBack 8 = .ok (.ifCond .le 49, 3) := by decide +kernel
theorem dX4_takeBack_11 : decode cX4_takeBack 11 = .ok (.aload_n 0, 1) := by decide +kernel
theorem dX4_takeBack_12 : decode cX4_takeBack 12 = .ok (.iload_n 3, 1) := by decide +kernel
theorem dX4_takeBack_13 : decode cX4_takeBack 13 = .ok (.iload_n 1, 1) := by decide +kernel
theorem dX4_takeBack_14 : decode cX4_takeBack 14 = .ok (.invokevirtual 62, 3) := by decide +kernel
theorem dX4_takeBack_17 : decode cX4_takeBack 17 = .ok (.ifCond .ne 6, 3) := by decide +kernel
theorem dX4_takeBack_20 : decode cX4_takeBack 20 = .ok (.goto 31, 3) := by decide +kernel
theorem dX4_takeBack_23 : decode cX4_takeBack 23 = .ok (.aload_n 0, 1) := by decide +kernel
theorem dX4_takeBack_24 : decode cX4_takeBack 24 = .ok (.iconst 0, 1) := by decide +kernel
theorem dX4_takeBack_25 : decode cX4_takeBack 25 = .ok (.iload_n 1, 1) := by decide +kernel
theorem dX4_takeBack_26 : decode cX4_takeBack 26 = .ok (.aload_n 0, 1) := by decide +kernel
theorem dX4_takeBack_27 : decode cX4_takeBack 27 = .ok (.getfield 20, 3) := by decide +kernel
theorem dX4_takeBack_30 : decode cX4_takeBack 30 = .ok (.iload_n 3, 1) := by decide +kernel
theorem dX4_takeBack_31 : decode cX4_takeBack 31 = .ok (.iaload, 1) := by decide +kernel
theorem dX4_takeBack_32 : decode cX4_takeBack 32 = .ok (.aload_n 0, 1) := by decide +kernel
theorem dX4_takeBack_33 : decode cX4_takeBack 33 = .ok (.getfield 29, 3) := by decide +kernel
theorem dX4_takeBack_36 : decode cX4_takeBack 36 = .ok (.iload_n 3, 1) := by decide +kernel
theorem dX4_takeBack_37 : decode cX4_takeBack 37 = .ok (.laload, 1) := by decide +kernel
theorem dX4_takeBack_38 : decode cX4_takeBack 38 = .ok (.aload_n 0, 1) := by decide +kernel
theorem dX4_takeBack_39 : decode cX4_takeBack 39 = .ok (.getfield 26, 3) := by decide +kernel
theorem dX4_takeBack_42 : decode cX4_takeBack 42 = .ok (.iload_n 3, 1) := by decide +kernel
theorem dX4_takeBack_43 : decode cX4_takeBack 43 = .ok (.laload, 1) := by decide +kernel
theorem dX4_takeBack_44 : decode cX4_takeBack 44 = .ok (.iconst 1, 1) := by decide +kernel
theorem dX4_takeBack_45 : decode cX4_takeBack 45 = .ok (.invokevirtual 85, 3) := by decide +kernel
theorem dX4_takeBack_48 : decode cX4_takeBack 48 = .ok (.iinc 2 1, 3) := by decide +kernel
theorem dX4_takeBack_51 : decode cX4_takeBack 51 = .ok (.iinc 3 (-1), 3) := by decide +kernel
theorem dX4_takeBack_54 : decode cX4_takeBack 54 = .ok (.goto (-47), 3) := by decide +kernel
theorem dX4_takeBack_57 : decode cX4_takeBack 57 = .ok (.aload_n 0, 1) := by decide +kernel
theorem dX4_takeBack_58 : decode cX4_takeBack 58 = .ok (.iconst 2, 1) := by decide +kernel
theorem dX4_takeBack_59 : decode cX4_takeBack 59 = .ok (.iload_n 1, 1) := by decide +kernel
theorem dX4_takeBack_60 : decode cX4_takeBack 60 = .ok (.iconst (-1), 1) := by decide +kernel
theorem dX4_takeBack_61 : decode cX4_takeBack 61 = .ok (.lconst 0, 1) := by decide +kernel
theorem dX4_takeBack_62 : decode cX4_takeBack 62 = .ok (.lconst 0, 1) := by decide +kernel
theorem dX4_takeBack_63 : decode cX4_takeBack 63 = .ok (.iconst 1, 1) := by decide +kernel
theorem dX4_takeBack_64 : decode cX4_takeBack 64 = .ok (.invokevirtual 85, 3) := by decide +kernel
theorem dX4_takeBack_67 : decode cX4_takeBack 67 = .ok (.iload_n 2, 1) := by decide +kernel
theorem dX4_takeBack_68 : decode cX4_takeBack 68 = .ok (.ireturn, 1) := by decide +kernel
set_option maxRecDepth 20000 in
theorem ggX4_backout_X4_isUnit : GoodIn wsX4_backout wsX4_isUnit := goodIn_r _ [6] (by decide +kernel) (by decide +kernel)
set_option maxRecDepth 20000 in
theorem gX4_backout_X4_isUnit : GoodIn wsX4_backout (va_wsS RX4 76 yX4_isUnit wsX4_isUnit) := goodIn_app (goodIn_of _ (by decide +kernel)) ggX4_backout_X4_isUnit
set_option maxRecDepth 20000 in
theorem ggX4_backout_X4_isOpen : GoodIn wsX4_backout wsX4_isOpen := goodIn_ca (goodIn_r _ [10, 2, 11, 12, 13, 5, 14, 15, 16, 51, 52, 53, 54, 55, 56, 57, 58, 59, 60, 61, 62, 63, 64, 65, 66, 67, 68] (by decide +kernel) (by decide +kernel)) (goodIn_sub (fun _ h => List.mem_cons_of_mem _ (List.mem_append_right _ h)) (by decide +kernel))
set_option maxRecDepth 20000 in
theorem gX4_backout_X4_isOpen : GoodIn wsX4_backout (wsV RX4 72 RX4 yX4_isOpen wsX4_isOpen) := goodIn_app (goodIn_of _ (by decide +kernel)) ggX4_backout_X4_isOpen
set_option maxRecDepth 20000 in
theorem ggX4_backout_X4_isChange : GoodIn wsX4_backout wsX4_isChange := goodIn_ca (goodIn_r _ [20, 16, 15, 21, 51, 52, 53, 54, 55, 56, 57, 58, 59, 60, 61, 62, 63, 64, 65, 66, 67, 68] (by decide +kernel) (by decide +kernel)) (goodIn_sub (fun _ h => List.mem_cons_of_mem _ (List.mem_append_right _ h)) (by decide +kernel))
set_option maxRecDepth 20000 in
theorem gX4_backout_X4_isChange : GoodIn wsX4_backout (wsV RX4 62 RX4 yX4_isChange wsX4_isChange) := goodIn_app (goodIn_of _ (by decide +kernel)) ggX4_backout_X4_isChange
set_option maxRecDepth 20000 in
theorem ggX4_backout_X4_isMissing : GoodIn wsX4_backout wsX4_isMissing := goodIn_ca (goodIn_r _ [25, 26, 51, 52, 53, 54, 55, 56, 57, 58, 59, 60, 61, 62, 63, 64, 65, 66, 67, 68] (by decide +kernel) (by decide +kernel)) (goodIn_sub (fun _ h => List.mem_cons_of_mem _ (List.mem_append_right _ h)) (by decide +kernel))
set_option maxRecDepth 20000 in
theorem gX4_backout_X4_isMissing : GoodIn wsX4_backout (wsV RX4 89 RX4 yX4_isMissing wsX4_isMissing) := goodIn_app (goodIn_of _ (by decide +kernel)) ggX4_backout_X4_isMissing
set_option maxRecDepth 20000 in
theorem ggX4_backout_X4_changes : GoodIn wsX4_backout wsX4_changes := goodIn_ca (goodIn_r _ [30, 17, 18, 19, 5, 20, 16, 15, 21, 51, 52, 53, 54, 55, 56, 57, 58, 59, 60, 61, 62, 63, 64, 65, 66, 67, 68] (by decide +kernel) (by decide +kernel)) (goodIn_sub (fun _ h => List.mem_cons_of_mem _ (List.mem_append_right _ h)) (by decide +kernel))
set_option maxRecDepth 20000 in
theorem gX4_backout_X4_changes : GoodIn wsX4_backout (wsV RX4 92 RX4 yX4_changes wsX4_changes) := goodIn_app (goodIn_of _ (by decide +kernel)) ggX4_backout_X4_changes
set_option maxRecDepth 20000 in
theorem ggX4_backout_X4_takeBack : GoodIn wsX4_backout wsX4_takeBack := goodIn_ca (goodIn_r _ [34, 2, 35, 36, 37, 17, 18, 19, 5, 20, 16, 15, 21, 38, 39, 40, 41, 26, 42, 43, 44, 45, 46, 47, 48, 49, 50, 51, 52, 53, 54, 55, 56, 57, 58, 59, 60, 61, 62, 63, 64, 65, 66, 67, 68] (by decide +kernel) (by decide +kernel)) (goodIn_sub (fun _ h => List.mem_cons_of_mem _ (List.mem_append_right _ h)) (by decide +kernel))
set_option maxRecDepth 20000 in
theorem gX4_backout_X4_takeBack : GoodIn wsX4_backout (wsV RX4 95 RX4 yX4_takeBack wsX4_takeBack) := goodIn_app (goodIn_of _ (by decide +kernel)) ggX4_backout_X4_takeBack
theorem dX4_backout_0 : decode cX4_backout 0 = .ok (.aload_n 0, 1) := by decide +kernel
theorem dX4_backout_1 : decode cX4_backout 1 = .ok (.iconst 0, 1) := by decide +kernel
theorem dX4_backout_2 : decode cX4_backout 2 = .ok (.putfield 52, 3) := by decide +kernel
theorem dX4_backout_5 : decode cX4_backout 5 = .ok (.iload_n 1, 1) := by decide +kernel
theorem dX4_backout_6 : decode cX4_backout 6 = .ok (.invokestatic 76, 3) := by decide +kernel
theorem dX4_backout_9 : decode cX4_backout 9 = .ok (.ifCond .ne 6, 3) := by decide +kernel
theorem dX4_backout_12 : decode cX4_backout 12 = .ok (.bipush (-4), 2) := by decide +kernel
theorem dX4_backout_14 : decode cX4_backout 14 = .ok (.ireturn, 1) := by decide +kernel
theorem dX4_backout_15 : decode cX4_backout 15 = .ok (.aload_n 0, 1) := by decide +kernel
theorem dX4_backout_16 : decode cX4_backout 16 = .ok (.iload_n 1, 1) := by decide +kernel
theorem dX4_backout_17 : decode cX4_backout 17 = .ok (.invokevirtual 72, 3) := by decide +kernel
theorem dX4_backout_20 : decode cX4_backout 20 = .ok (.ifCond .ne 5, 3) := by decide +kernel
theorem dX4_backout_23 : decode cX4_backout 23 = .ok (.iconst 0, 1) := by decide +kernel
theorem dX4_backout_24 : decode cX4_backout 24 = .ok (.ireturn, 1) := by decide +kernel
theorem dX4_backout_25 : decode cX4_backout 25 = .ok (.aload_n 0, 1) := by decide +kernel
theorem dX4_backout_26 : decode cX4_backout 26 = .ok (.getfield 55, 3) := by decide +kernel
theorem dX4_backout_29 : decode cX4_backout 29 = .ok (.istore_n 2, 1) := by decide +kernel
theorem dX4_backout_30 : decode cX4_backout 30 = .ok (.iload_n 2, 1) := by decide +kernel
theorem dX4_backout_31 : decode cX4_backout 31 = .ok (.ifCond .le 31, 3) := by decide +kernel
theorem dX4_backout_34 : decode cX4_backout 34 = .ok (.aload_n 0, 1) := by decide +kernel
theorem dX4_backout_35 : decode cX4_backout 35 = .ok (.iload_n 2, 1) := by decide +kernel
theorem dX4_backout_36 : decode cX4_backout 36 = .ok (.iload_n 1, 1) := by decide +kernel
theorem dX4_backout_37 : decode cX4_backout 37 = .ok (.invokevirtual 62, 3) := by decide +kernel
theorem dX4_backout_40 : decode cX4_backout 40 = .ok (.ifCond .eq 16, 3) := by decide +kernel
theorem dX4_backout_43 : decode cX4_backout 43 = .ok (.aload_n 0, 1) := by decide +kernel
theorem dX4_backout_44 : decode cX4_backout 44 = .ok (.iload_n 2, 1) := by decide +kernel
theorem dX4_backout_45 : decode cX4_backout 45 = .ok (.invokevirtual 89, 3) := by decide +kernel
theorem dX4_backout_48 : decode cX4_backout 48 = .ok (.ifCond .eq 8, 3) := by decide +kernel
theorem dX4_backout_51 : decode cX4_backout 51 = .ok (.bipush (-10), 2) := by decide +kernel
theorem dX4_backout_53 : decode cX4_backout 53 = .ok (.iload_n 2, 1) := by decide +kernel
theorem dX4_backout_54 : decode cX4_backout 54 = .ok (.isub, 1) := by decide +kernel
theorem dX4_backout_55 : decode cX4_backout 55 = .ok (.ireturn, 1) := by decide +kernel
theorem dX4_backout_56 : decode cX4_backout 56 = .ok (.iinc 2 (-1), 3) := by decide +kernel
theorem dX4_backout_59 : decode cX4_backout 59 = .ok (.goto (-29), 3) := by decide +kernel
theorem dX4_backout_62 : decode cX4_backout 62 = .ok (.aload_n 0, 1) := by decide +kernel
theorem dX4_backout_63 : decode cX4_backout 63 = .ok (.getfield 55, 3) := by decide +kernel
theorem dX4_backout_66 : decode cX4_backout 66 = .ok (.aload_n 0, 1) := by decide +kernel
theorem dX4_backout_67 : decode cX4_backout 67 = .ok (.iload_n 1, 1) := by decide +kernel
theorem dX4_backout_68 : decode cX4_backout 68 = .ok (.aload_n 0, 1) := by decide +kernel
theorem dX4_backout_69 : decode cX4_backout 69 = .ok (.getfield 55, 3) := by decide +kernel
theorem dX4_backout_72 : decode cX4_backout 72 = .ok (.invokevirtual 92, 3) := by decide +kernel
theorem dX4_backout_75 : decode cX4_backout 75 = .ok (.iadd, 1) := by decide +kernel
theorem dX4_backout_76 : decode cX4_backout 76 = .ok (.iconst 1, 1) := by decide +kernel
theorem dX4_backout_77 : decode cX4_backout 77 = .ok (.iadd, 1) := by decide +kernel
theorem dX4_backout_78 : decode cX4_backout 78 = .ok (.sipush 2000, 3) := by decide +kernel
theorem dX4_backout_81 : decode cX4_backout 81 = .ok (.if_icmp .le 5, 3) := by decide +kernel
theorem dX4_backout_84 : decode cX4_backout 84 = .ok (.iconst (-1), 1) := by decide +kernel
theorem dX4_backout_85 : decode cX4_backout 85 = .ok (.ireturn, 1) := by decide +kernel
theorem dX4_backout_86 : decode cX4_backout 86 = .ok (.aload_n 0, 1) := by decide +kernel
theorem dX4_backout_87 : decode cX4_backout 87 = .ok (.iload_n 1, 1) := by decide +kernel
theorem dX4_backout_88 : decode cX4_backout 88 = .ok (.invokevirtual 95, 3) := by decide +kernel
theorem dX4_backout_91 : decode cX4_backout 91 = .ok (.ireturn, 1) := by decide +kernel
set_option maxRecDepth 20000 in
theorem ggX4_copy_X4_finish : GoodIn wsX4_copy wsX4_finish := goodIn_ca (goodIn_r _ [14, 9, 3, 4, 7, 6, 15, 16, 17, 18, 19, 20, 21, 22, 23, 24, 25, 26, 27, 28, 29, 30, 31, 32] (by decide +kernel) (by decide +kernel)) (goodIn_sub (fun _ h => List.mem_cons_of_mem _ (List.mem_append_right _ h)) (by decide +kernel))
set_option maxRecDepth 20000 in
theorem gX4_copy_X4_finish : GoodIn wsX4_copy (wsV RX4 69 RX4 yX4_finish wsX4_finish) := goodIn_app (goodIn_of _ (by decide +kernel)) ggX4_copy_X4_finish
theorem dX4_copy_0 : decode cX4_copy 0 = .ok (.aload_n 0, 1) := by decide +kernel
theorem dX4_copy_1 : decode cX4_copy 1 = .ok (.iconst 0, 1) := by decide +kernel
theorem dX4_copy_2 : decode cX4_copy 2 = .ok (.putfield 52, 3) := by decide +kernel
theorem dX4_copy_5 : decode cX4_copy 5 = .ok (.aload_n 0, 1) := by decide +kernel
theorem dX4_copy_6 : decode cX4_copy 6 = .ok (.invokevirtual 69, 3) := by decide +kernel
theorem dX4_copy_9 : decode cX4_copy 9 = .ok (.aload_n 0, 1) := by decide +kernel
theorem dX4_copy_10 : decode cX4_copy 10 = .ok (.getfield 99, 3) := by decide +kernel
theorem dX4_copy_13 : decode cX4_copy 13 = .ok (.bipush 20, 2) := by decide +kernel
theorem dX4_copy_15 : decode cX4_copy 15 = .ok (.if_icmp .ne 5, 3) := by decide +kernel
theorem dX4_copy_18 : decode cX4_copy 18 = .ok (.iconst (-1), 1) := by decide +kernel
theorem dX4_copy_19 : decode cX4_copy 19 = .ok (.ireturn, 1) := by decide +kernel
theorem dX4_copy_20 : decode cX4_copy 20 = .ok (.aload_n 0, 1) := by decide +kernel
theorem dX4_copy_21 : decode cX4_copy 21 = .ok (.dup, 1) := by decide +kernel
theorem dX4_copy_22 : decode cX4_copy 22 = .ok (.getfield 99, 3) := by decide +kernel
theorem dX4_copy_25 : decode cX4_copy 25 = .ok (.iconst 1, 1) := by decide +kernel
theorem dX4_copy_26 : decode cX4_copy 26 = .ok (.iadd, 1) := by decide +kernel
theorem dX4_copy_27 : decode cX4_copy 27 = .ok (.putfield 99, 3) := by decide +kernel
theorem dX4_copy_30 : decode cX4_copy 30 = .ok (.iconst 0, 1) := by decide +kernel
theorem dX4_copy_31 : decode cX4_copy 31 = .ok (.istore_n 2, 1) := by decide +kernel
theorem dX4_copy_32 : decode cX4_copy 32 = .ok (.iload_n 2, 1) := by decide +kernel
theorem dX4_copy_33 : decode cX4_copy 33 = .ok (.bipush 32, 2) := by decide +kernel
theorem dX4_copy_35 : decode cX4_copy 35 = .ok (.if_icmp .ge 29, 3) := by decide +kernel
theorem dX4_copy_38 : decode cX4_copy 38 = .ok (.aload_n 0, 1) := by decide +kernel
theorem dX4_copy_39 : decode cX4_copy 39 = .ok (.getfield 36, 3) := by decide +kernel
theorem dX4_copy_42 : decode cX4_copy 42 = .ok (.bipush 32, 2) := by decide +kernel
theorem dX4_copy_44 : decode cX4_copy 44 = .ok (.aload_n 0, 1) := by decide +kernel
theorem dX4_copy_45 : decode cX4_copy 45 = .ok (.getfield 99, 3) := by decide +kernel
theorem dX4_copy_48 : decode cX4_copy 48 = .ok (.imul, 1) := by decide +kernel
theorem dX4_copy_49 : decode cX4_copy 49 = .ok (.iload_n 2, 1) := by decide +kernel
theorem dX4_copy_50 : decode cX4_copy 50 = .ok (.iadd, 1) := by decide +kernel
theorem dX4_copy_51 : decode cX4_copy 51 = .ok (.aload_n 0, 1) := by decide +kernel
theorem dX4_copy_52 : decode cX4_copy 52 = .ok (.getfield 7, 3) := by decide +kernel
theorem dX4_copy_55 : decode cX4_copy 55 = .ok (.iload_n 2, 1) := by decide +kernel
theorem dX4_copy_56 : decode cX4_copy 56 = .ok (.laload, 1) := by decide +kernel
theorem dX4_copy_57 : decode cX4_copy 57 = .ok (.lastore, 1) := by decide +kernel
theorem dX4_copy_58 : decode cX4_copy 58 = .ok (.iinc 2 1, 3) := by decide +kernel
theorem dX4_copy_61 : decode cX4_copy 61 = .ok (.goto (-29), 3) := by decide +kernel
theorem dX4_copy_64 : decode cX4_copy 64 = .ok (.aload_n 0, 1) := by decide +kernel
theorem dX4_copy_65 : decode cX4_copy 65 = .ok (.getfield 39, 3) := by decide +kernel
theorem dX4_copy_68 : decode cX4_copy 68 = .ok (.aload_n 0, 1) := by decide +kernel
theorem dX4_copy_69 : decode cX4_copy 69 = .ok (.getfield 99, 3) := by decide +kernel
theorem dX4_copy_72 : decode cX4_copy 72 = .ok (.aload_n 0, 1) := by decide +kernel
theorem dX4_copy_73 : decode cX4_copy 73 = .ok (.getfield 55, 3) := by decide +kernel
theorem dX4_copy_76 : decode cX4_copy 76 = .ok (.iastore, 1) := by decide +kernel
theorem dX4_copy_77 : decode cX4_copy 77 = .ok (.aload_n 0, 1) := by decide +kernel
theorem dX4_copy_78 : decode cX4_copy 78 = .ok (.getfield 42, 3) := by decide +kernel
theorem dX4_copy_81 : decode cX4_copy 81 = .ok (.aload_n 0, 1) := by decide +kernel
theorem dX4_copy_82 : decode cX4_copy 82 = .ok (.getfield 99, 3) := by decide +kernel
theorem dX4_copy_85 : decode cX4_copy 85 = .ok (.aload_n 0, 1) := by decide +kernel
theorem dX4_copy_86 : decode cX4_copy 86 = .ok (.getfield 55, 3) := by decide +kernel
theorem dX4_copy_89 : decode cX4_copy 89 = .ok (.iastore, 1) := by decide +kernel
theorem dX4_copy_90 : decode cX4_copy 90 = .ok (.aload_n 0, 1) := by decide +kernel
theorem dX4_copy_91 : decode cX4_copy 91 = .ok (.getfield 45, 3) := by decide +kernel
theorem dX4_copy_94 : decode cX4_copy 94 = .ok (.aload_n 0, 1) := by decide +kernel
theorem dX4_copy_95 : decode cX4_copy 95 = .ok (.getfield 99, 3) := by decide +kernel
theorem dX4_copy_98 : decode cX4_copy 98 = .ok (.iconst 0, 1) := by decide +kernel
theorem dX4_copy_99 : decode cX4_copy 99 = .ok (.bastore, 1) := by decide +kernel
theorem dX4_copy_100 : decode cX4_copy 100 = .ok (.aload_n 0, 1) := by decide +kernel
theorem dX4_copy_101 : decode cX4_copy 101 = .ok (.iload_n 1, 1) := by decide +kernel
theorem dX4_copy_102 : decode cX4_copy 102 = .ok (.ifCond .eq 10, 3) := by decide +kernel
theorem dX4_copy_105 : decode cX4_copy 105 = .ok (.aload_n 0, 1) := by decide +kernel
theorem dX4_copy_106 : decode cX4_copy 106 = .ok (.getfield 99, 3) := by decide +kernel
theorem dX4_copy_109 : decode cX4_copy 109 = .ok (.goto 4, 3) := by decide +kernel
theorem dX4_copy_112 : decode cX4_copy 112 = .ok (.iconst 0, 1) := by decide +kernel
theorem dX4_copy_113 : decode cX4_copy 113 = .ok (.putfield 66, 3) := by decide +kernel
theorem dX4_copy_116 : decode cX4_copy 116 = .ok (.aload_n 0, 1) := by decide +kernel
theorem dX4_copy_117 : decode cX4_copy 117 = .ok (.getfield 99, 3) := by decide +kernel
theorem dX4_copy_120 : decode cX4_copy 120 = .ok (.ireturn, 1) := by decide +kernel
set_option maxRecDepth 20000 in
theorem ggX4_lacking_X4_isMissing : GoodIn wsX4_lacking wsX4_isMissing := goodIn_ca (goodIn_r _ [9, 10, 15, 16, 17, 18, 19, 20, 21, 22, 23, 24, 25, 26, 27, 28, 29, 30, 31, 32] (by decide +kernel) (by decide +kernel)) (goodIn_sub (fun _ h => List.mem_cons_of_mem _ (List.mem_append_right _ h)) (by decide +kernel))
set_option maxRecDepth 20000 in
theorem gX4_lacking_X4_isMissing : GoodIn wsX4_lacking (wsV RX4 89 RX4 yX4_isMissing wsX4_isMissing) := goodIn_app (goodIn_of _ (by decide +kernel)) ggX4_lacking_X4_isMissing
set_option maxRecDepth 20000 in
theorem ggX4_lacking_X4_stateOf : GoodIn wsX4_lacking wsX4_stateOf := goodIn_ca (goodIn_r _ [14, 4, 2, 15, 16, 17, 18, 19, 20, 21, 22, 23, 24, 25, 26, 27, 28, 29, 30, 31, 32] (by decide +kernel) (by decide +kernel)) (goodIn_sub (fun _ h => List.mem_cons_of_mem _ (List.mem_append_right _ h)) (by decide +kernel))
set_option maxRecDepth 20000 in
theorem gX4_lacking_X4_stateOf : GoodIn wsX4_lacking (wsV RX4 58 RX4 yX4_stateOf wsX4_stateOf) := goodIn_app (goodIn_of _ (by decide +kernel)) ggX4_lacking_X4_stateOf
theorem dX4_lacking_0 : decode cX4_lacking 0 = .ok (.iconst 1, 1) := by decide +kernel
theorem dX4_lacking_1 : decode cX4_lacking 1 = .ok (.istore_n 3, 1) := by decide +kernel
theorem dX4_lacking_2 : decode cX4_lacking 2 = .ok (.iload_n 3, 1) := by decide +kernel
theorem dX4_lacking_3 : decode cX4_lacking 3 = .ok (.iload_n 2, 1) := by decide +kernel
theorem dX4_lacking_4 : decode cX4_lacking 4 = .ok (.if_icmp .gt 77, 3) := by decide +kernel
theorem dX4_lacking_7 : decode cX4_lacking 7 = .ok (.aload_n 0, 1) := by decide +kernel
theorem dX4_lacking_8 : decode cX4_lacking 8 = .ok (.iload_n 3, 1) := by decide +kernel
theorem dX4_lacking_9 : decode cX4_lacking 9 = .ok (.invokevirtual 89, 3) := by decide +kernel
theorem dX4_lacking_12 : decode cX4_lacking 12 = .ok (.ifCond .ne 6, 3) := by decide +kernel
theorem dX4_lacking_15 : decode cX4_lacking 15 = .ok (.goto 60, 3) := by decide +kernel
theorem dX4_lacking_18 : decode cX4_lacking 18 = .ok (.iload_n 3, 1) := by decide +kernel
theorem dX4_lacking_19 : decode cX4_lacking 19 = .ok (.aload_n 0, 1) := by decide +kernel
theorem dX4_lacking_20 : decode cX4_lacking 20 = .ok (.getfield 39, 3) := by decide +kernel
theorem dX4_lacking_23 : decode cX4_lacking 23 = .ok (.iload_n 1, 1) := by decide +kernel
theorem dX4_lacking_24 : decode cX4_lacking 24 = .ok (.iaload, 1) := by decide +kernel
theorem dX4_lacking_25 : decode cX4_lacking 25 = .ok (.if_icmp .gt 36, 3) := by decide +kernel
theorem dX4_lacking_28 : decode cX4_lacking 28 = .ok (.aload_n 0, 1) := by decide +kernel
theorem dX4_lacking_29 : decode cX4_lacking 29 = .ok (.getfield 13, 3) := by decide +kernel
theorem dX4_lacking_32 : decode cX4_lacking 32 = .ok (.iload_n 3, 1) := by decide +kernel
theorem dX4_lacking_33 : decode cX4_lacking 33 = .ok (.iaload, 1) := by decide +kernel
theorem dX4_lacking_34 : decode cX4_lacking 34 = .ok (.ifCond .ne 31, 3) := by decide +kernel
theorem dX4_lacking_37 : decode cX4_lacking 37 = .ok (.aload_n 0, 1) := by decide +kernel
theorem dX4_lacking_38 : decode cX4_lacking 38 = .ok (.getfield 32, 3) := by decide +kernel
theorem dX4_lacking_41 : decode cX4_lacking 41 = .ok (.iload_n 3, 1) := by decide +kernel
theorem dX4_lacking_42 : decode cX4_lacking 42 = .ok (.baload, 1) := by decide +kernel
theorem dX4_lacking_43 : decode cX4_lacking 43 = .ok (.ifCond .ne 22, 3) := by decide +kernel
theorem dX4_lacking_46 : decode cX4_lacking 46 = .ok (.aload_n 0, 1) := by decide +kernel
theorem dX4_lacking_47 : decode cX4_lacking 47 = .ok (.aload_n 0, 1) := by decide +kernel
theorem dX4_lacking_48 : decode cX4_lacking 48 = .ok (.getfield 17, 3) := by decide +kernel
theorem dX4_lacking_51 : decode cX4_lacking 51 = .ok (.iload_n 3, 1) := by decide +kernel
theorem dX4_lacking_52 : decode cX4_lacking 52 = .ok (.iaload, 1) := by decide +kernel
theorem dX4_lacking_53 : decode cX4_lacking 53 = .ok (.iload_n 2, 1) := by decide +kernel
theorem dX4_lacking_54 : decode cX4_lacking 54 = .ok (.invokevirtual 58, 3) := by decide +kernel
theorem dX4_lacking_57 : decode cX4_lacking 57 = .ok (.iconst 1, 1) := by decide +kernel
theorem dX4_lacking_58 : decode cX4_lacking 58 = .ok (.if_icmp .ne 7, 3) := by decide +kernel
theorem dX4_lacking_61 : decode cX4_lacking 61 = .ok (.iconst 1, 1) := by decide +kernel
theorem dX4_lacking_62 : decode cX4_lacking 62 = .ok (.goto 4, 3) := by decide +kernel
theorem dX4_lacking_65 : decode cX4_lacking 65 = .ok (.iconst 0, 1) := by decide +kernel
theorem dX4_lacking_66 : decode cX4_lacking 66 = .ok (.istore 4, 2) := by decide +kernel
theorem dX4_lacking_68 : decode cX4_lacking 68 = .ok (.iload 4, 2) := by decide +kernel
theorem dX4_lacking_70 : decode cX4_lacking 70 = .ok (.ifCond .eq 5, 3) := by decide +kernel
theorem dX4_lacking_73 : decode cX4_lacking 73 = .ok (.iload_n 3, 1) := by decide +kernel
theorem dX4_lacking_74 : decode cX4_lacking 74 = .ok (.ireturn, 1) := by decide +kernel
theorem dX4_lacking_75 : decode cX4_lacking 75 = .ok (.iinc 3 1, 3) := by decide +kernel
theorem dX4_lacking_78 : decode cX4_lacking 78 = .ok (.goto (-76), 3) := by decide +kernel
theorem dX4_lacking_81 : decode cX4_lacking 81 = .ok (.iconst 0, 1) := by decide +kernel
theorem dX4_lacking_82 : decode cX4_lacking 82 = .ok (.ireturn, 1) := by decide +kernel
set_option maxRecDepth 20000 in
theorem ggX4_recover_X4_finish : GoodIn wsX4_recover wsX4_finish := goodIn_ca (goodIn_r _ [17, 18, 7, 6, 5, 4, 55, 56, 57, 58, 59, 60, 61, 62, 63, 64, 65, 66, 67, 68, 69, 70, 71, 72] (by decide +kernel) (by decide +kernel)) (goodIn_sub (fun _ h => List.mem_cons_of_mem _ (List.mem_append_right _ h)) (by decide +kernel))
set_option maxRecDepth 20000 in
theorem gX4_recover_X4_finish : GoodIn wsX4_recover (wsV RX4 69 RX4 yX4_finish wsX4_finish) := goodIn_app (goodIn_of _ (by decide +kernel)) ggX4_recover_X4_finish
set_option maxRecDepth 20000 in
theorem ggX4_recover_X4_lacking : GoodIn wsX4_recover wsX4_lacking := goodIn_ca (goodIn_r _ [22, 8, 9, 23, 24, 25, 26, 27, 16, 28, 29, 30, 31, 32, 33, 55, 56, 57, 58, 59, 60, 61, 62, 63, 64, 65, 66, 67, 68, 69, 70, 71, 72] (by decide +kernel) (by decide +kernel)) (goodIn_sub (fun _ h => List.mem_cons_of_mem _ (List.mem_append_right _ h)) (by decide +kernel))
set_option maxRecDepth 20000 in
theorem gX4_recover_X4_lacking : GoodIn wsX4_recover (wsV RX4 102 RX4 yX4_lacking wsX4_lacking) := goodIn_app (goodIn_of _ (by decide +kernel)) ggX4_recover_X4_lacking
set_option maxRecDepth 20000 in
theorem ggX4_recover_X4_stateOf : GoodIn wsX4_recover wsX4_stateOf := goodIn_ca (goodIn_r _ [33, 24, 9, 55, 56, 57, 58, 59, 60, 61, 62, 63, 64, 65, 66, 67, 68, 69, 70, 71, 72] (by decide +kernel) (by decide +kernel)) (goodIn_sub (fun _ h => List.mem_cons_of_mem _ (List.mem_append_right _ h)) (by decide +kernel))
set_option maxRecDepth 20000 in
theorem gX4_recover_X4_stateOf : GoodIn wsX4_recover (wsV RX4 58 RX4 yX4_stateOf wsX4_stateOf) := goodIn_app (goodIn_of _ (by decide +kernel)) ggX4_recover_X4_stateOf
set_option maxRecDepth 20000 in
theorem ggX4_recover_X4_changes : GoodIn wsX4_recover wsX4_changes := goodIn_ca (goodIn_r _ [37, 38, 39, 40, 16, 41, 9, 24, 23, 55, 56, 57, 58, 59, 60, 61, 62, 63, 64, 65, 66, 67, 68, 69, 70, 71, 72] (by decide +kernel) (by decide +kernel)) (goodIn_sub (fun _ h => List.mem_cons_of_mem _ (List.mem_append_right _ h)) (by decide +kernel))
set_option maxRecDepth 20000 in
theorem gX4_recover_X4_changes : GoodIn wsX4_recover (wsV RX4 92 RX4 yX4_changes wsX4_changes) := goodIn_app (goodIn_of _ (by decide +kernel)) ggX4_recover_X4_changes
set_option maxRecDepth 20000 in
theorem ggX4_recover_X4_takeBack : GoodIn wsX4_recover wsX4_takeBack := goodIn_ca (goodIn_r _ [45, 4, 10, 11, 46, 38, 39, 40, 16, 41, 9, 24, 23, 47, 48, 49, 50, 29, 6, 18, 8, 13, 14, 15, 17, 7, 5, 55, 56, 57, 58, 59, 60, 61, 62, 63, 64, 65, 66, 67, 68, 69, 70, 71, 72] (by decide +kernel) (by decide +kernel)) (goodIn_sub (fun _ h => List.mem_cons_of_mem _ (List.mem_append_right _ h)) (by decide +kernel))
set_option maxRecDepth 20000 in
theorem gX4_recover_X4_takeBack : GoodIn wsX4_recover (wsV RX4 95 RX4 yX4_takeBack wsX4_takeBack) := goodIn_app (goodIn_of _ (by decide +kernel)) ggX4_recover_X4_takeBack
set_option maxRecDepth 20000 in
theorem ggX4_recover_X4_synced : GoodIn wsX4_recover wsX4_synced := goodIn_ca (goodIn_r _ [54, 4, 9, 55, 56, 57, 58, 59, 60, 61, 62, 63, 64, 65, 66, 67, 68, 69, 70, 71, 72] (by decide +kernel) (by decide +kernel)) (goodIn_sub (fun _ h => List.mem_cons_of_mem _ (List.mem_append_right _ h)) (by decide +kernel))
set_option maxRecDepth 20000 in
theorem gX4_recover_X4_synced : GoodIn wsX4_recover (wsV RX4 108 RX4 yX4_synced wsX4_synced) := goodIn_app (goodIn_of _ (by decide +kernel)) ggX4_recover_X4_synced
theorem dX4_recover_0 : decode cX4_recover 0 = .ok (.aload_n 0, 1) := by decide +kernel
theorem dX4_recover_1 : decode cX4_recover 1 = .ok (.iconst 0, 1) := by decide +kernel
theorem dX4_recover_2 : decode cX4_recover 2 = .ok (.putfield 52, 3) := by decide +kernel
theorem dX4_recover_5 : decode cX4_recover 5 = .ok (.aload_n 0, 1) := by decide +kernel
theorem dX4_recover_6 : decode cX4_recover 6 = .ok (.invokevirtual 69, 3) := by decide +kernel
theorem dX4_recover_9 : decode cX4_recover 9 = .ok (.iload_n 1, 1) := by decide +kernel
theorem dX4_recover_10 : decode cX4_recover 10 = .ok (.iconst 1, 1) := by decide +kernel
theorem dX4_recover_11 : decode cX4_recover 11 = .ok (.if_icmp .lt 20, 3) := by decide +kernel
theorem dX4_recover_14 : decode cX4_recover 14 = .ok (.iload_n 1, 1) := by decide +kernel
theorem dX4_recover_15 : decode cX4_recover 15 = .ok (.aload_n 0, 1) := by decide +kernel
theorem dX4_recover_16 : decode cX4_recover 16 = .ok (.getfield 99, 3) := by decide +kernel
theorem dX4_recover_19 : decode cX4_recover 19 = .ok (.if_icmp .gt 12, 3) := by decide +kernel
theorem dX4_recover_22 : decode cX4_recover 22 = .ok (.aload_n 0, 1) := by decide +kernel
theorem dX4_recover_23 : decode cX4_recover 23 = .ok (.getfield 45, 3) := by decide +kernel
theorem dX4_recover_26 : decode cX4_recover 26 = .ok (.iload_n 1, 1) := by decide +kernel
theorem dX4_recover_27 : decode cX4_recover 27 = .ok (.baload, 1) := by decide +kernel
theorem dX4_recover_28 : decode cX4_recover 28 = .ok (.ifCond .eq 6, 3) := by decide +kernel
theorem dX4_recover_31 : decode cX4_recover 31 = .ok (.bipush (-2), 2) := by decide +kernel
theorem dX4_recover_33 : decode cX4_recover 33 = .ok (.ireturn, 1) := by decide +kernel
theorem dX4_recover_34 : decode cX4_recover 34 = .ok (.lload_n 2, 1) := by decide +kernel
theorem dX4_recover_35 : decode cX4_recover 35 = .ok (.aload_n 0, 1) := by decide +kernel
theorem dX4_recover_36 : decode cX4_recover 36 = .ok (.getfield 55, 3) := by decide +kernel
theorem dX4_recover_39 : decode cX4_recover 39 = .ok (.i2l, 1) := by decide +kernel
theorem dX4_recover_40 : decode cX4_recover 40 = .ok (.lcmp, 1) := by decide +kernel
theorem dX4_recover_41 : decode cX4_recover 41 = .ok (.ifCond .gt 15, 3) := by decide +kernel
theorem dX4_recover_44 : decode cX4_recover 44 = .ok (.lload_n 2, 1) := by decide +kernel
theorem dX4_recover_45 : decode cX4_recover 45 = .ok (.aload_n 0, 1) := by decide +kernel
theorem dX4_recover_46 : decode cX4_recover 46 = .ok (.getfield 42, 3) := by decide +kernel
theorem dX4_recover_49 : decode cX4_recover 49 = .ok (.iload_n 1, 1) := by decide +kernel
theorem dX4_recover_50 : decode cX4_recover 50 = .ok (.iaload, 1) := by decide +kernel
theorem dX4_recover_51 : decode cX4_recover 51 = .ok (.i2l, 1) := by decide +kernel
theorem dX4_recover_52 : decode cX4_recover 52 = .ok (.lcmp, 1) := by decide +kernel
theorem dX4_recover_53 : decode cX4_recover 53 = .ok (.ifCond .ge 6, 3) := by decide +kernel
theorem dX4_recover_56 : decode cX4_recover 56 = .ok (.bipush (-4), 2) := by decide +kernel
theorem dX4_recover_58 : decode cX4_recover 58 = .ok (.ireturn, 1) := by decide +kernel
theorem dX4_recover_59 : decode cX4_recover 59 = .ok (.lload_n 2, 1) := by decide +kernel
theorem dX4_recover_60 : decode cX4_recover 60 = .ok (.l2i, 1) := by decide +kernel
theorem dX4_recover_61 : decode cX4_recover 61 = .ok (.istore 4, 2) := by decide +kernel
theorem dX4_recover_63 : decode cX4_recover 63 = .ok (.aload_n 0, 1) := by decide +kernel
theorem dX4_recover_64 : decode cX4_recover 64 = .ok (.iload_n 1, 1) := by decide +kernel
theorem dX4_recover_65 : decode cX4_recover 65 = .ok (.iload 4, 2) := by decide +kernel
theorem dX4_recover_67 : decode cX4_recover 67 = .ok (.invokevirtual 102, 3) := by decide +kernel
theorem dX4_recover_70 : decode cX4_recover 70 = .ok (.istore 5, 2) := by decide +kernel
theorem dX4_recover_72 : decode cX4_recover 72 = .ok (.iload 5, 2) := by decide +kernel
theorem dX4_recover_74 : decode cX4_recover 74 = .ok (.ifCond .le 9, 3) := by decide +kernel
theorem dX4_recover_77 : decode cX4_recover 77 = .ok (.bipush (-10), 2) := by decide +kernel
theorem dX4_recover_79 : decode cX4_recover 79 = .ok (.iload 5, 2) := by decide +kernel
theorem dX4_recover_81 : decode cX4_recover 81 = .ok (.isub, 1) := by decide +kernel
theorem dX4_recover_82 : decode cX4_recover 82 = .ok (.ireturn, 1) := by decide +kernel
theorem dX4_recover_83 : decode cX4_recover 83 = .ok (.iconst 0, 1) := by decide +kernel
theorem dX4_recover_84 : decode cX4_recover 84 = .ok (.istore 6, 2) := by decide +kernel
theorem dX4_recover_86 : decode cX4_recover 86 = .ok (.iconst 1, 1) := by decide +kernel
theorem dX4_recover_87 : decode cX4_recover 87 = .ok (.istore 7, 2) := by decide +kernel
theorem dX4_recover_89 : decode cX4_recover 89 = .ok (.iload 7, 2) := by decide +kernel
theorem dX4_recover_91 : decode cX4_recover 91 = .ok (.bipush 60, 2) := by decide +kernel
theorem dX4_recover_93 : decode cX4_recover 93 = .ok (.if_icmp .gt 40, 3) := by decide +kernel
theorem dX4_recover_96 : decode cX4_recover 96 = .ok (.iload 6, 2) := by decide +kernel
theorem dX4_recover_98 : decode cX4_recover 98 = .ok (.aload_n 0, 1) := by decide +kernel
theorem dX4_recover_99 : decode cX4_recover 99 = .ok (.iload 7, 2) := by decide +kernel
theorem dX4_recover_101 : decode cX4_recover 101 = .ok (.iload 4, 2) := by decide +kernel
theorem dX4_recover_103 : decode cX4_recover 103 = .ok (.invokevirtual 58, 3) := by decide +kernel
theorem dX4_recover_106 : decode cX4_recover 106 = .ok (.iconst 1, 1) := by decide +kernel
theorem dX4_recover_107 : decode cX4_recover 107 = .ok (.if_icmp .ne 16, 3) := by decide +kernel
theorem dX4_recover_110 : decode cX4_recover 110 = .ok (.aload_n 0, 1) := by decide +kernel
theorem dX4_recover_111 : decode cX4_recover 111 = .ok (.iload 7, 2) := by decide +kernel
theorem dX4_recover_113 : decode cX4_recover 113 = .ok (.iload 4, 2) := by decide +kernel
theorem dX4_recover_115 : decode cX4_recover 115 = .ok (.invokevirtual 92, 3) := by decide +kernel
theorem dX4_recover_118 : decode cX4_recover 118 = .ok (.iconst 1, 1) := by decide +kernel
theorem dX4_recover_119 : decode cX4_recover 119 = .ok (.iadd, 1) := by decide +kernel
theorem dX4_recover_120 : decode cX4_recover 120 = .ok (.goto 4, 3) := by decide +kernel
theorem dX4_recover_123 : decode cX4_recover 123 = .ok (.iconst 0, 1) := by decide +kernel
theorem dX4_recover_124 : decode cX4_recover 124 = .ok (.iadd, 1) := by decide +kernel
theorem dX4_recover_125 : decode cX4_recover 125 = .ok (.istore 6, 2) := by decide +kernel
theorem dX4_recover_127 : decode cX4_recover 127 = .ok (.iinc 7 1, 3) := by decide +kernel
theorem dX4_recover_130 : decode cX4_recover 130 = .ok (.goto (-41), 3) := by decide +kernel
theorem dX4_recover_133 : decode cX4_recover 133 = .ok (.iload 4, 2) := by decide +kernel
theorem dX4_recover_135 : decode cX4_recover 135 = .ok (.iload 6, 2) := by decide +kernel
theorem dX4_recover_137 : decode cX4_recover 137 = .ok (.iadd, 1) := by decide +kernel
theorem dX4_recover_138 : decode cX4_recover 138 = .ok (.sipush 2000, 3) := by decide +kernel
theorem dX4_recover_141 : decode cX4_recover 141 = .ok (.if_icmp .le 5, 3) := by decide +kernel
theorem dX4_recover_144 : decode cX4_recover 144 = .ok (.iconst (-1), 1) := by decide +kernel
theorem dX4_recover_145 : decode cX4_recover 145 = .ok (.ireturn, 1) := by decide +kernel
theorem dX4_recover_146 : decode cX4_recover 146 = .ok (.iconst 0, 1) := by decide +kernel
theorem dX4_recover_147 : decode cX4_recover 147 = .ok (.istore 7, 2) := by decide +kernel
theorem dX4_recover_149 : decode cX4_recover 149 = .ok (.iload 7, 2) := by decide +kernel
theorem dX4_recover_151 : decode cX4_recover 151 = .ok (.bipush 32, 2) := by decide +kernel
theorem dX4_recover_153 : decode cX4_recover 153 = .ok (.if_icmp .ge 28, 3) := by decide +kernel
theorem dX4_recover_156 : decode cX4_recover 156 = .ok (.aload_n 0, 1) := by decide +kernel
theorem dX4_recover_157 : decode cX4_recover 157 = .ok (.getfield 7, 3) := by decide +kernel
theorem dX4_recover_160 : decode cX4_recover 160 = .ok (.iload 7, 2) := by decide +kernel
theorem dX4_recover_162 : decode cX4_recover 162 = .ok (.aload_n 0, 1) := by decide +kernel
theorem dX4_recover_163 : decode cX4_recover 163 = .ok (.getfield 36, 3) := by decide +kernel
theorem dX4_recover_166 : decode cX4_recover 166 = .ok (.bipush 32, 2) := by decide +kernel
theorem dX4_recover_168 : decode cX4_recover 168 = .ok (.iload_n 1, 1) := by decide +kernel
theorem dX4_recover_169 : decode cX4_recover 169 = .ok (.imul, 1) := by decide +kernel
theorem dX4_recover_170 : decode cX4_recover 170 = .ok (.iload 7, 2) := by decide +kernel
theorem dX4_recover_172 : decode cX4_recover 172 = .ok (.iadd, 1) := by decide +kernel
theorem dX4_recover_173 : decode cX4_recover 173 = .ok (.laload, 1) := by decide +kernel
theorem dX4_recover_174 : decode cX4_recover 174 = .ok (.lastore, 1) := by decide +kernel
theorem dX4_recover_175 : decode cX4_recover 175 = .ok (.iinc 7 1, 3) := by decide +kernel
theorem dX4_recover_178 : decode cX4_recover 178 = .ok (.goto (-29), 3) := by decide +kernel
theorem dX4_recover_181 : decode cX4_recover 181 = .ok (.aload_n 0, 1) := by decide +kernel
theorem dX4_recover_182 : decode cX4_recover 182 = .ok (.getfield 39, 3) := by decide +kernel
theorem dX4_recover_185 : decode cX4_recover 185 = .ok (.iload_n 1, 1) := by decide +kernel
theorem dX4_recover_186 : decode cX4_recover 186 = .ok (.iaload, 1) := by decide +kernel
theorem dX4_recover_187 : decode cX4_recover 187 = .ok (.iconst 1, 1) := by decide +kernel
theorem dX4_recover_188 : decode cX4_recover 188 = .ok (.iadd, 1) := by decide +kernel
theorem dX4_recover_189 : decode cX4_recover 189 = .ok (.istore 7, 2) := by decide +kernel
theorem dX4_recover_191 : decode cX4_recover 191 = .ok (.iload 7, 2) := by decide +kernel
theorem dX4_recover_193 : decode cX4_recover 193 = .ok (.iload 4, 2) := by decide +kernel
theorem dX4_recover_195 : decode cX4_recover 195 = .ok (.if_icmp .gt 38, 3) := by decide +kernel
theorem dX4_recover_198 : decode cX4_recover 198 = .ok (.aload_n 0, 1) := by decide +kernel
theorem dX4_recover_199 : decode cX4_recover 199 = .ok (.getfield 13, 3) := by decide +kernel
theorem dX4_recover_202 : decode cX4_recover 202 = .ok (.iload 7, 2) := by decide +kernel
theorem dX4_recover_204 : decode cX4_recover 204 = .ok (.iaload, 1) := by decide +kernel
theorem dX4_recover_205 : decode cX4_recover 205 = .ok (.ifCond .ne 22, 3) := by decide +kernel
theorem dX4_recover_208 : decode cX4_recover 208 = .ok (.aload_n 0, 1) := by decide +kernel
theorem dX4_recover_209 : decode cX4_recover 209 = .ok (.getfield 7, 3) := by decide +kernel
theorem dX4_recover_212 : decode cX4_recover 212 = .ok (.aload_n 0, 1) := by decide +kernel
theorem dX4_recover_213 : decode cX4_recover 213 = .ok (.getfield 20, 3) := by decide +kernel
theorem dX4_recover_216 : decode cX4_recover 216 = .ok (.iload 7, 2) := by decide +kernel
theorem dX4_recover_218 : decode cX4_recover 218 = .ok (.iaload, 1) := by decide +kernel
theorem dX4_recover_219 : decode cX4_recover 219 = .ok (.aload_n 0, 1) := by decide +kernel
theorem dX4_recover_220 : decode cX4_recover 220 = .ok (.getfield 29, 3) := by decide +kernel
theorem dX4_recover_223 : decode cX4_recover 223 = .ok (.iload 7, 2) := by decide +kernel
theorem dX4_recover_225 : decode cX4_recover 225 = .ok (.laload, 1) := by decide +kernel
theorem dX4_recover_226 : decode cX4_recover 226 = .ok (.lastore, 1) := by decide +kernel
theorem dX4_recover_227 : decode cX4_recover 227 = .ok (.iinc 7 1, 3) := by decide +kernel
theorem dX4_recover_230 : decode cX4_recover 230 = .ok (.goto (-39), 3) := by decide +kernel
theorem dX4_recover_233 : decode cX4_recover 233 = .ok (.aload_n 0, 1) := by decide +kernel
theorem dX4_recover_234 : decode cX4_recover 234 = .ok (.iload 4, 2) := by decide +kernel
theorem dX4_recover_236 : decode cX4_recover 236 = .ok (.putfield 55, 3) := by decide +kernel
theorem dX4_recover_239 : decode cX4_recover 239 = .ok (.aload_n 0, 1) := by decide +kernel
theorem dX4_recover_240 : decode cX4_recover 240 = .ok (.aload_n 0, 1) := by decide +kernel
theorem dX4_recover_241 : decode cX4_recover 241 = .ok (.getfield 105, 3) := by decide +kernel
theorem dX4_recover_244 : decode cX4_recover 244 = .ok (.aload_n 0, 1) := by decide +kernel
theorem dX4_recover_245 : decode cX4_recover 245 = .ok (.getfield 55, 3) := by decide +kernel
theorem dX4_recover_248 : decode cX4_recover 248 = .ok (.if_icmp .le 10, 3) := by decide +kernel
theorem dX4_recover_251 : decode cX4_recover 251 = .ok (.aload_n 0, 1) := by decide +kernel
theorem dX4_recover_252 : decode cX4_recover 252 = .ok (.getfield 55, 3) := by decide +kernel
theorem dX4_recover_255 : decode cX4_recover 255 = .ok (.goto 7, 3) := by decide +kernel
theorem dX4_recover_258 : decode cX4_recover 258 = .ok (.aload_n 0, 1) := by decide +kernel
theorem dX4_recover_259 : decode cX4_recover 259 = .ok (.getfield 105, 3) := by decide +kernel
theorem dX4_recover_262 : decode cX4_recover 262 = .ok (.putfield 105, 3) := by decide +kernel
theorem dX4_recover_265 : decode cX4_recover 265 = .ok (.iconst 1, 1) := by decide +kernel
theorem dX4_recover_266 : decode cX4_recover 266 = .ok (.istore 7, 2) := by decide +kernel
theorem dX4_recover_268 : decode cX4_recover 268 = .ok (.iload 7, 2) := by decide +kernel
theorem dX4_recover_270 : decode cX4_recover 270 = .ok (.aload_n 0, 1) := by decide +kernel
theorem dX4_recover_271 : decode cX4_recover 271 = .ok (.getfield 99, 3) := by decide +kernel
theorem dX4_recover_274 : decode cX4_recover 274 = .ok (.if_icmp .gt 45, 3) := by decide +kernel
theorem dX4_recover_277 : decode cX4_recover 277 = .ok (.aload_n 0, 1) := by decide +kernel
theorem dX4_recover_278 : decode cX4_recover 278 = .ok (.getfield 45, 3) := by decide +kernel
theorem dX4_recover_281 : decode cX4_recover 281 = .ok (.iload 7, 2) := by decide +kernel
theorem dX4_recover_283 : decode cX4_recover 283 = .ok (.aload_n 0, 1) := by decide +kernel
theorem dX4_recover_284 : decode cX4_recover 284 = .ok (.getfield 45, 3) := by decide +kernel
theorem dX4_recover_287 : decode cX4_recover 287 = .ok (.iload 7, 2) := by decide +kernel
theorem dX4_recover_289 : decode cX4_recover 289 = .ok (.baload, 1) := by decide +kernel
theorem dX4_recover_290 : decode cX4_recover 290 = .ok (.ifCond .ne 17, 3) := by decide +kernel
theorem dX4_recover_293 : decode cX4_recover 293 = .ok (.aload_n 0, 1) := by decide +kernel
theorem dX4_recover_294 : decode cX4_recover 294 = .ok (.getfield 42, 3) := by decide +kernel
theorem dX4_recover_297 : decode cX4_recover 297 = .ok (.iload 7, 2) := by decide +kernel
theorem dX4_recover_299 : decode cX4_recover 299 = .ok (.iaload, 1) := by decide +kernel
theorem dX4_recover_300 : decode cX4_recover 300 = .ok (.aload_n 0, 1) := by decide +kernel
theorem dX4_recover_301 : decode cX4_recover 301 = .ok (.getfield 55, 3) := by decide +kernel
theorem dX4_recover_304 : decode cX4_recover 304 = .ok (.if_icmp .le 7, 3) := by decide +kernel
theorem dX4_recover_307 : decode cX4_recover 307 = .ok (.iconst 1, 1) := by decide +kernel
theorem dX4_recover_308 : decode cX4_recover 308 = .ok (.goto 4, 3) := by decide +kernel
theorem dX4_recover_311 : decode cX4_recover 311 = .ok (.iconst 0, 1) := by decide +kernel
theorem dX4_recover_312 : decode cX4_recover 312 = .ok (.bastore, 1) := by decide +kernel
theorem dX4_recover_313 : decode cX4_recover 313 = .ok (.iinc 7 1, 3) := by decide +kernel
theorem dX4_recover_316 : decode cX4_recover 316 = .ok (.goto (-48), 3) := by decide +kernel
theorem dX4_recover_319 : decode cX4_recover 319 = .ok (.iconst 1, 1) := by decide +kernel
theorem dX4_recover_320 : decode cX4_recover 320 = .ok (.istore 7, 2) := by decide +kernel
theorem dX4_recover_322 : decode cX4_recover 322 = .ok (.iload 7, 2) := by decide +kernel
theorem dX4_recover_324 : decode cX4_recover 324 = .ok (.bipush 60, 2) := by decide +kernel
theorem dX4_recover_326 : decode cX4_recover 326 = .ok (.if_icmp .gt 28, 3) := by decide +kernel
theorem dX4_recover_329 : decode cX4_recover 329 = .ok (.aload_n 0, 1) := by decide +kernel
theorem dX4_recover_330 : decode cX4_recover 330 = .ok (.iload 7, 2) := by decide +kernel
theorem dX4_recover_332 : decode cX4_recover 332 = .ok (.iload 4, 2) := by decide +kernel
theorem dX4_recover_334 : decode cX4_recover 334 = .ok (.invokevirtual 58, 3) := by decide +kernel
theorem dX4_recover_337 : decode cX4_recover 337 = .ok (.iconst 1, 1) := by decide +kernel
theorem dX4_recover_338 : decode cX4_recover 338 = .ok (.if_icmp .ne 10, 3) := by decide +kernel
theorem dX4_recover_341 : decode cX4_recover 341 = .ok (.aload_n 0, 1) := by decide +kernel
theorem dX4_recover_342 : decode cX4_recover 342 = .ok (.iload 7, 2) := by decide +kernel
theorem dX4_recover_344 : decode cX4_recover 344 = .ok (.invokevirtual 95, 3) := by decide +kernel
theorem dX4_recover_347 : decode cX4_recover 347 = .ok (.pop, 1) := by decide +kernel
theorem dX4_recover_348 : decode cX4_recover 348 = .ok (.iinc 7 1, 3) := by decide +kernel
theorem dX4_recover_351 : decode cX4_recover 351 = .ok (.goto (-29), 3) := by decide +kernel
theorem dX4_recover_354 : decode cX4_recover 354 = .ok (.aload_n 0, 1) := by decide +kernel
theorem dX4_recover_355 : decode cX4_recover 355 = .ok (.invokevirtual 108, 3) := by decide +kernel
theorem dX4_recover_358 : decode cX4_recover 358 = .ok (.ireturn, 1) := by decide +kernel
theorem dX4_torn_0 : decode cX4_torn 0 = .ok (.aload_n 0, 1) := by decide +kernel
theorem dX4_torn_1 : decode cX4_torn 1 = .ok (.iconst 0, 1) := by decide +kernel
theorem dX4_torn_2 : decode cX4_torn 2 = .ok (.putfield 52, 3) := by decide +kernel
theorem dX4_torn_5 : decode cX4_torn 5 = .ok (.iload_n 1, 1) := by decide +kernel
theorem dX4_torn_6 : decode cX4_torn 6 = .ok (.ifCond .lt 21, 3) := by decide +kernel
theorem dX4_torn_9 : decode cX4_torn 9 = .ok (.iload_n 1, 1) := by decide +kernel
theorem dX4_torn_10 : decode cX4_torn 10 = .ok (.iconst 1, 1) := by decide +kernel
theorem dX4_torn_11 : decode cX4_torn 11 = .ok (.if_icmp .gt 16, 3) := by decide +kernel
theorem dX4_torn_14 : decode cX4_torn 14 = .ok (.iload_n 2, 1) := by decide +kernel
theorem dX4_torn_15 : decode cX4_torn 15 = .ok (.iconst 1, 1) := by decide +kernel
theorem dX4_torn_16 : decode cX4_torn 16 = .ok (.if_icmp .lt 11, 3) := by decide +kernel
theorem dX4_torn_19 : decode cX4_torn 19 = .ok (.iload_n 2, 1) := by decide +kernel
theorem dX4_torn_20 : decode cX4_torn 20 = .ok (.aload_n 0, 1) := by decide +kernel
theorem dX4_torn_21 : decode cX4_torn 21 = .ok (.getfield 55, 3) := by decide +kernel
theorem dX4_torn_24 : decode cX4_torn 24 = .ok (.if_icmp .le 6, 3) := by decide +kernel
theorem dX4_torn_27 : decode cX4_torn 27 = .ok (.bipush (-2), 2) := by decide +kernel
theorem dX4_torn_29 : decode cX4_torn 29 = .ok (.ireturn, 1) := by decide +kernel
theorem dX4_torn_30 : decode cX4_torn 30 = .ok (.iload_n 2, 1) := by decide +kernel
theorem dX4_torn_31 : decode cX4_torn 31 = .ok (.aload_n 0, 1) := by decide +kernel
theorem dX4_torn_32 : decode cX4_torn 32 = .ok (.getfield 105, 3) := by decide +kernel
theorem dX4_torn_35 : decode cX4_torn 35 = .ok (.if_icmp .gt 6, 3) := by decide +kernel
theorem dX4_torn_38 : decode cX4_torn 38 = .ok (.bipush (-5), 2) := by decide +kernel
theorem dX4_torn_40 : decode cX4_torn 40 = .ok (.ireturn, 1) := by decide +kernel
theorem dX4_torn_41 : decode cX4_torn 41 = .ok (.aload_n 0, 1) := by decide +kernel
theorem dX4_torn_42 : decode cX4_torn 42 = .ok (.getfield 23, 3) := by decide +kernel
theorem dX4_torn_45 : decode cX4_torn 45 = .ok (.iload_n 2, 1) := by decide +kernel
theorem dX4_torn_46 : decode cX4_torn 46 = .ok (.iaload, 1) := by decide +kernel
theorem dX4_torn_47 : decode cX4_torn 47 = .ok (.iload_n 1, 1) := by decide +kernel
theorem dX4_torn_48 : decode cX4_torn 48 = .ok (.ishr, 1) := by decide +kernel
theorem dX4_torn_49 : decode cX4_torn 49 = .ok (.iconst 1, 1) := by decide +kernel
theorem dX4_torn_50 : decode cX4_torn 50 = .ok (.iand, 1) := by decide +kernel
theorem dX4_torn_51 : decode cX4_torn 51 = .ok (.iconst 1, 1) := by decide +kernel
theorem dX4_torn_52 : decode cX4_torn 52 = .ok (.if_icmp .ne 5, 3) := by decide +kernel
theorem dX4_torn_55 : decode cX4_torn 55 = .ok (.iconst 0, 1) := by decide +kernel
theorem dX4_torn_56 : decode cX4_torn 56 = .ok (.ireturn, 1) := by decide +kernel
theorem dX4_torn_57 : decode cX4_torn 57 = .ok (.aload_n 0, 1) := by decide +kernel
theorem dX4_torn_58 : decode cX4_torn 58 = .ok (.getfield 23, 3) := by decide +kernel
theorem dX4_torn_61 : decode cX4_torn 61 = .ok (.iload_n 2, 1) := by decide +kernel
theorem dX4_torn_62 : decode cX4_torn 62 = .ok (.dup2, 1) := by decide +kernel
theorem dX4_torn_63 : decode cX4_torn 63 = .ok (.iaload, 1) := by decide +kernel
theorem dX4_torn_64 : decode cX4_torn 64 = .ok (.iconst 1, 1) := by decide +kernel
theorem dX4_torn_65 : decode cX4_torn 65 = .ok (.iload_n 1, 1) := by decide +kernel
theorem dX4_torn_66 : decode cX4_torn 66 = .ok (.iadd, 1) := by decide +kernel
theorem dX4_torn_67 : decode cX4_torn 67 = .ok (.iadd, 1) := by decide +kernel
theorem dX4_torn_68 : decode cX4_torn 68 = .ok (.iastore, 1) := by decide +kernel
theorem dX4_torn_69 : decode cX4_torn 69 = .ok (.iconst 1, 1) := by decide +kernel
theorem dX4_torn_70 : decode cX4_torn 70 = .ok (.ireturn, 1) := by decide +kernel
theorem dX4_archive_0 : decode cX4_archive 0 = .ok (.aload_n 0, 1) := by decide +kernel
theorem dX4_archive_1 : decode cX4_archive 1 = .ok (.iconst 0, 1) := by decide +kernel
theorem dX4_archive_2 : decode cX4_archive 2 = .ok (.putfield 52, 3) := by decide +kernel
theorem dX4_archive_5 : decode cX4_archive 5 = .ok (.iload_n 1, 1) := by decide +kernel
theorem dX4_archive_6 : decode cX4_archive 6 = .ok (.ifCond .lt 11, 3) := by decide +kernel
theorem dX4_archive_9 : decode cX4_archive 9 = .ok (.iload_n 1, 1) := by decide +kernel
theorem dX4_archive_10 : decode cX4_archive 10 = .ok (.aload_n 0, 1) := by decide +kernel
theorem dX4_archive_11 : decode cX4_archive 11 = .ok (.getfield 55, 3) := by decide +kernel
theorem dX4_archive_14 : decode cX4_archive 14 = .ok (.if_icmp .le 6, 3) := by decide +kernel
theorem dX4_archive_17 : decode cX4_archive 17 = .ok (.bipush (-4), 2) := by decide +kernel
theorem dX4_archive_19 : decode cX4_archive 19 = .ok (.ireturn, 1) := by decide +kernel
theorem dX4_archive_20 : decode cX4_archive 20 = .ok (.aload_n 0, 1) := by decide +kernel
theorem dX4_archive_21 : decode cX4_archive 21 = .ok (.iload_n 1, 1) := by decide +kernel
theorem dX4_archive_22 : decode cX4_archive 22 = .ok (.aload_n 0, 1) := by decide +kernel
theorem dX4_archive_23 : decode cX4_archive 23 = .ok (.getfield 105, 3) := by decide +kernel
theorem dX4_archive_26 : decode cX4_archive 26 = .ok (.if_icmp .le 7, 3) := by decide +kernel
theorem dX4_archive_29 : decode cX4_archive 29 = .ok (.iload_n 1, 1) := by decide +kernel
theorem dX4_archive_30 : decode cX4_archive 30 = .ok (.goto 7, 3) := by decide +kernel
theorem dX4_archive_33 : decode cX4_archive 33 = .ok (.aload_n 0, 1) := by decide +kernel
theorem dX4_archive_34 : decode cX4_archive 34 = .ok (.getfield 105, 3) := by decide +kernel
theorem dX4_archive_37 : decode cX4_archive 37 = .ok (.putfield 105, 3) := by decide +kernel
theorem dX4_archive_40 : decode cX4_archive 40 = .ok (.aload_n 0, 1) := by decide +kernel
theorem dX4_archive_41 : decode cX4_archive 41 = .ok (.getfield 105, 3) := by decide +kernel
theorem dX4_archive_44 : decode cX4_archive 44 = .ok (.ireturn, 1) := by decide +kernel
set_option maxRecDepth 20000 in
theorem ggX4_gap_X4_isMissing : GoodIn wsX4_gap wsX4_isMissing := goodIn_ca (goodIn_r _ [7, 8, 9, 10, 11, 12, 13, 14, 15, 16, 17, 18, 19, 20, 21, 22, 23, 24, 25, 26] (by decide +kernel) (by decide +kernel)) (goodIn_sub (fun _ h => List.mem_cons_of_mem _ (List.mem_append_right _ h)) (by decide +kernel))
set_option maxRecDepth 20000 in
theorem gX4_gap_X4_isMissing : GoodIn wsX4_gap (wsV RX4 89 RX4 yX4_isMissing wsX4_isMissing) := goodIn_app (goodIn_of _ (by decide +kernel)) ggX4_gap_X4_isMissing
theorem dX4_gap_0 : decode cX4_gap 0 = .ok (.aload_n 0, 1) := by decide +kernel
theorem dX4_gap_1 : decode cX4_gap 1 = .ok (.iconst 0, 1) := by decide +kernel
theorem dX4_gap_2 : decode cX4_gap 2 = .ok (.putfield 52, 3) := by decide +kernel
theorem dX4_gap_5 : decode cX4_gap 5 = .ok (.iconst 0, 1) := by decide +kernel
theorem dX4_gap_6 : decode cX4_gap 6 = .ok (.istore_n 2, 1) := by decide +kernel
theorem dX4_gap_7 : decode cX4_gap 7 = .ok (.iconst 1, 1) := by decide +kernel
theorem dX4_gap_8 : decode cX4_gap 8 = .ok (.istore_n 3, 1) := by decide +kernel
theorem dX4_gap_9 : decode cX4_gap 9 = .ok (.iload_n 3, 1) := by decide +kernel
theorem dX4_gap_10 : decode cX4_gap 10 = .ok (.aload_n 0, 1) := by decide +kernel
theorem dX4_gap_11 : decode cX4_gap 11 = .ok (.getfield 55, 3) := by decide +kernel
theorem dX4_gap_14 : decode cX4_gap 14 = .ok (.if_icmp .gt 30, 3) := by decide +kernel
theorem dX4_gap_17 : decode cX4_gap 17 = .ok (.aload_n 0, 1) := by decide +kernel
theorem dX4_gap_18 : decode cX4_gap 18 = .ok (.iload_n 3, 1) := by decide +kernel
theorem dX4_gap_19 : decode cX4_gap 19 = .ok (.invokevirtual 89, 3) := by decide +kernel
theorem dX4_gap_22 : decode cX4_gap 22 = .ok (.ifCond .ne 6, 3) := by decide +kernel
theorem dX4_gap_25 : decode cX4_gap 25 = .ok (.goto 13, 3) := by decide +kernel
theorem dX4_gap_28 : decode cX4_gap 28 = .ok (.iload_n 2, 1) := by decide +kernel
theorem dX4_gap_29 : decode cX4_gap 29 = .ok (.iload_n 1, 1) := by decide +kernel
theorem dX4_gap_30 : decode cX4_gap 30 = .ok (.if_icmp .ne 5, 3) := by decide +kernel
theorem dX4_gap_33 : decode cX4_gap 33 = .ok (.iload_n 3, 1) := by decide +kernel
theorem dX4_gap_34 : decode cX4_gap 34 = .ok (.ireturn, 1) := by decide +kernel
theorem dX4_gap_35 : decode cX4_gap 35 = .ok (.iinc 2 1, 3) := by decide +kernel
theorem dX4_gap_38 : decode cX4_gap 38 = .ok (.iinc 3 1, 3) := by decide +kernel
theorem dX4_gap_41 : decode cX4_gap 41 = .ok (.goto (-32), 3) := by decide +kernel
theorem dX4_gap_44 : decode cX4_gap 44 = .ok (.iconst 0, 1) := by decide +kernel
theorem dX4_gap_45 : decode cX4_gap 45 = .ok (.ireturn, 1) := by decide +kernel
set_option maxRecDepth 20000 in
theorem ggX4_ahead_X4_gap : GoodIn wsX4_ahead wsX4_gap := goodIn_ca (goodIn_r _ [6, 1, 7, 8, 9, 10, 5, 11, 12, 13, 14, 15, 16, 17, 18, 19, 20, 21, 22, 23, 24, 25, 26, 27, 28, 29, 30] (by decide +kernel) (by decide +kernel)) (goodIn_sub (fun _ h => List.mem_cons_of_mem _ (List.mem_append_right _ h)) (by decide +kernel))
set_option maxRecDepth 20000 in
theorem gX4_ahead_X4_gap : GoodIn wsX4_ahead (wsV RX4 112 RX4 yX4_gap wsX4_gap) := goodIn_app (goodIn_of _ (by decide +kernel)) ggX4_ahead_X4_gap
theorem dX4_ahead_0 : decode cX4_ahead 0 = .ok (.aload_n 0, 1) := by decide +kernel
theorem dX4_ahead_1 : decode cX4_ahead 1 = .ok (.iconst 0, 1) := by decide +kernel
theorem dX4_ahead_2 : decode cX4_ahead 2 = .ok (.putfield 52, 3) := by decide +kernel
theorem dX4_ahead_5 : decode cX4_ahead 5 = .ok (.aload_n 0, 1) := by decide +kernel
theorem dX4_ahead_6 : decode cX4_ahead 6 = .ok (.iconst 0, 1) := by decide +kernel
theorem dX4_ahead_7 : decode cX4_ahead 7 = .ok (.invokevirtual 112, 3) := by decide +kernel
theorem dX4_ahead_10 : decode cX4_ahead 10 = .ok (.ifCond .ne 7, 3) := by decide +kernel
theorem dX4_ahead_13 : decode cX4_ahead 13 = .ok (.iconst 1, 1) := by decide +kernel
theorem dX4_ahead_14 : decode cX4_ahead 14 = .ok (.goto 4, 3) := by decide +kernel
theorem dX4_ahead_17 : decode cX4_ahead 17 = .ok (.iconst 0, 1) := by decide +kernel
theorem dX4_ahead_18 : decode cX4_ahead 18 = .ok (.ireturn, 1) := by decide +kernel
theorem dX4_merge_0 : decode cX4_merge 0 = .ok (.aload_n 0, 1) := by decide +kernel
theorem dX4_merge_1 : decode cX4_merge 1 = .ok (.iconst 0, 1) := by decide +kernel
theorem dX4_merge_2 : decode cX4_merge 2 = .ok (.putfield 52, 3) := by decide +kernel
theorem dX4_merge_5 : decode cX4_merge 5 = .ok (.iconst 0, 1) := by decide +kernel
theorem dX4_merge_6 : decode cX4_merge 6 = .ok (.istore_n 3, 1) := by decide +kernel
theorem dX4_merge_7 : decode cX4_merge 7 = .ok (.iconst 1, 1) := by decide +kernel
theorem dX4_merge_8 : decode cX4_merge 8 = .ok (.istore 4, 2) := by decide +kernel
theorem dX4_merge_10 : decode cX4_merge 10 = .ok (.iload 4, 2) := by decide +kernel
theorem dX4_merge_12 : decode cX4_merge 12 = .ok (.aload_n 0, 1) := by decide +kernel
theorem dX4_merge_13 : decode cX4_merge 13 = .ok (.getfield 55, 3) := by decide +kernel
theorem dX4_merge_16 : decode cX4_merge 16 = .ok (.if_icmp .gt 39, 3) := by decide +kernel
theorem dX4_merge_19 : decode cX4_merge 19 = .ok (.aload_n 0, 1) := by decide +kernel
theorem dX4_merge_20 : decode cX4_merge 20 = .ok (.getfield 17, 3) := by decide +kernel
theorem dX4_merge_23 : decode cX4_merge 23 = .ok (.iload 4, 2) := by decide +kernel
theorem dX4_merge_25 : decode cX4_merge 25 = .ok (.iaload, 1) := by decide +kernel
theorem dX4_merge_26 : decode cX4_merge 26 = .ok (.aload_n 0, 1) := by decide +kernel
theorem dX4_merge_27 : decode cX4_merge 27 = .ok (.getfield 48, 3) := by decide +kernel
theorem dX4_merge_30 : decode cX4_merge 30 = .ok (.irem, 1) := by decide +kernel
theorem dX4_merge_31 : decode cX4_merge 31 = .ok (.iload_n 1, 1) := by decide +kernel
theorem dX4_merge_32 : decode cX4_merge 32 = .ok (.if_icmp .eq 6, 3) := by decide +kernel
theorem dX4_merge_35 : decode cX4_merge 35 = .ok (.goto 14, 3) := by decide +kernel
theorem dX4_merge_38 : decode cX4_merge 38 = .ok (.iload_n 3, 1) := by decide +kernel
theorem dX4_merge_39 : decode cX4_merge 39 = .ok (.iload_n 2, 1) := by decide +kernel
theorem dX4_merge_40 : decode cX4_merge 40 = .ok (.if_icmp .ne 6, 3) := by decide +kernel
theorem dX4_merge_43 : decode cX4_merge 43 = .ok (.iload 4, 2) := by decide +kernel
theorem dX4_merge_45 : decode cX4_merge 45 = .ok (.ireturn, 1) := by decide +kernel
theorem dX4_merge_46 : decode cX4_merge 46 = .ok (.iinc 3 1, 3) := by decide +kernel
theorem dX4_merge_49 : decode cX4_merge 49 = .ok (.iinc 4 1, 3) := by decide +kernel
theorem dX4_merge_52 : decode cX4_merge 52 = .ok (.goto (-42), 3) := by decide +kernel
theorem dX4_merge_55 : decode cX4_merge 55 = .ok (.iconst 0, 1) := by decide +kernel
theorem dX4_merge_56 : decode cX4_merge 56 = .ok (.ireturn, 1) := by decide +kernel
set_option maxRecDepth 20000 in
theorem ggX4_get_X4_isCell : GoodIn wsX4_get wsX4_isCell := goodIn_r _ [6] (by decide +kernel) (by decide +kernel)
set_option maxRecDepth 20000 in
theorem gX4_get_X4_isCell : GoodIn wsX4_get (va_wsS RX4 79 yX4_isCell wsX4_isCell) := goodIn_app (goodIn_of _ (by decide +kernel)) ggX4_get_X4_isCell
theorem dX4_get_0 : decode cX4_get 0 = .ok (.aload_n 0, 1) := by decide +kernel
theorem dX4_get_1 : decode cX4_get 1 = .ok (.iload_n 1, 1) := by decide +kernel
theorem dX4_get_2 : decode cX4_get 2 = .ok (.invokestatic 79, 3) := by decide +kernel
theorem dX4_get_5 : decode cX4_get 5 = .ok (.ifCond .eq 7, 3) := by decide +kernel
theorem dX4_get_8 : decode cX4_get 8 = .ok (.iconst 0, 1) := by decide +kernel
theorem dX4_get_9 : decode cX4_get 9 = .ok (.goto 4, 3) := by decide +kernel
theorem dX4_get_12 : decode cX4_get 12 = .ok (.iconst 1, 1) := by decide +kernel
theorem dX4_get_13 : decode cX4_get 13 = .ok (.putfield 52, 3) := by decide +kernel
theorem dX4_get_16 : decode cX4_get 16 = .ok (.aload_n 0, 1) := by decide +kernel
theorem dX4_get_17 : decode cX4_get 17 = .ok (.getfield 52, 3) := by decide +kernel
theorem dX4_get_20 : decode cX4_get 20 = .ok (.ifCond .le 7, 3) := by decide +kernel
theorem dX4_get_23 : decode cX4_get 23 = .ok (.lconst 0, 1) := by decide +kernel
theorem dX4_get_24 : decode cX4_get 24 = .ok (.goto 9, 3) := by decide +kernel
theorem dX4_get_27 : decode cX4_get 27 = .ok (.aload_n 0, 1) := by decide +kernel
theorem dX4_get_28 : decode cX4_get 28 = .ok (.getfield 7, 3) := by decide +kernel
theorem dX4_get_31 : decode cX4_get 31 = .ok (.iload_n 1, 1) := by decide +kernel
theorem dX4_get_32 : decode cX4_get 32 = .ok (.laload, 1) := by decide +kernel
theorem dX4_get_33 : decode cX4_get 33 = .ok (.lreturn, 1) := by decide +kernel
theorem dX4_at_0 : decode cX4_at 0 = .ok (.iload_n 1, 1) := by decide +kernel
theorem dX4_at_1 : decode cX4_at 1 = .ok (.ifCond .le 25, 3) := by decide +kernel
theorem dX4_at_4 : decode cX4_at 4 = .ok (.iload_n 1, 1) := by decide +kernel
theorem dX4_at_5 : decode cX4_at 5 = .ok (.aload_n 0, 1) := by decide +kernel
theorem dX4_at_6 : decode cX4_at 6 = .ok (.getfield 55, 3) := by decide +kernel
theorem dX4_at_9 : decode cX4_at 9 = .ok (.if_icmp .gt 17, 3) := by decide +kernel
theorem dX4_at_12 : decode cX4_at 12 = .ok (.iload_n 2, 1) := by decide +kernel
theorem dX4_at_13 : decode cX4_at 13 = .ok (.ifCond .lt 13, 3) := by decide +kernel
theorem dX4_at_16 : decode cX4_at 16 = .ok (.iload_n 2, 1) := by decide +kernel
theorem dX4_at_17 : decode cX4_at 17 = .ok (.bipush 7, 2) := by decide +kernel
theorem dX4_at_19 : decode cX4_at 19 = .ok (.if_icmp .ge 7, 3) := by decide +kernel
theorem dX4_at_22 : decode cX4_at 22 = .ok (.iconst 1, 1) := by decide +kernel
theorem dX4_at_23 : decode cX4_at 23 = .ok (.goto 4, 3) := by decide +kernel
theorem dX4_at_26 : decode cX4_at 26 = .ok (.iconst 0, 1) := by decide +kernel
theorem dX4_at_27 : decode cX4_at 27 = .ok (.istore_n 3, 1) := by decide +kernel
theorem dX4_at_28 : decode cX4_at 28 = .ok (.aload_n 0, 1) := by decide +kernel
theorem dX4_at_29 : decode cX4_at 29 = .ok (.iload_n 3, 1) := by decide +kernel
theorem dX4_at_30 : decode cX4_at 30 = .ok (.ifCond .eq 7, 3) := by decide +kernel
theorem dX4_at_33 : decode cX4_at 33 = .ok (.iconst 0, 1) := by decide +kernel
theorem dX4_at_34 : decode cX4_at 34 = .ok (.goto 4, 3) := by decide +kernel
theorem dX4_at_37 : decode cX4_at 37 = .ok (.iconst 1, 1) := by decide +kernel
theorem dX4_at_38 : decode cX4_at 38 = .ok (.putfield 52, 3) := by decide +kernel
theorem dX4_at_41 : decode cX4_at 41 = .ok (.iload_n 3, 1) := by decide +kernel
theorem dX4_at_42 : decode cX4_at 42 = .ok (.ifCond .ne 5, 3) := by decide +kernel
theorem dX4_at_45 : decode cX4_at 45 = .ok (.iconst 0, 1) := by decide +kernel
theorem dX4_at_46 : decode cX4_at 46 = .ok (.ireturn, 1) := by decide +kernel
theorem dX4_at_47 : decode cX4_at 47 = .ok (.iload_n 2, 1) := by decide +kernel
theorem dX4_at_48 : decode cX4_at 48 = .ok (.tableswitch 84 0 5 #[40, 47, 54, 61, 69, 77], 40) := by decide +kernel
theorem dX4_at_88 : decode cX4_at 88 = .ok (.aload_n 0, 1) := by decide +kernel
theorem dX4_at_89 : decode cX4_at 89 = .ok (.getfield 13, 3) := by decide +kernel
theorem dX4_at_92 : decode cX4_at 92 = .ok (.iload_n 1, 1) := by decide +kernel
theorem dX4_at_93 : decode cX4_at 93 = .ok (.iaload, 1) := by decide +kernel
theorem dX4_at_94 : decode cX4_at 94 = .ok (.ireturn, 1) := by decide +kernel
theorem dX4_at_95 : decode cX4_at 95 = .ok (.aload_n 0, 1) := by decide +kernel
theorem dX4_at_96 : decode cX4_at 96 = .ok (.getfield 17, 3) := by decide +kernel
theorem dX4_at_99 : decode cX4_at 99 = .ok (.iload_n 1, 1) := by decide +kernel
theorem dX4_at_100 : decode cX4_at 100 = .ok (.iaload, 1) := by decide +kernel
theorem dX4_at_101 : decode cX4_at 101 = .ok (.ireturn, 1) := by decide +kernel
theorem dX4_at_102 : decode cX4_at 102 = .ok (.aload_n 0, 1) := by decide +kernel
theorem dX4_at_103 : decode cX4_at 103 = .ok (.getfield 20, 3) := by decide +kernel
theorem dX4_at_106 : decode cX4_at 106 = .ok (.iload_n 1, 1) := by decide +kernel
theorem dX4_at_107 : decode cX4_at 107 = .ok (.iaload, 1) := by decide +kernel
theorem dX4_at_108 : decode cX4_at 108 = .ok (.ireturn, 1) := by decide +kernel
theorem dX4_at_109 : decode cX4_at 109 = .ok (.aload_n 0, 1) := by decide +kernel
theorem dX4_at_110 : decode cX4_at 110 = .ok (.getfield 26, 3) := by decide +kernel
theorem dX4_at_113 : decode cX4_at 113 = .ok (.iload_n 1, 1) := by decide +kernel
theorem dX4_at_114 : decode cX4_at 114 = .ok (.laload, 1) := by decide +kernel
theorem dX4_at_115 : decode cX4_at 115 = .ok (.l2i, 1) := by decide +kernel
theorem dX4_at_116 : decode cX4_at 116 = .ok (.ireturn, 1) := by decide +kernel
theorem dX4_at_117 : decode cX4_at 117 = .ok (.aload_n 0, 1) := by decide +kernel
theorem dX4_at_118 : decode cX4_at 118 = .ok (.getfield 29, 3) := by decide +kernel
theorem dX4_at_121 : decode cX4_at 121 = .ok (.iload_n 1, 1) := by decide +kernel
theorem dX4_at_122 : decode cX4_at 122 = .ok (.laload, 1) := by decide +kernel
theorem dX4_at_123 : decode cX4_at 123 = .ok (.l2i, 1) := by decide +kernel
theorem dX4_at_124 : decode cX4_at 124 = .ok (.ireturn, 1) := by decide +kernel
theorem dX4_at_125 : decode cX4_at 125 = .ok (.aload_n 0, 1) := by decide +kernel
theorem dX4_at_126 : decode cX4_at 126 = .ok (.getfield 23, 3) := by decide +kernel
theorem dX4_at_129 : decode cX4_at 129 = .ok (.iload_n 1, 1) := by decide +kernel
theorem dX4_at_130 : decode cX4_at 130 = .ok (.iaload, 1) := by decide +kernel
theorem dX4_at_131 : decode cX4_at 131 = .ok (.ireturn, 1) := by decide +kernel
theorem dX4_at_132 : decode cX4_at 132 = .ok (.aload_n 0, 1) := by decide +kernel
theorem dX4_at_133 : decode cX4_at 133 = .ok (.getfield 32, 3) := by decide +kernel
theorem dX4_at_136 : decode cX4_at 136 = .ok (.iload_n 1, 1) := by decide +kernel
theorem dX4_at_137 : decode cX4_at 137 = .ok (.baload, 1) := by decide +kernel
theorem dX4_at_138 : decode cX4_at 138 = .ok (.ifCond .eq 7, 3) := by decide +kernel
theorem dX4_at_141 : decode cX4_at 141 = .ok (.iconst 1, 1) := by decide +kernel
theorem dX4_at_142 : decode cX4_at 142 = .ok (.goto 4, 3) := by decide +kernel
theorem dX4_at_145 : decode cX4_at 145 = .ok (.iconst 0, 1) := by decide +kernel
theorem dX4_at_146 : decode cX4_at 146 = .ok (.ireturn, 1) := by decide +kernel
set_option maxRecDepth 20000 in
theorem ggX4_warm_X4_isOpen : GoodIn wsX4_warm wsX4_isOpen := goodIn_ca (goodIn_r _ [6, 7, 8, 9, 10, 5, 11, 12, 13, 14, 15, 16, 17, 18, 19, 20, 21, 22, 23, 24, 25, 26, 27, 28, 29, 30, 31] (by decide +kernel) (by decide +kernel)) (goodIn_sub (fun _ h => List.mem_cons_of_mem _ (List.mem_append_right _ h)) (by decide +kernel))
set_option maxRecDepth 20000 in
theorem gX4_warm_X4_isOpen : GoodIn wsX4_warm (wsV RX4 72 RX4 yX4_isOpen wsX4_isOpen) := goodIn_app (goodIn_of _ (by decide +kernel)) ggX4_warm_X4_isOpen
theorem dX4_warm_0 : decode cX4_warm 0 = .ok (.aload_n 0, 1) := by decide +kernel
theorem dX4_warm_1 : decode cX4_warm 1 = .ok (.iconst 0, 1) := by decide +kernel
theorem dX4_warm_2 : decode cX4_warm 2 = .ok (.putfield 52, 3) := by decide +kernel
theorem dX4_warm_5 : decode cX4_warm 5 = .ok (.iconst 0, 1) := by decide +kernel
theorem dX4_warm_6 : decode cX4_warm 6 = .ok (.istore_n 1, 1) := by decide +kernel
theorem dX4_warm_7 : decode cX4_warm 7 = .ok (.iconst 1, 1) := by decide +kernel
theorem dX4_warm_8 : decode cX4_warm 8 = .ok (.istore_n 2, 1) := by decide +kernel
theorem dX4_warm_9 : decode cX4_warm 9 = .ok (.iload_n 2, 1) := by decide +kernel
theorem dX4_warm_10 : decode cX4_warm 10 = .ok (.bipush 60, 2) := by decide +kernel
theorem dX4_warm_12 : decode cX4_warm 12 = .ok (.if_icmp .gt 25, 3) := by decide +kernel
theorem dX4_warm_15 : decode cX4_warm 15 = .ok (.iload_n 1, 1) := by decide +kernel
theorem dX4_warm_16 : decode cX4_warm 16 = .ok (.aload_n 0, 1) := by decide +kernel
theorem dX4_warm_17 : decode cX4_warm 17 = .ok (.iload_n 2, 1) := by decide +kernel
theorem dX4_warm_18 : decode cX4_warm 18 = .ok (.invokevirtual 72, 3) := by decide +kernel
theorem dX4_warm_21 : decode cX4_warm 21 = .ok (.ifCond .eq 7, 3) := by decide +kernel
theorem dX4_warm_24 : decode cX4_warm 24 = .ok (.iconst 1, 1) := by decide +kernel
theorem dX4_warm_25 : decode cX4_warm 25 = .ok (.goto 4, 3) := by decide +kernel
theorem dX4_warm_28 : decode cX4_warm 28 = .ok (.iconst 0, 1) := by decide +kernel
theorem dX4_warm_29 : decode cX4_warm 29 = .ok (.iadd, 1) := by decide +kernel
theorem dX4_warm_30 : decode cX4_warm 30 = .ok (.istore_n 1, 1) := by decide +kernel
theorem dX4_warm_31 : decode cX4_warm 31 = .ok (.iinc 2 1, 3) := by decide +kernel
theorem dX4_warm_34 : decode cX4_warm 34 = .ok (.goto (-25), 3) := by decide +kernel
theorem dX4_warm_37 : decode cX4_warm 37 = .ok (.iload_n 1, 1) := by decide +kernel
theorem dX4_warm_38 : decode cX4_warm 38 = .ok (.ireturn, 1) := by decide +kernel
theorem dX4_synced_0 : decode cX4_synced 0 = .ok (.iconst 0, 1) := by decide +kernel
theorem dX4_synced_1 : decode cX4_synced 1 = .ok (.istore_n 1, 1) := by decide +kernel
theorem dX4_synced_2 : decode cX4_synced 2 = .ok (.iconst 1, 1) := by decide +kernel
theorem dX4_synced_3 : decode cX4_synced 3 = .ok (.istore_n 2, 1) := by decide +kernel
theorem dX4_synced_4 : decode cX4_synced 4 = .ok (.iload_n 2, 1) := by decide +kernel
theorem dX4_synced_5 : decode cX4_synced 5 = .ok (.aload_n 0, 1) := by decide +kernel
theorem dX4_synced_6 : decode cX4_synced 6 = .ok (.getfield 55, 3) := by decide +kernel
theorem dX4_synced_9 : decode cX4_synced 9 = .ok (.if_icmp .gt 27, 3) := by decide +kernel
theorem dX4_synced_12 : decode cX4_synced 12 = .ok (.iload_n 1, 1) := by decide +kernel
theorem dX4_synced_13 : decode cX4_synced 13 = .ok (.aload_n 0, 1) := by decide +kernel
theorem dX4_synced_14 : decode cX4_synced 14 = .ok (.getfield 13, 3) := by decide +kernel
theorem dX4_synced_17 : decode cX4_synced 17 = .ok (.iload_n 2, 1) := by decide +kernel
theorem dX4_synced_18 : decode cX4_synced 18 = .ok (.iaload, 1) := by decide +kernel
theorem dX4_synced_19 : decode cX4_synced 19 = .ok (.iconst 1, 1) := by decide +kernel
theorem dX4_synced_20 : decode cX4_synced 20 = .ok (.if_icmp .ne 7, 3) := by decide +kernel
theorem dX4_synced_23 : decode cX4_synced 23 = .ok (.iconst 1, 1) := by decide +kernel
theorem dX4_synced_24 : decode cX4_synced 24 = .ok (.goto 4, 3) := by decide +kernel
theorem dX4_synced_27 : decode cX4_synced 27 = .ok (.iconst 0, 1) := by decide +kernel
theorem dX4_synced_28 : decode cX4_synced 28 = .ok (.iadd, 1) := by decide +kernel
theorem dX4_synced_29 : decode cX4_synced 29 = .ok (.istore_n 1, 1) := by decide +kernel
theorem dX4_synced_30 : decode cX4_synced 30 = .ok (.iinc 2 1, 3) := by decide +kernel
theorem dX4_synced_33 : decode cX4_synced 33 = .ok (.goto (-29), 3) := by decide +kernel
theorem dX4_synced_36 : decode cX4_synced 36 = .ok (.iload_n 1, 1) := by decide +kernel
theorem dX4_synced_37 : decode cX4_synced 37 = .ok (.ireturn, 1) := by decide +kernel
set_option maxRecDepth 20000 in
theorem ggX4_count_X4_synced : GoodIn wsX4_count wsX4_synced := goodIn_ca (goodIn_r _ [9, 2, 10, 11, 12, 13, 14, 15, 16, 17, 18, 19, 20, 21, 22, 23, 24, 25, 26, 27, 28] (by decide +kernel) (by decide +kernel)) (goodIn_sub (fun _ h => List.mem_cons_of_mem _ (List.mem_append_right _ h)) (by decide +kernel))
set_option maxRecDepth 20000 in
theorem gX4_count_X4_synced : GoodIn wsX4_count (wsV RX4 108 RX4 yX4_synced wsX4_synced) := goodIn_app (goodIn_of _ (by decide +kernel)) ggX4_count_X4_synced
theorem dX4_count_0 : decode cX4_count 0 = .ok (.aload_n 0, 1) := by decide +kernel
theorem dX4_count_1 : decode cX4_count 1 = .ok (.iconst 0, 1) := by decide +kernel
theorem dX4_count_2 : decode cX4_count 2 = .ok (.putfield 52, 3) := by decide +kernel
theorem dX4_count_5 : decode cX4_count 5 = .ok (.iload_n 1, 1) := by decide +kernel
theorem dX4_count_6 : decode cX4_count 6 = .ok (.ifCond .ne 10, 3) := by decide +kernel
theorem dX4_count_9 : decode cX4_count 9 = .ok (.aload_n 0, 1) := by decide +kernel
theorem dX4_count_10 : decode cX4_count 10 = .ok (.getfield 55, 3) := by decide +kernel
theorem dX4_count_13 : decode cX4_count 13 = .ok (.goto 40, 3) := by decide +kernel
theorem dX4_count_16 : decode cX4_count 16 = .ok (.iload_n 1, 1) := by decide +kernel
theorem dX4_count_17 : decode cX4_count 17 = .ok (.iconst 1, 1) := by decide +kernel
theorem dX4_count_18 : decode cX4_count 18 = .ok (.if_icmp .ne 10, 3) := by decide +kernel
theorem dX4_count_21 : decode cX4_count 21 = .ok (.aload_n 0, 1) := by decide +kernel
theorem dX4_count_22 : decode cX4_count 22 = .ok (.getfield 99, 3) := by decide +kernel
theorem dX4_count_25 : decode cX4_count 25 = .ok (.goto 28, 3) := by decide +kernel
theorem dX4_count_28 : decode cX4_count 28 = .ok (.iload_n 1, 1) := by decide +kernel
theorem dX4_count_29 : decode cX4_count 29 = .ok (.iconst 2, 1) := by decide +kernel
theorem dX4_count_30 : decode cX4_count 30 = .ok (.if_icmp .ne 10, 3) := by decide +kernel
theorem dX4_count_33 : decode cX4_count 33 = .ok (.aload_n 0, 1) := by decide +kernel
theorem dX4_count_34 : decode cX4_count 34 = .ok (.getfield 105, 3) := by decide +kernel
theorem dX4_count_37 : decode cX4_count 37 = .ok (.goto 16, 3) := by decide +kernel
theorem dX4_count_40 : decode cX4_count 40 = .ok (.iload_n 1, 1) := by decide +kernel
theorem dX4_count_41 : decode cX4_count 41 = .ok (.iconst 3, 1) := by decide +kernel
theorem dX4_count_42 : decode cX4_count 42 = .ok (.if_icmp .ne 10, 3) := by decide +kernel
theorem dX4_count_45 : decode cX4_count 45 = .ok (.aload_n 0, 1) := by decide +kernel
theorem dX4_count_46 : decode cX4_count 46 = .ok (.invokevirtual 108, 3) := by decide +kernel
theorem dX4_count_49 : decode cX4_count 49 = .ok (.goto 4, 3) := by decide +kernel
theorem dX4_count_52 : decode cX4_count 52 = .ok (.iconst (-1), 1) := by decide +kernel
theorem dX4_count_53 : decode cX4_count 53 = .ok (.ireturn, 1) := by decide +kernel
theorem dJx00060_init_a7421_0 : decode cJx00060_init_a7421 0 = .ok (.aload_n 0, 1) := by decide +kernel
theorem dJx00060_init_a7421_1 : decode cJx00060_init_a7421 1 = .ok (.aload_n 1, 1) := by decide +kernel
theorem dJx00060_init_a7421_2 : decode cJx00060_init_a7421 2 = .ok (.invokespecial 7, 3) := by decide +kernel
theorem dJx00060_init_a7421_5 : decode cJx00060_init_a7421 5 = .ok (.return_, 1) := by decide +kernel
theorem dJ9_max_7cf53_0 : decode cJ9_max_7cf53 0 = .ok (.iload_n 0, 1) := by decide +kernel
theorem dJ9_max_7cf53_1 : decode cJ9_max_7cf53 1 = .ok (.iload_n 1, 1) := by decide +kernel
theorem dJ9_max_7cf53_2 : decode cJ9_max_7cf53 2 = .ok (.if_icmp .lt 7, 3) := by decide +kernel
theorem dJ9_max_7cf53_5 : decode cJ9_max_7cf53 5 = .ok (.iload_n 0, 1) := by decide +kernel
theorem dJ9_max_7cf53_6 : decode cJ9_max_7cf53 6 = .ok (.goto 4, 3) := by decide +kernel
theorem dJ9_max_7cf53_9 : decode cJ9_max_7cf53 9 = .ok (.iload_n 1, 1) := by decide +kernel
theorem dJ9_max_7cf53_10 : decode cJ9_max_7cf53 10 = .ok (.ireturn, 1) := by decide +kernel
theorem dJ9_min_7cf53_0 : decode cJ9_min_7cf53 0 = .ok (.iload_n 0, 1) := by decide +kernel
theorem dJ9_min_7cf53_1 : decode cJ9_min_7cf53 1 = .ok (.iload_n 1, 1) := by decide +kernel
theorem dJ9_min_7cf53_2 : decode cJ9_min_7cf53 2 = .ok (.if_icmp .gt 7, 3) := by decide +kernel
theorem dJ9_min_7cf53_5 : decode cJ9_min_7cf53 5 = .ok (.iload_n 0, 1) := by decide +kernel
theorem dJ9_min_7cf53_6 : decode cJ9_min_7cf53 6 = .ok (.goto 4, 3) := by decide +kernel
theorem dJ9_min_7cf53_9 : decode cJ9_min_7cf53 9 = .ok (.iload_n 1, 1) := by decide +kernel
theorem dJ9_min_7cf53_10 : decode cJ9_min_7cf53 10 = .ok (.ireturn, 1) := by decide +kernel
theorem dJ7_fill_53178_0 : decode cJ7_fill_53178 0 = .ok (.iconst 0, 1) := by decide +kernel
theorem dJ7_fill_53178_1 : decode cJ7_fill_53178 1 = .ok (.istore_n 2, 1) := by decide +kernel
theorem dJ7_fill_53178_2 : decode cJ7_fill_53178 2 = .ok (.aload_n 0, 1) := by decide +kernel
theorem dJ7_fill_53178_3 : decode cJ7_fill_53178 3 = .ok (.arraylength, 1) := by decide +kernel
theorem dJ7_fill_53178_4 : decode cJ7_fill_53178 4 = .ok (.istore_n 3, 1) := by decide +kernel
theorem dJ7_fill_53178_5 : decode cJ7_fill_53178 5 = .ok (.iload_n 2, 1) := by decide +kernel
theorem dJ7_fill_53178_6 : decode cJ7_fill_53178 6 = .ok (.iload_n 3, 1) := by decide +kernel
theorem dJ7_fill_53178_7 : decode cJ7_fill_53178 7 = .ok (.if_icmp .ge 13, 3) := by decide +kernel
theorem dJ7_fill_53178_10 : decode cJ7_fill_53178 10 = .ok (.aload_n 0, 1) := by decide +kernel
theorem dJ7_fill_53178_11 : decode cJ7_fill_53178 11 = .ok (.iload_n 2, 1) := by decide +kernel
theorem dJ7_fill_53178_12 : decode cJ7_fill_53178 12 = .ok (.iload_n 1, 1) := by decide +kernel
theorem dJ7_fill_53178_13 : decode cJ7_fill_53178 13 = .ok (.iastore, 1) := by decide +kernel
theorem dJ7_fill_53178_14 : decode cJ7_fill_53178 14 = .ok (.iinc 2 1, 3) := by decide +kernel
theorem dJ7_fill_53178_17 : decode cJ7_fill_53178 17 = .ok (.goto (-12), 3) := by decide +kernel
theorem dJ7_fill_53178_20 : decode cJ7_fill_53178 20 = .ok (.return_, 1) := by decide +kernel
theorem dL_cell_0 : decode cL_cell 0 = .ok (.iload_n 1, 1) := by decide +kernel
theorem dL_cell_1 : decode cL_cell 1 = .ok (.aload_n 0, 1) := by decide +kernel
theorem dL_cell_2 : decode cL_cell 2 = .ok (.arraylength, 1) := by decide +kernel
theorem dL_cell_3 : decode cL_cell 3 = .ok (.if_icmp .ge 9, 3) := by decide +kernel
theorem dL_cell_6 : decode cL_cell 6 = .ok (.aload_n 0, 1) := by decide +kernel
theorem dL_cell_7 : decode cL_cell 7 = .ok (.iload_n 1, 1) := by decide +kernel
theorem dL_cell_8 : decode cL_cell 8 = .ok (.iaload, 1) := by decide +kernel
theorem dL_cell_9 : decode cL_cell 9 = .ok (.goto 4, 3) := by decide +kernel
theorem dL_cell_12 : decode cL_cell 12 = .ok (.iconst 0, 1) := by decide +kernel
theorem dL_cell_13 : decode cL_cell 13 = .ok (.ireturn, 1) := by decide +kernel
set_option maxRecDepth 20000 in
theorem ggL_get_X3_get : GoodIn wsL_get wsX3_get := goodIn_ca (goodIn_ca (goodIn_r _ [6, 7, 8, 9, 10, 11, 5, 12, 13, 14, 15, 16, 17, 18] (by decide +kernel) (by decide +kernel)) (goodIn_sub (fun _ h => List.mem_cons_of_mem _ (List.mem_append_right _ h)) (by decide +kernel))) (goodIn_sub (fun _ h => List.mem_cons_of_mem _ (List.mem_append_left _ (List.mem_append_right _ h))) (by decide +kernel))
set_option maxRecDepth 20000 in
theorem gL_get_X3_get : GoodIn wsL_get (wsV RL 7 RX3 yX3_get wsX3_get) := goodIn_app (goodIn_of _ (by decide +kernel)) ggL_get_X3_get
theorem dL_get_0 : decode cL_get 0 = .ok (.aload_n 2, 1) := by decide +kernel
theorem dL_get_1 : decode cL_get 1 = .ok (.iconst 0, 1) := by decide +kernel
theorem dL_get_2 : decode cL_get 2 = .ok (.aload_n 0, 1) := by decide +kernel
theorem dL_get_3 : decode cL_get 3 = .ok (.iload_n 1, 1) := by decide +kernel
theorem dL_get_4 : decode cL_get 4 = .ok (.invokevirtual 7, 3) := by decide +kernel
theorem dL_get_7 : decode cL_get 7 = .ok (.lastore, 1) := by decide +kernel
theorem dL_get_8 : decode cL_get 8 = .ok (.goto 6, 3) := by decide +kernel
theorem dL_get_11 : decode cL_get 11 = .ok (.astore_n 3, 1) := by decide +kernel
theorem dL_get_12 : decode cL_get 12 = .ok (.iconst 1, 1) := by decide +kernel
theorem dL_get_13 : decode cL_get 13 = .ok (.ireturn, 1) := by decide +kernel
theorem dL_get_14 : decode cL_get 14 = .ok (.iconst 0, 1) := by decide +kernel
theorem dL_get_15 : decode cL_get 15 = .ok (.ireturn, 1) := by decide +kernel
set_option maxRecDepth 20000 in
theorem ggL_at_X3_at : GoodIn wsL_at wsX3_at := goodIn_ca (goodIn_r _ [6, 7, 8, 9, 10, 11, 12, 13, 14, 15, 16, 17, 18, 19, 20, 21, 22, 23, 24, 25, 26, 27, 28, 29, 30, 31, 32, 33, 34, 35, 36, 37, 38, 39, 40, 41, 42, 43, 44, 45, 46, 47, 48, 49] (by decide +kernel) (by decide +kernel)) (goodIn_sub (fun _ h => List.mem_cons_of_mem _ (List.mem_append_right _ h)) (by decide +kernel))
set_option maxRecDepth 20000 in
theorem gL_at_X3_at : GoodIn wsL_at (wsV RL 15 RX3 yX3_at wsX3_at) := goodIn_app (goodIn_of _ (by decide +kernel)) ggL_at_X3_at
theorem dL_at_0 : decode cL_at 0 = .ok (.aload_n 3, 1) := by decide +kernel
theorem dL_at_1 : decode cL_at 1 = .ok (.iconst 0, 1) := by decide +kernel
theorem dL_at_2 : decode cL_at 2 = .ok (.aload_n 0, 1) := by decide +kernel
theorem dL_at_3 : decode cL_at 3 = .ok (.iload_n 1, 1) := by decide +kernel
theorem dL_at_4 : decode cL_at 4 = .ok (.iload_n 2, 1) := by decide +kernel
theorem dL_at_5 : decode cL_at 5 = .ok (.invokevirtual 15, 3) := by decide +kernel
theorem dL_at_8 : decode cL_at 8 = .ok (.i2l, 1) := by decide +kernel
theorem dL_at_9 : decode cL_at 9 = .ok (.lastore, 1) := by decide +kernel
theorem dL_at_10 : decode cL_at 10 = .ok (.goto 7, 3) := by decide +kernel
theorem dL_at_13 : decode cL_at 13 = .ok (.astore 4, 2) := by decide +kernel
theorem dL_at_15 : decode cL_at 15 = .ok (.iconst 1, 1) := by decide +kernel
theorem dL_at_16 : decode cL_at 16 = .ok (.ireturn, 1) := by decide +kernel
theorem dL_at_17 : decode cL_at 17 = .ok (.iconst 0, 1) := by decide +kernel
theorem dL_at_18 : decode cL_at 18 = .ok (.ireturn, 1) := by decide +kernel
set_option maxRecDepth 20000 in
theorem ggL_law_L_cell : GoodIn wsL_law wsL_cell := goodIn_ca (goodIn_r _ [11] (by decide +kernel) (by decide +kernel)) (goodIn_sub (fun _ h => List.mem_append_left _ (List.mem_append_right _ h)) (by decide +kernel))
set_option maxRecDepth 20000 in
theorem gL_law_L_cell : GoodIn wsL_law (va_wsS RL 21 yL_cell wsL_cell) := goodIn_app (goodIn_of _ (by decide +kernel)) ggL_law_L_cell
set_option maxRecDepth 20000 in
theorem ggL_law_X3_init : GoodIn wsL_law wsX3_init := goodIn_r _ [14, 15, 16, 17, 6, 18, 19, 20, 21, 22, 23, 24, 25, 26, 27, 28, 29, 30, 31, 32, 33, 34, 35, 36, 37, 38, 39, 40, 41, 42, 43, 44, 45, 46, 47, 48, 49, 50, 51, 52, 53, 54, 55, 56, 57, 58, 59, 60, 61, 62, 63, 64, 65, 66, 67, 68, 69, 70, 71, 72, 73, 482, 483, 484, 485, 486, 487, 506, 507, 508, 509, 510, 511, 512, 513, 514, 515, 516, 517, 518, 519, 520, 521, 522] (by decide +kernel) (by decide +kernel)
set_option maxRecDepth 20000 in
theorem gL_law_X3_init : GoodIn wsL_law (wsX3_init) := ggL_law_X3_init
set_option maxRecDepth 20000 in
theorem ggL_law_X4_init : GoodIn wsL_law wsX4_init := goodIn_r _ [76, 77, 16, 17, 6, 78, 43, 79, 80, 81, 82, 83, 84, 50, 85, 86, 87, 88, 89, 90, 488, 489, 490, 491, 492, 493, 494, 495, 496, 497, 498, 499, 500, 501, 502, 503, 504, 505] (by decide +kernel) (by decide +kernel)
set_option maxRecDepth 20000 in
theorem gL_law_X4_init : GoodIn wsL_law (wsX4_init) := ggL_law_X4_init
set_option maxRecDepth 20000 in
theorem ggL_law_X3_row : GoodIn wsL_law wsX3_row := goodIn_ca (goodIn_r _ [94, 26, 18, 22, 95, 96, 2, 97, 98, 99, 100, 101, 102, 103, 25, 104, 58, 105, 106, 107, 108, 59, 109, 110, 111, 112, 113, 114, 115, 21, 116, 52, 117, 118, 119, 120, 31, 121, 122, 123, 124, 44, 45, 46, 47, 48, 51, 49, 125, 126, 127, 128, 129, 130, 131, 132, 133, 134, 135, 136, 30, 137, 67, 72, 138, 139, 140, 141, 73, 71, 142, 143, 144, 145, 68, 482, 483, 484, 485, 486, 487, 515, 516, 506, 507, 508, 509, 510, 511, 512, 513, 514, 517, 518, 519, 520, 521, 522] (by decide +kernel) (by decide +kernel)) (goodIn_sub (fun _ h => List.mem_append_left _ (List.mem_append_right _ h)) (by decide +kernel))
set_option maxRecDepth 20000 in
theorem gL_law_X3_row : GoodIn wsL_law (wsV RL 35 RX3 yX3_row wsX3_row) := goodIn_app (goodIn_of _ (by decide +kernel)) ggL_law_X3_row
set_option maxRecDepth 20000 in
theorem ggL_law_X4_row : GoodIn wsL_law wsX4_row := goodIn_ca (goodIn_r _ [149, 150, 151, 78, 152, 153, 5, 154, 155, 156, 157, 158, 159, 160, 161, 80, 79, 162, 163, 164, 165, 81, 166, 167, 168, 169, 170, 171, 172, 173, 85, 174, 175, 176, 177, 83, 84, 82, 178, 87, 179, 180, 181, 182, 86, 88, 488, 489, 490, 491, 492, 493, 494, 495, 496, 497, 498, 499, 500, 501, 502, 503, 504, 505] (by decide +kernel) (by decide +kernel)) (goodIn_sub (fun _ h => List.mem_append_left _ (List.mem_append_right _ h)) (by decide +kernel))
set_option maxRecDepth 20000 in
theorem gL_law_X4_row : GoodIn wsL_law (wsV RL 39 RX4 yX4_row wsX4_row) := goodIn_app (goodIn_of _ (by decide +kernel)) ggL_law_X4_row
set_option maxRecDepth 20000 in
theorem ggL_law_X3_sync : GoodIn wsL_law wsX3_sync := goodIn_ca (goodIn_r _ [186, 26, 22, 95, 96, 2, 97, 187, 110, 111, 25, 112, 58, 113, 114, 115, 21, 116, 52, 188, 189, 190, 191, 31, 18, 121, 122, 123, 124, 44, 45, 46, 47, 48, 51, 49, 125, 126, 127, 128, 129, 59, 99, 100, 134, 135, 136, 30, 137, 67, 72, 138, 139, 140, 141, 73, 71, 142, 143, 144, 145, 68, 482, 483, 484, 485, 486, 487, 515, 516, 506, 507, 508, 509, 510, 511, 512, 513, 514, 517, 518, 519, 520, 521, 522] (by decide +kernel) (by decide +kernel)) (goodIn_sub (fun _ h => List.mem_append_left _ (List.mem_append_right _ h)) (by decide +kernel))
set_option maxRecDepth 20000 in
theorem gL_law_X3_sync : GoodIn wsL_law (wsV RL 40 RX3 yX3_sync wsX3_sync) := goodIn_app (goodIn_of _ (by decide +kernel)) ggL_law_X3_sync
set_option maxRecDepth 20000 in
theorem ggL_law_X4_sync : GoodIn wsL_law wsX4_sync := goodIn_ca (goodIn_r _ [195, 150, 151, 152, 153, 5, 154, 166, 167, 168, 169, 158, 159, 160, 161, 80, 79, 174, 175, 176, 177, 81, 83, 84, 82, 85, 78, 178, 87, 179, 180, 181, 182, 86, 88, 488, 489, 490, 491, 492, 493, 494, 495, 496, 497, 498, 499, 500, 501, 502, 503, 504, 505] (by decide +kernel) (by decide +kernel)) (goodIn_sub (fun _ h => List.mem_append_left _ (List.mem_append_right _ h)) (by decide +kernel))
set_option maxRecDepth 20000 in
theorem gL_law_X4_sync : GoodIn wsL_law (wsV RL 44 RX4 yX4_sync wsX4_sync) := goodIn_app (goodIn_of _ (by decide +kernel)) ggL_law_X4_sync
set_option maxRecDepth 20000 in
theorem ggL_law_X3_copy : GoodIn wsL_law wsX3_copy := goodIn_ca (goodIn_r _ [199, 31, 22, 18, 200, 201, 202, 21, 203, 52, 204, 139, 140, 30, 141, 73, 71, 72, 142, 143, 144, 145, 68, 205, 206, 207, 208, 67, 482, 483, 484, 485, 486, 487, 506, 507, 508, 509, 510, 511, 512, 513, 514, 517, 518, 519, 520, 521, 522] (by decide +kernel) (by decide +kernel)) (goodIn_sub (fun _ h => List.mem_append_left _ (List.mem_append_right _ h)) (by decide +kernel))
set_option maxRecDepth 20000 in
theorem gL_law_X3_copy : GoodIn wsL_law (wsV RL 45 RX3 yX3_copy wsX3_copy) := goodIn_app (goodIn_of _ (by decide +kernel)) ggL_law_X3_copy
set_option maxRecDepth 20000 in
theorem ggL_law_X4_copy : GoodIn wsL_law wsX4_copy := goodIn_ca (goodIn_r _ [212, 150, 213, 86, 78, 87, 151, 88, 89, 178, 179, 180, 181, 5, 182, 488, 489, 490, 491, 492, 493, 494, 495, 496, 497, 498, 499, 500, 501, 502, 503, 504, 505] (by decide +kernel) (by decide +kernel)) (goodIn_sub (fun _ h => List.mem_append_left _ (List.mem_append_right _ h)) (by decide +kernel))
set_option maxRecDepth 20000 in
theorem gL_law_X4_copy : GoodIn wsL_law (wsV RL 49 RX4 yX4_copy wsX4_copy) := goodIn_app (goodIn_of _ (by decide +kernel)) ggL_law_X4_copy
set_option maxRecDepth 20000 in
theorem ggL_law_X3_recover : GoodIn wsL_law wsX3_recover := goodIn_ca (goodIn_r _ [217, 31, 22, 18, 27, 26, 200, 201, 202, 21, 203, 52, 204, 139, 140, 30, 141, 73, 71, 72, 142, 143, 144, 145, 68, 218, 219, 220, 221, 69, 222, 223, 224, 225, 226, 227, 228, 229, 230, 231, 232, 25, 233, 58, 59, 60, 61, 62, 63, 234, 235, 236, 237, 44, 238, 239, 240, 241, 242, 243, 244, 245, 45, 246, 247, 248, 249, 46, 250, 127, 128, 129, 96, 2, 97, 99, 100, 251, 252, 253, 254, 67, 255, 256, 257, 258, 259, 260, 261, 262, 49, 263, 264, 265, 266, 267, 268, 269, 270, 51, 271, 272, 273, 274, 275, 187, 110, 111, 112, 276, 277, 278, 279, 280, 281, 282, 283, 284, 285, 286, 287, 288, 289, 290, 291, 292, 293, 294, 295, 296, 297, 298, 299, 300, 301, 48, 130, 131, 132, 133, 98, 302, 303, 304, 305, 306, 307, 308, 309, 310, 33, 34, 35, 53, 311, 312, 313, 314, 315, 316, 317, 318, 319, 320, 321, 322, 323, 324, 325, 326, 47, 117, 118, 119, 120, 121, 122, 123, 124, 125, 114, 115, 116, 126, 134, 135, 136, 137, 138, 188, 189, 190, 191, 327, 482, 483, 484, 485, 486, 487, 506, 507, 508, 509, 510, 511, 512, 513, 514, 517, 518, 519, 520, 521, 522, 515, 516] (by decide +kernel) (by decide +kernel)) (goodIn_sub (fun _ h => List.mem_append_left _ (List.mem_append_right _ h)) (by decide +kernel))
set_option maxRecDepth 20000 in
theorem gL_law_X3_recover : GoodIn wsL_law (wsV RL 50 RX3 yX3_recover wsX3_recover) := goodIn_app (goodIn_of _ (by decide +kernel)) ggL_law_X3_recover
set_option maxRecDepth 20000 in
theorem ggL_law_X4_recover : GoodIn wsL_law wsX4_recover := goodIn_ca (goodIn_r _ [331, 150, 213, 89, 151, 88, 78, 86, 87, 79, 81, 84, 332, 179, 180, 181, 5, 182, 178, 333, 334, 335, 336, 85, 80, 337, 338, 339, 340, 82, 158, 159, 160, 161, 341, 342, 343, 344, 170, 171, 172, 173, 345, 346, 347, 348, 83, 174, 175, 176, 177, 349, 350, 351, 352, 488, 489, 490, 491, 492, 493, 494, 495, 496, 497, 498, 499, 500, 501, 502, 503, 504, 505] (by decide +kernel) (by decide +kernel)) (goodIn_sub (fun _ h => List.mem_append_left _ (List.mem_append_right _ h)) (by decide +kernel))
set_option maxRecDepth 20000 in
theorem gL_law_X4_recover : GoodIn wsL_law (wsV RL 54 RX4 yX4_recover wsX4_recover) := goodIn_app (goodIn_of _ (by decide +kernel)) ggL_law_X4_recover
set_option maxRecDepth 20000 in
theorem ggL_law_L_get : GoodIn wsL_law wsL_get := goodIn_ca (goodIn_ca (goodIn_r _ [355, 356, 357, 358, 359, 2, 360, 361, 362, 18, 98, 99, 100, 482, 483, 484, 485, 486, 487] (by decide +kernel) (by decide +kernel)) (goodIn_sub (fun _ h => List.mem_append_left _ (List.mem_append_right _ h)) (by decide +kernel))) (goodIn_sub (fun _ h => List.mem_append_right _ h) (by decide +kernel))
set_option maxRecDepth 20000 in
theorem gL_law_L_get : GoodIn wsL_law (va_wsS RL 55 yL_get wsL_get) := goodIn_app (goodIn_of _ (by decide +kernel)) ggL_law_L_get
set_option maxRecDepth 20000 in
theorem ggL_law_X4_get : GoodIn wsL_law wsX4_get := goodIn_ca (goodIn_r _ [366, 150, 78, 155, 156, 5, 157, 488, 489, 490, 491, 492, 493, 494, 495, 496, 497, 498, 499, 500, 501, 502, 503, 504, 505] (by decide +kernel) (by decide +kernel)) (goodIn_sub (fun _ h => List.mem_append_left _ (List.mem_append_right _ h)) (by decide +kernel))
set_option maxRecDepth 20000 in
theorem gL_law_X4_get : GoodIn wsL_law (wsV RL 58 RX4 yX4_get wsX4_get) := goodIn_app (goodIn_of _ (by decide +kernel)) ggL_law_X4_get
set_option maxRecDepth 20000 in
theorem ggL_law_X4_thrown : GoodIn wsL_law wsX4_thrown := goodIn_r _ [370, 150, 488, 489, 490, 491, 492, 493, 494, 495, 496, 497, 498, 499, 500, 501, 502, 503, 504, 505] (by decide +kernel) (by decide +kernel)
set_option maxRecDepth 20000 in
theorem gL_law_X4_thrown : GoodIn wsL_law (wsV RL 59 RX4 yX4_thrown wsX4_thrown) := goodIn_app (goodIn_of _ (by decide +kernel)) ggL_law_X4_thrown
set_option maxRecDepth 20000 in
theorem ggL_law_X3_backout : GoodIn wsL_law wsX3_backout := goodIn_ca (goodIn_r _ [374, 26, 22, 95, 96, 2, 97, 187, 110, 111, 25, 112, 58, 375, 376, 377, 378, 200, 201, 202, 21, 203, 52, 259, 260, 261, 262, 49, 238, 239, 240, 241, 267, 268, 269, 270, 51, 271, 272, 273, 274, 44, 275, 243, 244, 245, 45, 379, 380, 381, 382, 113, 114, 115, 116, 319, 320, 321, 322, 297, 247, 248, 249, 46, 298, 299, 300, 301, 48, 323, 324, 325, 326, 47, 117, 118, 119, 120, 31, 18, 121, 122, 123, 124, 125, 126, 127, 128, 129, 59, 99, 100, 130, 131, 132, 133, 98, 134, 135, 136, 30, 137, 67, 72, 138, 139, 140, 141, 73, 71, 142, 143, 144, 145, 68, 188, 189, 190, 191, 482, 483, 484, 485, 486, 487, 515, 516, 506, 507, 508, 509, 510, 511, 512, 513, 514, 517, 518, 519, 520, 521, 522] (by decide +kernel) (by decide +kernel)) (goodIn_sub (fun _ h => List.mem_append_left _ (List.mem_append_right _ h)) (by decide +kernel))
set_option maxRecDepth 20000 in
theorem gL_law_X3_backout : GoodIn wsL_law (wsV RL 63 RX3 yX3_backout wsX3_backout) := goodIn_app (goodIn_of _ (by decide +kernel)) ggL_law_X3_backout
set_option maxRecDepth 20000 in
theorem ggL_law_X4_backout : GoodIn wsL_law wsX4_backout := goodIn_ca (goodIn_r _ [386, 150, 151, 152, 153, 5, 154, 166, 167, 168, 169, 158, 159, 160, 161, 80, 79, 170, 171, 172, 173, 85, 337, 338, 339, 340, 82, 341, 342, 343, 344, 345, 346, 347, 348, 81, 84, 83, 174, 175, 176, 177, 78, 178, 87, 179, 180, 181, 182, 86, 88, 488, 489, 490, 491, 492, 493, 494, 495, 496, 497, 498, 499, 500, 501, 502, 503, 504, 505] (by decide +kernel) (by decide +kernel)) (goodIn_sub (fun _ h => List.mem_append_left _ (List.mem_append_right _ h)) (by decide +kernel))
set_option maxRecDepth 20000 in
theorem gL_law_X4_backout : GoodIn wsL_law (wsV RL 66 RX4 yX4_backout wsX4_backout) := goodIn_app (goodIn_of _ (by decide +kernel)) ggL_law_X4_backout
set_option maxRecDepth 20000 in
theorem ggL_law_X3_torn : GoodIn wsL_law wsX3_torn := goodIn_ca (goodIn_r _ [390, 22, 391, 239, 240, 21, 241, 52, 392, 393, 394, 395, 53, 396, 397, 398, 399, 49, 238, 482, 483, 484, 485, 486, 487, 506, 507, 508, 509, 510, 511, 512, 513, 514] (by decide +kernel) (by decide +kernel)) (goodIn_sub (fun _ h => List.mem_append_left _ (List.mem_append_right _ h)) (by decide +kernel))
set_option maxRecDepth 20000 in
theorem gL_law_X3_torn : GoodIn wsL_law (wsV RL 67 RX3 yX3_torn wsX3_torn) := goodIn_app (goodIn_of _ (by decide +kernel)) ggL_law_X3_torn
set_option maxRecDepth 20000 in
theorem ggL_law_X4_torn : GoodIn wsL_law wsX4_torn := goodIn_ca (goodIn_r _ [403, 150, 151, 332, 82, 488, 489, 490, 491, 492, 493, 494, 495, 496, 497, 498, 499, 500, 501, 502, 503, 504, 505] (by decide +kernel) (by decide +kernel)) (goodIn_sub (fun _ h => List.mem_append_left _ (List.mem_append_right _ h)) (by decide +kernel))
set_option maxRecDepth 20000 in
theorem gL_law_X4_torn : GoodIn wsL_law (wsV RL 70 RX4 yX4_torn wsX4_torn) := goodIn_app (goodIn_of _ (by decide +kernel)) ggL_law_X4_torn
set_option maxRecDepth 20000 in
theorem ggL_law_X3_archive : GoodIn wsL_law wsX3_archive := goodIn_r _ [407, 22, 200, 201, 202, 21, 203, 52, 408, 409, 410, 411, 53, 412, 37, 34, 38, 392, 393, 394, 395, 482, 483, 484, 485, 486, 487, 506, 507, 508, 509, 510, 511, 512, 513, 514] (by decide +kernel) (by decide +kernel)
set_option maxRecDepth 20000 in
theorem gL_law_X3_archive : GoodIn wsL_law (wsV RL 71 RX3 yX3_archive wsX3_archive) := goodIn_app (goodIn_of _ (by decide +kernel)) ggL_law_X3_archive
set_option maxRecDepth 20000 in
theorem ggL_law_X4_archive : GoodIn wsL_law wsX4_archive := goodIn_r _ [416, 150, 151, 332, 488, 489, 490, 491, 492, 493, 494, 495, 496, 497, 498, 499, 500, 501, 502, 503, 504, 505] (by decide +kernel) (by decide +kernel)
set_option maxRecDepth 20000 in
theorem gL_law_X4_archive : GoodIn wsL_law (wsV RL 74 RX4 yX4_archive wsX4_archive) := goodIn_app (goodIn_of _ (by decide +kernel)) ggL_law_X4_archive
set_option maxRecDepth 20000 in
theorem ggL_law_X3_gap : GoodIn wsL_law wsX3_gap := goodIn_ca (goodIn_r _ [420, 22, 200, 201, 202, 21, 203, 52, 259, 260, 261, 262, 49, 238, 239, 240, 241, 482, 483, 484, 485, 486, 487, 506, 507, 508, 509, 510, 511, 512, 513, 514] (by decide +kernel) (by decide +kernel)) (goodIn_sub (fun _ h => List.mem_append_left _ (List.mem_append_right _ h)) (by decide +kernel))
set_option maxRecDepth 20000 in
theorem gL_law_X3_gap : GoodIn wsL_law (wsV RL 75 RX3 yX3_gap wsX3_gap) := goodIn_app (goodIn_of _ (by decide +kernel)) ggL_law_X3_gap
set_option maxRecDepth 20000 in
theorem ggL_law_X4_gap : GoodIn wsL_law wsX4_gap := goodIn_ca (goodIn_r _ [424, 150, 151, 337, 338, 339, 5, 340, 82, 488, 489, 490, 491, 492, 493, 494, 495, 496, 497, 498, 499, 500, 501, 502, 503, 504, 505] (by decide +kernel) (by decide +kernel)) (goodIn_sub (fun _ h => List.mem_append_left _ (List.mem_append_right _ h)) (by decide +kernel))
set_option maxRecDepth 20000 in
theorem gL_law_X4_gap : GoodIn wsL_law (wsV RL 78 RX4 yX4_gap wsX4_gap) := goodIn_app (goodIn_of _ (by decide +kernel)) ggL_law_X4_gap
set_option maxRecDepth 20000 in
theorem ggL_law_X3_merge : GoodIn wsL_law wsX3_merge := goodIn_ca (goodIn_r _ [428, 22, 39, 200, 201, 202, 21, 203, 52, 275, 243, 244, 245, 45, 238, 239, 240, 241, 482, 483, 484, 485, 486, 487, 506, 507, 508, 509, 510, 511, 512, 513, 514] (by decide +kernel) (by decide +kernel)) (goodIn_sub (fun _ h => List.mem_append_left _ (List.mem_append_right _ h)) (by decide +kernel))
set_option maxRecDepth 20000 in
theorem gL_law_X3_merge : GoodIn wsL_law (wsV RL 79 RX3 yX3_merge wsX3_merge) := goodIn_app (goodIn_of _ (by decide +kernel)) ggL_law_X3_merge
set_option maxRecDepth 20000 in
theorem ggL_law_X4_merge : GoodIn wsL_law wsX4_merge := goodIn_ca (goodIn_r _ [432, 150, 151, 80, 90, 488, 489, 490, 491, 492, 493, 494, 495, 496, 497, 498, 499, 500, 501, 502, 503, 504, 505] (by decide +kernel) (by decide +kernel)) (goodIn_sub (fun _ h => List.mem_append_left _ (List.mem_append_right _ h)) (by decide +kernel))
set_option maxRecDepth 20000 in
theorem gL_law_X4_merge : GoodIn wsL_law (wsV RL 82 RX4 yX4_merge wsX4_merge) := goodIn_app (goodIn_of _ (by decide +kernel)) ggL_law_X4_merge
set_option maxRecDepth 20000 in
theorem ggL_law_L_at : GoodIn wsL_law wsL_at := goodIn_ca (goodIn_r _ [435, 436, 437, 438, 439, 2, 440, 22, 441, 442, 443, 391, 239, 240, 21, 241, 52, 444, 445, 446, 447, 44, 45, 46, 47, 48, 49, 51, 238, 482, 483, 484, 485, 486, 487, 523, 524, 525, 526, 527, 528, 506, 507, 508, 509, 510, 511, 512, 513, 514] (by decide +kernel) (by decide +kernel)) (goodIn_sub (fun _ h => List.mem_append_left _ (List.mem_append_right _ h)) (by decide +kernel))
set_option maxRecDepth 20000 in
theorem gL_law_L_at : GoodIn wsL_law (va_wsS RL 83 yL_at wsL_at) := goodIn_app (goodIn_of _ (by decide +kernel)) ggL_law_L_at
set_option maxRecDepth 20000 in
theorem ggL_law_X4_at : GoodIn wsL_law wsX4_at := goodIn_ca (goodIn_r _ [451, 151, 150, 79, 80, 81, 83, 84, 82, 85, 488, 489, 490, 491, 492, 493, 494, 495, 496, 497, 498, 499, 500, 501, 502, 503, 504, 505] (by decide +kernel) (by decide +kernel)) (goodIn_sub (fun _ h => List.mem_append_left _ (List.mem_append_right _ h)) (by decide +kernel))
set_option maxRecDepth 20000 in
theorem gL_law_X4_at : GoodIn wsL_law (wsV RL 86 RX4 yX4_at wsX4_at) := goodIn_app (goodIn_of _ (by decide +kernel)) ggL_law_X4_at
set_option maxRecDepth 20000 in
theorem ggL_law_X3_warm : GoodIn wsL_law wsX3_warm := goodIn_ca (goodIn_r _ [455, 26, 280, 281, 282, 25, 283, 284, 285, 286, 287, 58, 482, 483, 484, 485, 486, 487, 515, 516] (by decide +kernel) (by decide +kernel)) (goodIn_sub (fun _ h => List.mem_append_left _ (List.mem_append_right _ h)) (by decide +kernel))
set_option maxRecDepth 20000 in
theorem gL_law_X3_warm : GoodIn wsL_law (wsV RL 87 RX3 yX3_warm wsX3_warm) := goodIn_app (goodIn_of _ (by decide +kernel)) ggL_law_X3_warm
set_option maxRecDepth 20000 in
theorem ggL_law_X4_warm : GoodIn wsL_law wsX4_warm := goodIn_ca (goodIn_r _ [459, 150, 166, 167, 168, 5, 169, 151, 158, 159, 160, 161, 80, 79, 488, 489, 490, 491, 492, 493, 494, 495, 496, 497, 498, 499, 500, 501, 502, 503, 504, 505] (by decide +kernel) (by decide +kernel)) (goodIn_sub (fun _ h => List.mem_append_left _ (List.mem_append_right _ h)) (by decide +kernel))
set_option maxRecDepth 20000 in
theorem gL_law_X4_warm : GoodIn wsL_law (wsV RL 90 RX4 yX4_warm wsX4_warm) := goodIn_app (goodIn_of _ (by decide +kernel)) ggL_law_X4_warm
set_option maxRecDepth 20000 in
theorem ggL_law_X3_ahead : GoodIn wsL_law wsX3_ahead := goodIn_ca (goodIn_r _ [463, 464, 418, 419, 2, 420, 22, 200, 201, 202, 21, 203, 52, 259, 260, 261, 262, 49, 238, 239, 240, 241, 482, 483, 484, 485, 486, 487, 506, 507, 508, 509, 510, 511, 512, 513, 514] (by decide +kernel) (by decide +kernel)) (goodIn_sub (fun _ h => List.mem_append_left _ (List.mem_append_right _ h)) (by decide +kernel))
set_option maxRecDepth 20000 in
theorem gL_law_X3_ahead : GoodIn wsL_law (wsV RL 91 RX3 yX3_ahead wsX3_ahead) := goodIn_app (goodIn_of _ (by decide +kernel)) ggL_law_X3_ahead
set_option maxRecDepth 20000 in
theorem ggL_law_X4_ahead : GoodIn wsL_law wsX4_ahead := goodIn_ca (goodIn_r _ [468, 150, 469, 422, 423, 5, 424, 151, 337, 338, 339, 340, 82, 488, 489, 490, 491, 492, 493, 494, 495, 496, 497, 498, 499, 500, 501, 502, 503, 504, 505] (by decide +kernel) (by decide +kernel)) (goodIn_sub (fun _ h => List.mem_append_left _ (List.mem_append_right _ h)) (by decide +kernel))
set_option maxRecDepth 20000 in
theorem gL_law_X4_ahead : GoodIn wsL_law (wsV RL 95 RX4 yX4_ahead wsX4_ahead) := goodIn_app (goodIn_of _ (by decide +kernel)) ggL_law_X4_ahead
set_option maxRecDepth 20000 in
theorem ggL_law_X3_count : GoodIn wsL_law wsX3_count := goodIn_ca (goodIn_r _ [473, 22, 31, 26, 200, 201, 202, 21, 203, 52, 474, 475, 476, 30, 477, 72, 392, 393, 394, 395, 53, 327, 285, 286, 25, 287, 58, 482, 483, 484, 485, 486, 487, 506, 507, 508, 509, 510, 511, 512, 513, 514, 517, 518, 519, 520, 521, 522, 515, 516] (by decide +kernel) (by decide +kernel)) (goodIn_sub (fun _ h => List.mem_append_left _ (List.mem_append_right _ h)) (by decide +kernel))
set_option maxRecDepth 20000 in
theorem gL_law_X3_count : GoodIn wsL_law (wsV RL 96 RX3 yX3_count wsX3_count) := goodIn_app (goodIn_of _ (by decide +kernel)) ggL_law_X3_count
set_option maxRecDepth 20000 in
theorem ggL_law_X4_count : GoodIn wsL_law wsX4_count := goodIn_ca (goodIn_r _ [481, 150, 151, 213, 332, 349, 350, 351, 5, 352, 79, 488, 489, 490, 491, 492, 493, 494, 495, 496, 497, 498, 499, 500, 501, 502, 503, 504, 505] (by decide +kernel) (by decide +kernel)) (goodIn_sub (fun _ h => List.mem_append_left _ (List.mem_append_right _ h)) (by decide +kernel))
set_option maxRecDepth 20000 in
theorem gL_law_X4_count : GoodIn wsL_law (wsV RL 99 RX4 yX4_count wsX4_count) := goodIn_app (goodIn_of _ (by decide +kernel)) ggL_law_X4_count
theorem dL_law_0 : decode cL_law 0 = .ok (.new 8, 3) := by decide +kernel
theorem dL_law_3 : decode cL_law 3 = .ok (.dup, 1) := by decide +kernel
theorem dL_law_4 : decode cL_law 4 = .ok (.aload_n 0, 1) := by decide +kernel
theorem dL_law_5 : decode cL_law 5 = .ok (.iconst 0, 1) := by decide +kernel
theorem dL_law_6 : decode cL_law 6 = .ok (.invokestatic 21, 3) := by decide +kernel
theorem dL_law_9 : decode cL_law 9 = .ok (.invokespecial 27, 3) := by decide +kernel
theorem dL_law_12 : decode cL_law 12 = .ok (.astore_n 1, 1) := by decide +kernel
theorem dL_law_13 : decode cL_law 13 = .ok (.new 30, 3) := by decide +kernel
theorem dL_law_16 : decode cL_law 16 = .ok (.dup, 1) := by decide +kernel
theorem dL_law_17 : decode cL_law 17 = .ok (.aload_n 0, 1) := by decide +kernel
theorem dL_law_18 : decode cL_law 18 = .ok (.iconst 0, 1) := by decide +kernel
theorem dL_law_19 : decode cL_law 19 = .ok (.invokestatic 21, 3) := by decide +kernel
theorem dL_law_22 : decode cL_law 22 = .ok (.invokespecial 32, 3) := by decide +kernel
theorem dL_law_25 : decode cL_law 25 = .ok (.astore_n 2, 1) := by decide +kernel
theorem dL_law_26 : decode cL_law 26 = .ok (.iconst 1, 1) := by decide +kernel
theorem dL_law_27 : decode cL_law 27 = .ok (.newarray .long, 2) := by decide +kernel
theorem dL_law_29 : decode cL_law 29 = .ok (.astore_n 3, 1) := by decide +kernel
theorem dL_law_30 : decode cL_law 30 = .ok (.iconst 1, 1) := by decide +kernel
theorem dL_law_31 : decode cL_law 31 = .ok (.istore 4, 2) := by decide +kernel
theorem dL_law_33 : decode cL_law 33 = .ok (.iload 4, 2) := by decide +kernel
theorem dL_law_35 : decode cL_law 35 = .ok (.aload_n 0, 1) := by decide +kernel
theorem dL_law_36 : decode cL_law 36 = .ok (.arraylength, 1) := by decide +kernel
theorem dL_law_37 : decode cL_law 37 = .ok (.bipush 7, 2) := by decide +kernel
theorem dL_law_39 : decode cL_law 39 = .ok (.isub, 1) := by decide +kernel
theorem dL_law_40 : decode cL_law 40 = .ok (.if_icmp .gt 671, 3) := by decide +kernel
theorem dL_law_43 : decode cL_law 43 = .ok (.aload_n 0, 1) := by decide +kernel
theorem dL_law_44 : decode cL_law 44 = .ok (.iload 4, 2) := by decide +kernel
theorem dL_law_46 : decode cL_law 46 = .ok (.iaload, 1) := by decide +kernel
theorem dL_law_47 : decode cL_law 47 = .ok (.bipush 15, 2) := by decide +kernel
theorem dL_law_49 : decode cL_law 49 = .ok (.iand, 1) := by decide +kernel
theorem dL_law_50 : decode cL_law 50 = .ok (.tableswitch 655 0 13 #[70, 197, 222, 263, 332, 387, 412, 449, 474, 499, 536, 604, 617, 630], 70) := by decide +kernel
theorem dL_law_120 : decode cL_law 120 = .ok (.aload_n 1, 1) := by decide +kernel
theorem dL_law_121 : decode cL_law 121 = .ok (.aload_n 0, 1) := by decide +kernel
theorem dL_law_122 : decode cL_law 122 = .ok (.iload 4, 2) := by decide +kernel
theorem dL_law_124 : decode cL_law 124 = .ok (.iconst 1, 1) := by decide +kernel
theorem dL_law_125 : decode cL_law 125 = .ok (.iadd, 1) := by decide +kernel
theorem dL_law_126 : decode cL_law 126 = .ok (.iaload, 1) := by decide +kernel
theorem dL_law_127 : decode cL_law 127 = .ok (.aload_n 0, 1) := by decide +kernel
theorem dL_law_128 : decode cL_law 128 = .ok (.iload 4, 2) := by decide +kernel
theorem dL_law_130 : decode cL_law 130 = .ok (.iconst 2, 1) := by decide +kernel
theorem dL_law_131 : decode cL_law 131 = .ok (.iadd, 1) := by decide +kernel
theorem dL_law_132 : decode cL_law 132 = .ok (.iaload, 1) := by decide +kernel
theorem dL_law_133 : decode cL_law 133 = .ok (.aload_n 0, 1) := by decide +kernel
theorem dL_law_134 : decode cL_law 134 = .ok (.iload 4, 2) := by decide +kernel
theorem dL_law_136 : decode cL_law 136 = .ok (.iconst 3, 1) := by decide +kernel
theorem dL_law_137 : decode cL_law 137 = .ok (.iadd, 1) := by decide +kernel
theorem dL_law_138 : decode cL_law 138 = .ok (.iaload, 1) := by decide +kernel
theorem dL_law_139 : decode cL_law 139 = .ok (.i2l, 1) := by decide +kernel
theorem dL_law_140 : decode cL_law 140 = .ok (.bipush 32, 2) := by decide +kernel
theorem dL_law_142 : decode cL_law 142 = .ok (.lshl, 1) := by decide +kernel
theorem dL_law_143 : decode cL_law 143 = .ok (.aload_n 0, 1) := by decide +kernel
theorem dL_law_144 : decode cL_law 144 = .ok (.iload 4, 2) := by decide +kernel
theorem dL_law_146 : decode cL_law 146 = .ok (.iconst 4, 1) := by decide +kernel
theorem dL_law_147 : decode cL_law 147 = .ok (.iadd, 1) := by decide +kernel
theorem dL_law_148 : decode cL_law 148 = .ok (.iaload, 1) := by decide +kernel
theorem dL_law_149 : decode cL_law 149 = .ok (.i2l, 1) := by decide +kernel
theorem dL_law_150 : decode cL_law 150 = .ok (.ldc2_w 33, 3) := by decide +kernel
theorem dL_law_153 : decode cL_law 153 = .ok (.land, 1) := by decide +kernel
theorem dL_law_154 : decode cL_law 154 = .ok (.lor, 1) := by decide +kernel
theorem dL_law_155 : decode cL_law 155 = .ok (.aload_n 0, 1) := by decide +kernel
theorem dL_law_156 : decode cL_law 156 = .ok (.iload 4, 2) := by decide +kernel
theorem dL_law_158 : decode cL_law 158 = .ok (.iconst 5, 1) := by decide +kernel
theorem dL_law_159 : decode cL_law 159 = .ok (.iadd, 1) := by decide +kernel
theorem dL_law_160 : decode cL_law 160 = .ok (.iaload, 1) := by decide +kernel
theorem dL_law_161 : decode cL_law 161 = .ok (.i2l, 1) := by decide +kernel
theorem dL_law_162 : decode cL_law 162 = .ok (.bipush 32, 2) := by decide +kernel
theorem dL_law_164 : decode cL_law 164 = .ok (.lshl, 1) := by decide +kernel
theorem dL_law_165 : decode cL_law 165 = .ok (.aload_n 0, 1) := by decide +kernel
theorem dL_law_166 : decode cL_law 166 = .ok (.iload 4, 2) := by decide +kernel
theorem dL_law_168 : decode cL_law 168 = .ok (.bipush 6, 2) := by decide +kernel
theorem dL_law_170 : decode cL_law 170 = .ok (.iadd, 1) := by decide +kernel
theorem dL_law_171 : decode cL_law 171 = .ok (.iaload, 1) := by decide +kernel
theorem dL_law_172 : decode cL_law 172 = .ok (.i2l, 1) := by decide +kernel
theorem dL_law_173 : decode cL_law 173 = .ok (.ldc2_w 33, 3) := by decide +kernel
theorem dL_law_176 : decode cL_law 176 = .ok (.land, 1) := by decide +kernel
theorem dL_law_177 : decode cL_law 177 = .ok (.lor, 1) := by decide +kernel
theorem dL_law_178 : decode cL_law 178 = .ok (.invokevirtual 35, 3) := by decide +kernel
theorem dL_law_181 : decode cL_law 181 = .ok (.aload_n 2, 1) := by decide +kernel
theorem dL_law_182 : decode cL_law 182 = .ok (.aload_n 0, 1) := by decide +kernel
theorem dL_law_183 : decode cL_law 183 = .ok (.iload 4, 2) := by decide +kernel
theorem dL_law_185 : decode cL_law 185 = .ok (.iconst 1, 1) := by decide +kernel
theorem dL_law_186 : decode cL_law 186 = .ok (.iadd, 1) := by decide +kernel
theorem dL_law_187 : decode cL_law 187 = .ok (.iaload, 1) := by decide +kernel
theorem dL_law_188 : decode cL_law 188 = .ok (.aload_n 0, 1) := by decide +kernel
theorem dL_law_189 : decode cL_law 189 = .ok (.iload 4, 2) := by decide +kernel
theorem dL_law_191 : decode cL_law 191 = .ok (.iconst 2, 1) := by decide +kernel
theorem dL_law_192 : decode cL_law 192 = .ok (.iadd, 1) := by decide +kernel
theorem dL_law_193 : decode cL_law 193 = .ok (.iaload, 1) := by decide +kernel
theorem dL_law_194 : decode cL_law 194 = .ok (.aload_n 0, 1) := by decide +kernel
theorem dL_law_195 : decode cL_law 195 = .ok (.iload 4, 2) := by decide +kernel
theorem dL_law_197 : decode cL_law 197 = .ok (.iconst 3, 1) := by decide +kernel
theorem dL_law_198 : decode cL_law 198 = .ok (.iadd, 1) := by decide +kernel
theorem dL_law_199 : decode cL_law 199 = .ok (.iaload, 1) := by decide +kernel
theorem dL_law_200 : decode cL_law 200 = .ok (.i2l, 1) := by decide +kernel
theorem dL_law_201 : decode cL_law 201 = .ok (.bipush 32, 2) := by decide +kernel
theorem dL_law_203 : decode cL_law 203 = .ok (.lshl, 1) := by decide +kernel
theorem dL_law_204 : decode cL_law 204 = .ok (.aload_n 0, 1) := by decide +kernel
theorem dL_law_205 : decode cL_law 205 = .ok (.iload 4, 2) := by decide +kernel
theorem dL_law_207 : decode cL_law 207 = .ok (.iconst 4, 1) := by decide +kernel
theorem dL_law_208 : decode cL_law 208 = .ok (.iadd, 1) := by decide +kernel
theorem dL_law_209 : decode cL_law 209 = .ok (.iaload, 1) := by decide +kernel
theorem dL_law_210 : decode cL_law 210 = .ok (.i2l, 1) := by decide +kernel
theorem dL_law_211 : decode cL_law 211 = .ok (.ldc2_w 33, 3) := by decide +kernel
theorem dL_law_214 : decode cL_law 214 = .ok (.land, 1) := by decide +kernel
theorem dL_law_215 : decode cL_law 215 = .ok (.lor, 1) := by decide +kernel
theorem dL_law_216 : decode cL_law 216 = .ok (.aload_n 0, 1) := by decide +kernel
theorem dL_law_217 : decode cL_law 217 = .ok (.iload 4, 2) := by decide +kernel
theorem dL_law_219 : decode cL_law 219 = .ok (.iconst 5, 1) := by decide +kernel
theorem dL_law_220 : decode cL_law 220 = .ok (.iadd, 1) := by decide +kernel
theorem dL_law_221 : decode cL_law 221 = .ok (.iaload, 1) := by decide +kernel
theorem dL_law_222 : decode cL_law 222 = .ok (.i2l, 1) := by decide +kernel
theorem dL_law_223 : decode cL_law 223 = .ok (.bipush 32, 2) := by decide +kernel
theorem dL_law_225 : decode cL_law 225 = .ok (.lshl, 1) := by decide +kernel
theorem dL_law_226 : decode cL_law 226 = .ok (.aload_n 0, 1) := by decide +kernel
theorem dL_law_227 : decode cL_law 227 = .ok (.iload 4, 2) := by decide +kernel
theorem dL_law_229 : decode cL_law 229 = .ok (.bipush 6, 2) := by decide +kernel
theorem dL_law_231 : decode cL_law 231 = .ok (.iadd, 1) := by decide +kernel
theorem dL_law_232 : decode cL_law 232 = .ok (.iaload, 1) := by decide +kernel
theorem dL_law_233 : decode cL_law 233 = .ok (.i2l, 1) := by decide +kernel
theorem dL_law_234 : decode cL_law 234 = .ok (.ldc2_w 33, 3) := by decide +kernel
theorem dL_law_237 : decode cL_law 237 = .ok (.land, 1) := by decide +kernel
theorem dL_law_238 : decode cL_law 238 = .ok (.lor, 1) := by decide +kernel
theorem dL_law_239 : decode cL_law 239 = .ok (.invokevirtual 39, 3) := by decide +kernel
theorem dL_law_242 : decode cL_law 242 = .ok (.if_icmp .eq 463, 3) := by decide +kernel
theorem dL_law_245 : decode cL_law 245 = .ok (.iconst 0, 1) := by decide +kernel
theorem dL_law_246 : decode cL_law 246 = .ok (.ireturn, 1) := by decide +kernel
theorem dL_law_247 : decode cL_law 247 = .ok (.aload_n 1, 1) := by decide +kernel
theorem dL_law_248 : decode cL_law 248 = .ok (.aload_n 0, 1) := by decide +kernel
theorem dL_law_249 : decode cL_law 249 = .ok (.iload 4, 2) := by decide +kernel
theorem dL_law_251 : decode cL_law 251 = .ok (.iconst 1, 1) := by decide +kernel
theorem dL_law_252 : decode cL_law 252 = .ok (.iadd, 1) := by decide +kernel
theorem dL_law_253 : decode cL_law 253 = .ok (.iaload, 1) := by decide +kernel
theorem dL_law_254 : decode cL_law 254 = .ok (.invokevirtual 40, 3) := by decide +kernel
theorem dL_law_257 : decode cL_law 257 = .ok (.aload_n 2, 1) := by decide +kernel
theorem dL_law_258 : decode cL_law 258 = .ok (.aload_n 0, 1) := by decide +kernel
theorem dL_law_259 : decode cL_law 259 = .ok (.iload 4, 2) := by decide +kernel
theorem dL_law_261 : decode cL_law 261 = .ok (.iconst 1, 1) := by decide +kernel
theorem dL_law_262 : decode cL_law 262 = .ok (.iadd, 1) := by decide +kernel
theorem dL_law_263 : decode cL_law 263 = .ok (.iaload, 1) := by decide +kernel
theorem dL_law_264 : decode cL_law 264 = .ok (.invokevirtual 44, 3) := by decide +kernel
theorem dL_law_267 : decode cL_law 267 = .ok (.if_icmp .eq 438, 3) := by decide +kernel
theorem dL_law_270 : decode cL_law 270 = .ok (.iconst 0, 1) := by decide +kernel
theorem dL_law_271 : decode cL_law 271 = .ok (.ireturn, 1) := by decide +kernel
theorem dL_law_272 : decode cL_law 272 = .ok (.aload_n 1, 1) := by decide +kernel
theorem dL_law_273 : decode cL_law 273 = .ok (.aload_n 0, 1) := by decide +kernel
theorem dL_law_274 : decode cL_law 274 = .ok (.iload 4, 2) := by decide +kernel
theorem dL_law_276 : decode cL_law 276 = .ok (.iconst 1, 1) := by decide +kernel
theorem dL_law_277 : decode cL_law 277 = .ok (.iadd, 1) := by decide +kernel
theorem dL_law_278 : decode cL_law 278 = .ok (.iaload, 1) := by decide +kernel
theorem dL_law_279 : decode cL_law 279 = .ok (.ifCond .eq 7, 3) := by decide +kernel
theorem dL_law_282 : decode cL_law 282 = .ok (.iconst 1, 1) := by decide +kernel
theorem dL_law_283 : decode cL_law 283 = .ok (.goto 4, 3) := by decide +kernel
theorem dL_law_286 : decode cL_law 286 = .ok (.iconst 0, 1) := by decide +kernel
theorem dL_law_287 : decode cL_law 287 = .ok (.invokevirtual 45, 3) := by decide +kernel
theorem dL_law_290 : decode cL_law 290 = .ok (.aload_n 2, 1) := by decide +kernel
theorem dL_law_291 : decode cL_law 291 = .ok (.aload_n 0, 1) := by decide +kernel
theorem dL_law_292 : decode cL_law 292 = .ok (.iload 4, 2) := by decide +kernel
theorem dL_law_294 : decode cL_law 294 = .ok (.iconst 1, 1) := by decide +kernel
theorem dL_law_295 : decode cL_law 295 = .ok (.iadd, 1) := by decide +kernel
theorem dL_law_296 : decode cL_law 296 = .ok (.iaload, 1) := by decide +kernel
theorem dL_law_297 : decode cL_law 297 = .ok (.ifCond .eq 7, 3) := by decide +kernel
theorem dL_law_300 : decode cL_law 300 = .ok (.iconst 1, 1) := by decide +kernel
theorem dL_law_301 : decode cL_law 301 = .ok (.goto 4, 3) := by decide +kernel
theorem dL_law_304 : decode cL_law 304 = .ok (.iconst 0, 1) := by decide +kernel
theorem dL_law_305 : decode cL_law 305 = .ok (.invokevirtual 49, 3) := by decide +kernel
theorem dL_law_308 : decode cL_law 308 = .ok (.if_icmp .eq 397, 3) := by decide +kernel
theorem dL_law_311 : decode cL_law 311 = .ok (.iconst 0, 1) := by decide +kernel
theorem dL_law_312 : decode cL_law 312 = .ok (.ireturn, 1) := by decide +kernel
theorem dL_law_313 : decode cL_law 313 = .ok (.aload_n 1, 1) := by decide +kernel
theorem dL_law_314 : decode cL_law 314 = .ok (.aload_n 0, 1) := by decide +kernel
theorem dL_law_315 : decode cL_law 315 = .ok (.iload 4, 2) := by decide +kernel
theorem dL_law_317 : decode cL_law 317 = .ok (.iconst 1, 1) := by decide +kernel
theorem dL_law_318 : decode cL_law 318 = .ok (.iadd, 1) := by decide +kernel
theorem dL_law_319 : decode cL_law 319 = .ok (.iaload, 1) := by decide +kernel
theorem dL_law_320 : decode cL_law 320 = .ok (.aload_n 0, 1) := by decide +kernel
theorem dL_law_321 : decode cL_law 321 = .ok (.iload 4, 2) := by decide +kernel
theorem dL_law_323 : decode cL_law 323 = .ok (.iconst 2, 1) := by decide +kernel
theorem dL_law_324 : decode cL_law 324 = .ok (.iadd, 1) := by decide +kernel
theorem dL_law_325 : decode cL_law 325 = .ok (.iaload, 1) := by decide +kernel
theorem dL_law_326 : decode cL_law 326 = .ok (.i2l, 1) := by decide +kernel
theorem dL_law_327 : decode cL_law 327 = .ok (.bipush 32, 2) := by decide +kernel
theorem dL_law_329 : decode cL_law 329 = .ok (.lshl, 1) := by decide +kernel
theorem dL_law_330 : decode cL_law 330 = .ok (.aload_n 0, 1) := by decide +kernel
theorem dL_law_331 : decode cL_law 331 = .ok (.iload 4, 2) := by decide +kernel
theorem dL_law_333 : decode cL_law 333 = .ok (.iconst 3, 1) := by decide +kernel
theorem dL_law_334 : decode cL_law 334 = .ok (.iadd, 1) := by decide +kernel
theorem dL_law_335 : decode cL_law 335 = .ok (.iaload, 1) := by decide +kernel
theorem dL_law_336 : decode cL_law 336 = .ok (.i2l, 1) := by decide +kernel
theorem dL_law_337 : decode cL_law 337 = .ok (.ldc2_w 33, 3) := by decide +kernel
theorem dL_law_340 : decode cL_law 340 = .ok (.land, 1) := by decide +kernel
theorem dL_law_341 : decode cL_law 341 = .ok (.lor, 1) := by decide +kernel
theorem dL_law_342 : decode cL_law 342 = .ok (.invokevirtual 50, 3) := by decide +kernel
theorem dL_law_345 : decode cL_law 345 = .ok (.aload_n 2, 1) := by decide +kernel
theorem dL_law_346 : decode cL_law 346 = .ok (.aload_n 0, 1) := by decide +kernel
theorem dL_law_347 : decode cL_law 347 = .ok (.iload 4, 2) := by decide +kernel
theorem dL_law_349 : decode cL_law 349 = .ok (.iconst 1, 1) := by decide +kernel
theorem dL_law_350 : decode cL_law 350 = .ok (.iadd, 1) := by decide +kernel
theorem dL_law_351 : decode cL_law 351 = .ok (.iaload, 1) := by decide +kernel
theorem dL_law_352 : decode cL_law 352 = .ok (.aload_n 0, 1) := by decide +kernel
theorem dL_law_353 : decode cL_law 353 = .ok (.iload 4, 2) := by decide +kernel
theorem dL_law_355 : decode cL_law 355 = .ok (.iconst 2, 1) := by decide +kernel
theorem dL_law_356 : decode cL_law 356 = .ok (.iadd, 1) := by decide +kernel
theorem dL_law_357 : decode cL_law 357 = .ok (.iaload, 1) := by decide +kernel
theorem dL_law_358 : decode cL_law 358 = .ok (.i2l, 1) := by decide +kernel
theorem dL_law_359 : decode cL_law 359 = .ok (.bipush 32, 2) := by decide +kernel
theorem dL_law_361 : decode cL_law 361 = .ok (.lshl, 1) := by decide +kernel
theorem dL_law_362 : decode cL_law 362 = .ok (.aload_n 0, 1) := by decide +kernel
theorem dL_law_363 : decode cL_law 363 = .ok (.iload 4, 2) := by decide +kernel
theorem dL_law_365 : decode cL_law 365 = .ok (.iconst 3, 1) := by decide +kernel
theorem dL_law_366 : decode cL_law 366 = .ok (.iadd, 1) := by decide +kernel
theorem dL_law_367 : decode cL_law 367 = .ok (.iaload, 1) := by decide +kernel
theorem dL_law_368 : decode cL_law 368 = .ok (.i2l, 1) := by decide +kernel
theorem dL_law_369 : decode cL_law 369 = .ok (.ldc2_w 33, 3) := by decide +kernel
theorem dL_law_372 : decode cL_law 372 = .ok (.land, 1) := by decide +kernel
theorem dL_law_373 : decode cL_law 373 = .ok (.lor, 1) := by decide +kernel
theorem dL_law_374 : decode cL_law 374 = .ok (.invokevirtual 54, 3) := by decide +kernel
theorem dL_law_377 : decode cL_law 377 = .ok (.if_icmp .eq 328, 3) := by decide +kernel
theorem dL_law_380 : decode cL_law 380 = .ok (.iconst 0, 1) := by decide +kernel
theorem dL_law_381 : decode cL_law 381 = .ok (.ireturn, 1) := by decide +kernel
theorem dL_law_382 : decode cL_law 382 = .ok (.aload_n 1, 1) := by decide +kernel
theorem dL_law_383 : decode cL_law 383 = .ok (.aload_n 0, 1) := by decide +kernel
theorem dL_law_384 : decode cL_law 384 = .ok (.iload 4, 2) := by decide +kernel
theorem dL_law_386 : decode cL_law 386 = .ok (.iconst 1, 1) := by decide +kernel
theorem dL_law_387 : decode cL_law 387 = .ok (.iadd, 1) := by decide +kernel
theorem dL_law_388 : decode cL_law 388 = .ok (.iaload, 1) := by decide +kernel
theorem dL_law_389 : decode cL_law 389 = .ok (.aload_n 3, 1) := by decide +kernel
theorem dL_law_390 : decode cL_law 390 = .ok (.invokestatic 55, 3) := by decide +kernel
theorem dL_law_393 : decode cL_law 393 = .ok (.istore 5, 2) := by decide +kernel
theorem dL_law_395 : decode cL_law 395 = .ok (.aload_n 2, 1) := by decide +kernel
theorem dL_law_396 : decode cL_law 396 = .ok (.aload_n 0, 1) := by decide +kernel
theorem dL_law_397 : decode cL_law 397 = .ok (.iload 4, 2) := by decide +kernel
theorem dL_law_399 : decode cL_law 399 = .ok (.iconst 1, 1) := by decide +kernel
theorem dL_law_400 : decode cL_law 400 = .ok (.iadd, 1) := by decide +kernel
theorem dL_law_401 : decode cL_law 401 = .ok (.iaload, 1) := by decide +kernel
theorem dL_law_402 : decode cL_law 402 = .ok (.invokevirtual 58, 3) := by decide +kernel
theorem dL_law_405 : decode cL_law 405 = .ok (.lstore 6, 2) := by decide +kernel
theorem dL_law_407 : decode cL_law 407 = .ok (.aload_n 2, 1) := by decide +kernel
theorem dL_law_408 : decode cL_law 408 = .ok (.invokevirtual 59, 3) := by decide +kernel
theorem dL_law_411 : decode cL_law 411 = .ok (.iload 5, 2) := by decide +kernel
theorem dL_law_413 : decode cL_law 413 = .ok (.if_icmp .eq 5, 3) := by decide +kernel
theorem dL_law_416 : decode cL_law 416 = .ok (.iconst 0, 1) := by decide +kernel
theorem dL_law_417 : decode cL_law 417 = .ok (.ireturn, 1) := by decide +kernel
theorem dL_law_418 : decode cL_law 418 = .ok (.iload 5, 2) := by decide +kernel
theorem dL_law_420 : decode cL_law 420 = .ok (.ifCond .ne 14, 3) := by decide +kernel
theorem dL_law_423 : decode cL_law 423 = .ok (.aload_n 3, 1) := by decide +kernel
theorem dL_law_424 : decode cL_law 424 = .ok (.iconst 0, 1) := by decide +kernel
theorem dL_law_425 : decode cL_law 425 = .ok (.laload, 1) := by decide +kernel
theorem dL_law_426 : decode cL_law 426 = .ok (.lload 6, 2) := by decide +kernel
theorem dL_law_428 : decode cL_law 428 = .ok (.lcmp, 1) := by decide +kernel
theorem dL_law_429 : decode cL_law 429 = .ok (.ifCond .eq 5, 3) := by decide +kernel
theorem dL_law_432 : decode cL_law 432 = .ok (.iconst 0, 1) := by decide +kernel
theorem dL_law_433 : decode cL_law 433 = .ok (.ireturn, 1) := by decide +kernel
theorem dL_law_434 : decode cL_law 434 = .ok (.goto 271, 3) := by decide +kernel
theorem dL_law_437 : decode cL_law 437 = .ok (.aload_n 1, 1) := by decide +kernel
theorem dL_law_438 : decode cL_law 438 = .ok (.aload_n 0, 1) := by decide +kernel
theorem dL_law_439 : decode cL_law 439 = .ok (.iload 4, 2) := by decide +kernel
theorem dL_law_441 : decode cL_law 441 = .ok (.iconst 1, 1) := by decide +kernel
theorem dL_law_442 : decode cL_law 442 = .ok (.iadd, 1) := by decide +kernel
theorem dL_law_443 : decode cL_law 443 = .ok (.iaload, 1) := by decide +kernel
theorem dL_law_444 : decode cL_law 444 = .ok (.invokevirtual 63, 3) := by decide +kernel
theorem dL_law_447 : decode cL_law 447 = .ok (.aload_n 2, 1) := by decide +kernel
theorem dL_law_448 : decode cL_law 448 = .ok (.aload_n 0, 1) := by decide +kernel
theorem dL_law_449 : decode cL_law 449 = .ok (.iload 4, 2) := by decide +kernel
theorem dL_law_451 : decode cL_law 451 = .ok (.iconst 1, 1) := by decide +kernel
theorem dL_law_452 : decode cL_law 452 = .ok (.iadd, 1) := by decide +kernel
theorem dL_law_453 : decode cL_law 453 = .ok (.iaload, 1) := by decide +kernel
theorem dL_law_454 : decode cL_law 454 = .ok (.invokevirtual 66, 3) := by decide +kernel
theorem dL_law_457 : decode cL_law 457 = .ok (.if_icmp .eq 248, 3) := by decide +kernel
theorem dL_law_460 : decode cL_law 460 = .ok (.iconst 0, 1) := by decide +kernel
theorem dL_law_461 : decode cL_law 461 = .ok (.ireturn, 1) := by decide +kernel
theorem dL_law_462 : decode cL_law 462 = .ok (.aload_n 1, 1) := by decide +kernel
theorem dL_law_463 : decode cL_law 463 = .ok (.aload_n 0, 1) := by decide +kernel
theorem dL_law_464 : decode cL_law 464 = .ok (.iload 4, 2) := by decide +kernel
theorem dL_law_466 : decode cL_law 466 = .ok (.iconst 1, 1) := by decide +kernel
theorem dL_law_467 : decode cL_law 467 = .ok (.iadd, 1) := by decide +kernel
theorem dL_law_468 : decode cL_law 468 = .ok (.iaload, 1) := by decide +kernel
theorem dL_law_469 : decode cL_law 469 = .ok (.aload_n 0, 1) := by decide +kernel
theorem dL_law_470 : decode cL_law 470 = .ok (.iload 4, 2) := by decide +kernel
theorem dL_law_472 : decode cL_law 472 = .ok (.iconst 2, 1) := by decide +kernel
theorem dL_law_473 : decode cL_law 473 = .ok (.iadd, 1) := by decide +kernel
theorem dL_law_474 : decode cL_law 474 = .ok (.iaload, 1) := by decide +kernel
theorem dL_law_475 : decode cL_law 475 = .ok (.invokevirtual 67, 3) := by decide +kernel
theorem dL_law_478 : decode cL_law 478 = .ok (.aload_n 2, 1) := by decide +kernel
theorem dL_law_479 : decode cL_law 479 = .ok (.aload_n 0, 1) := by decide +kernel
theorem dL_law_480 : decode cL_law 480 = .ok (.iload 4, 2) := by decide +kernel
theorem dL_law_482 : decode cL_law 482 = .ok (.iconst 1, 1) := by decide +kernel
theorem dL_law_483 : decode cL_law 483 = .ok (.iadd, 1) := by decide +kernel
theorem dL_law_484 : decode cL_law 484 = .ok (.iaload, 1) := by decide +kernel
theorem dL_law_485 : decode cL_law 485 = .ok (.aload_n 0, 1) := by decide +kernel
theorem dL_law_486 : decode cL_law 486 = .ok (.iload 4, 2) := by decide +kernel
theorem dL_law_488 : decode cL_law 488 = .ok (.iconst 2, 1) := by decide +kernel
theorem dL_law_489 : decode cL_law 489 = .ok (.iadd, 1) := by decide +kernel
theorem dL_law_490 : decode cL_law 490 = .ok (.iaload, 1) := by decide +kernel
theorem dL_law_491 : decode cL_law 491 = .ok (.invokevirtual 70, 3) := by decide +kernel
theorem dL_law_494 : decode cL_law 494 = .ok (.if_icmp .eq 211, 3) := by decide +kernel
theorem dL_law_497 : decode cL_law 497 = .ok (.iconst 0, 1) := by decide +kernel
theorem dL_law_498 : decode cL_law 498 = .ok (.ireturn, 1) := by decide +kernel
theorem dL_law_499 : decode cL_law 499 = .ok (.aload_n 1, 1) := by decide +kernel
theorem dL_law_500 : decode cL_law 500 = .ok (.aload_n 0, 1) := by decide +kernel
theorem dL_law_501 : decode cL_law 501 = .ok (.iload 4, 2) := by decide +kernel
theorem dL_law_503 : decode cL_law 503 = .ok (.iconst 1, 1) := by decide +kernel
theorem dL_law_504 : decode cL_law 504 = .ok (.iadd, 1) := by decide +kernel
theorem dL_law_505 : decode cL_law 505 = .ok (.iaload, 1) := by decide +kernel
theorem dL_law_506 : decode cL_law 506 = .ok (.invokevirtual 71, 3) := by decide +kernel
theorem dL_law_509 : decode cL_law 509 = .ok (.aload_n 2, 1) := by decide +kernel
theorem dL_law_510 : decode cL_law 510 = .ok (.aload_n 0, 1) := by decide +kernel
theorem dL_law_511 : decode cL_law 511 = .ok (.iload 4, 2) := by decide +kernel
theorem dL_law_513 : decode cL_law 513 = .ok (.iconst 1, 1) := by decide +kernel
theorem dL_law_514 : decode cL_law 514 = .ok (.iadd, 1) := by decide +kernel
theorem dL_law_515 : decode cL_law 515 = .ok (.iaload, 1) := by decide +kernel
theorem dL_law_516 : decode cL_law 516 = .ok (.invokevirtual 74, 3) := by decide +kernel
theorem dL_law_519 : decode cL_law 519 = .ok (.if_icmp .eq 186, 3) := by decide +kernel
theorem dL_law_522 : decode cL_law 522 = .ok (.iconst 0, 1) := by decide +kernel
theorem dL_law_523 : decode cL_law 523 = .ok (.ireturn, 1) := by decide +kernel
theorem dL_law_524 : decode cL_law 524 = .ok (.aload_n 1, 1) := by decide +kernel
theorem dL_law_525 : decode cL_law 525 = .ok (.aload_n 0, 1) := by decide +kernel
theorem dL_law_526 : decode cL_law 526 = .ok (.iload 4, 2) := by decide +kernel
theorem dL_law_528 : decode cL_law 528 = .ok (.iconst 1, 1) := by decide +kernel
theorem dL_law_529 : decode cL_law 529 = .ok (.iadd, 1) := by decide +kernel
theorem dL_law_530 : decode cL_law 530 = .ok (.iaload, 1) := by decide +kernel
theorem dL_law_531 : decode cL_law 531 = .ok (.invokevirtual 75, 3) := by decide +kernel
theorem dL_law_534 : decode cL_law 534 = .ok (.aload_n 2, 1) := by decide +kernel
theorem dL_law_535 : decode cL_law 535 = .ok (.aload_n 0, 1) := by decide +kernel
theorem dL_law_536 : decode cL_law 536 = .ok (.iload 4, 2) := by decide +kernel
theorem dL_law_538 : decode cL_law 538 = .ok (.iconst 1, 1) := by decide +kernel
theorem dL_law_539 : decode cL_law 539 = .ok (.iadd, 1) := by decide +kernel
theorem dL_law_540 : decode cL_law 540 = .ok (.iaload, 1) := by decide +kernel
theorem dL_law_541 : decode cL_law 541 = .ok (.invokevirtual 78, 3) := by decide +kernel
theorem dL_law_544 : decode cL_law 544 = .ok (.if_icmp .eq 161, 3) := by decide +kernel
theorem dL_law_547 : decode cL_law 547 = .ok (.iconst 0, 1) := by decide +kernel
theorem dL_law_548 : decode cL_law 548 = .ok (.ireturn, 1) := by decide +kernel
theorem dL_law_549 : decode cL_law 549 = .ok (.aload_n 1, 1) := by decide +kernel
theorem dL_law_550 : decode cL_law 550 = .ok (.aload_n 0, 1) := by decide +kernel
theorem dL_law_551 : decode cL_law 551 = .ok (.iload 4, 2) := by decide +kernel
theorem dL_law_553 : decode cL_law 553 = .ok (.iconst 1, 1) := by decide +kernel
theorem dL_law_554 : decode cL_law 554 = .ok (.iadd, 1) := by decide +kernel
theorem dL_law_555 : decode cL_law 555 = .ok (.iaload, 1) := by decide +kernel
theorem dL_law_556 : decode cL_law 556 = .ok (.aload_n 0, 1) := by decide +kernel
theorem dL_law_557 : decode cL_law 557 = .ok (.iload 4, 2) := by decide +kernel
theorem dL_law_559 : decode cL_law 559 = .ok (.iconst 2, 1) := by decide +kernel
theorem dL_law_560 : decode cL_law 560 = .ok (.iadd, 1) := by decide +kernel
theorem dL_law_561 : decode cL_law 561 = .ok (.iaload, 1) := by decide +kernel
theorem dL_law_562 : decode cL_law 562 = .ok (.invokevirtual 79, 3) := by decide +kernel
theorem dL_law_565 : decode cL_law 565 = .ok (.aload_n 2, 1) := by decide +kernel
theorem dL_law_566 : decode cL_law 566 = .ok (.aload_n 0, 1) := by decide +kernel
theorem dL_law_567 : decode cL_law 567 = .ok (.iload 4, 2) := by decide +kernel
theorem dL_law_569 : decode cL_law 569 = .ok (.iconst 1, 1) := by decide +kernel
theorem dL_law_570 : decode cL_law 570 = .ok (.iadd, 1) := by decide +kernel
theorem dL_law_571 : decode cL_law 571 = .ok (.iaload, 1) := by decide +kernel
theorem dL_law_572 : decode cL_law 572 = .ok (.aload_n 0, 1) := by decide +kernel
theorem dL_law_573 : decode cL_law 573 = .ok (.iload 4, 2) := by decide +kernel
theorem dL_law_575 : decode cL_law 575 = .ok (.iconst 2, 1) := by decide +kernel
theorem dL_law_576 : decode cL_law 576 = .ok (.iadd, 1) := by decide +kernel
theorem dL_law_577 : decode cL_law 577 = .ok (.iaload, 1) := by decide +kernel
theorem dL_law_578 : decode cL_law 578 = .ok (.invokevirtual 82, 3) := by decide +kernel
theorem dL_law_581 : decode cL_law 581 = .ok (.if_icmp .eq 124, 3) := by decide +kernel
theorem dL_law_584 : decode cL_law 584 = .ok (.iconst 0, 1) := by decide +kernel
theorem dL_law_585 : decode cL_law 585 = .ok (.ireturn, 1) := by decide +kernel
theorem dL_law_586 : decode cL_law 586 = .ok (.aload_n 1, 1) := by decide +kernel
theorem dL_law_587 : decode cL_law 587 = .ok (.aload_n 0, 1) := by decide +kernel
theorem dL_law_588 : decode cL_law 588 = .ok (.iload 4, 2) := by decide +kernel
theorem dL_law_590 : decode cL_law 590 = .ok (.iconst 1, 1) := by decide +kernel
theorem dL_law_591 : decode cL_law 591 = .ok (.iadd, 1) := by decide +kernel
theorem dL_law_592 : decode cL_law 592 = .ok (.iaload, 1) := by decide +kernel
theorem dL_law_593 : decode cL_law 593 = .ok (.aload_n 0, 1) := by decide +kernel
theorem dL_law_594 : decode cL_law 594 = .ok (.iload 4, 2) := by decide +kernel
theorem dL_law_596 : decode cL_law 596 = .ok (.iconst 2, 1) := by decide +kernel
theorem dL_law_597 : decode cL_law 597 = .ok (.iadd, 1) := by decide +kernel
theorem dL_law_598 : decode cL_law 598 = .ok (.iaload, 1) := by decide +kernel
theorem dL_law_599 : decode cL_law 599 = .ok (.aload_n 3, 1) := by decide +kernel
theorem dL_law_600 : decode cL_law 600 = .ok (.invokestatic 83, 3) := by decide +kernel
theorem dL_law_603 : decode cL_law 603 = .ok (.istore 5, 2) := by decide +kernel
theorem dL_law_605 : decode cL_law 605 = .ok (.aload_n 2, 1) := by decide +kernel
theorem dL_law_606 : decode cL_law 606 = .ok (.aload_n 0, 1) := by decide +kernel
theorem dL_law_607 : decode cL_law 607 = .ok (.iload 4, 2) := by decide +kernel
theorem dL_law_609 : decode cL_law 609 = .ok (.iconst 1, 1) := by decide +kernel
theorem dL_law_610 : decode cL_law 610 = .ok (.iadd, 1) := by decide +kernel
theorem dL_law_611 : decode cL_law 611 = .ok (.iaload, 1) := by decide +kernel
theorem dL_law_612 : decode cL_law 612 = .ok (.aload_n 0, 1) := by decide +kernel
theorem dL_law_613 : decode cL_law 613 = .ok (.iload 4, 2) := by decide +kernel
theorem dL_law_615 : decode cL_law 615 = .ok (.iconst 2, 1) := by decide +kernel
theorem dL_law_616 : decode cL_law 616 = .ok (.iadd, 1) := by decide +kernel
theorem dL_law_617 : decode cL_law 617 = .ok (.iaload, 1) := by decide +kernel
theorem dL_law_618 : decode cL_law 618 = .ok (.invokevirtual 86, 3) := by decide +kernel
theorem dL_law_621 : decode cL_law 621 = .ok (.istore 6, 2) := by decide +kernel
theorem dL_law_623 : decode cL_law 623 = .ok (.aload_n 2, 1) := by decide +kernel
theorem dL_law_624 : decode cL_law 624 = .ok (.invokevirtual 59, 3) := by decide +kernel
theorem dL_law_627 : decode cL_law 627 = .ok (.iload 5, 2) := by decide +kernel
theorem dL_law_629 : decode cL_law 629 = .ok (.if_icmp .eq 5, 3) := by decide +kernel
theorem dL_law_632 : decode cL_law 632 = .ok (.iconst 0, 1) := by decide +kernel
theorem dL_law_633 : decode cL_law 633 = .ok (.ireturn, 1) := by decide +kernel
theorem dL_law_634 : decode cL_law 634 = .ok (.iload 5, 2) := by decide +kernel
theorem dL_law_636 : decode cL_law 636 = .ok (.ifCond .ne 15, 3) := by decide +kernel
theorem dL_law_639 : decode cL_law 639 = .ok (.aload_n 3, 1) := by decide +kernel
theorem dL_law_640 : decode cL_law 640 = .ok (.iconst 0, 1) := by decide +kernel
theorem dL_law_641 : decode cL_law 641 = .ok (.laload, 1) := by decide +kernel
theorem dL_law_642 : decode cL_law 642 = .ok (.iload 6, 2) := by decide +kernel
theorem dL_law_644 : decode cL_law 644 = .ok (.i2l, 1) := by decide +kernel
theorem dL_law_645 : decode cL_law 645 = .ok (.lcmp, 1) := by decide +kernel
theorem dL_law_646 : decode cL_law 646 = .ok (.ifCond .eq 5, 3) := by decide +kernel
theorem dL_law_649 : decode cL_law 649 = .ok (.iconst 0, 1) := by decide +kernel
theorem dL_law_650 : decode cL_law 650 = .ok (.ireturn, 1) := by decide +kernel
theorem dL_law_651 : decode cL_law 651 = .ok (.goto 54, 3) := by decide +kernel
theorem dL_law_654 : decode cL_law 654 = .ok (.aload_n 1, 1) := by decide +kernel
theorem dL_law_655 : decode cL_law 655 = .ok (.invokevirtual 87, 3) := by decide +kernel
theorem dL_law_658 : decode cL_law 658 = .ok (.aload_n 2, 1) := by decide +kernel
theorem dL_law_659 : decode cL_law 659 = .ok (.invokevirtual 90, 3) := by decide +kernel
theorem dL_law_662 : decode cL_law 662 = .ok (.if_icmp .eq 43, 3) := by decide +kernel
theorem dL_law_665 : decode cL_law 665 = .ok (.iconst 0, 1) := by decide +kernel
theorem dL_law_666 : decode cL_law 666 = .ok (.ireturn, 1) := by decide +kernel
theorem dL_law_667 : decode cL_law 667 = .ok (.aload_n 1, 1) := by decide +kernel
theorem dL_law_668 : decode cL_law 668 = .ok (.invokevirtual 91, 3) := by decide +kernel
theorem dL_law_671 : decode cL_law 671 = .ok (.aload_n 2, 1) := by decide +kernel
theorem dL_law_672 : decode cL_law 672 = .ok (.invokevirtual 95, 3) := by decide +kernel
theorem dL_law_675 : decode cL_law 675 = .ok (.if_icmp .eq 30, 3) := by decide +kernel
theorem dL_law_678 : decode cL_law 678 = .ok (.iconst 0, 1) := by decide +kernel
theorem dL_law_679 : decode cL_law 679 = .ok (.ireturn, 1) := by decide +kernel
theorem dL_law_680 : decode cL_law 680 = .ok (.aload_n 1, 1) := by decide +kernel
theorem dL_law_681 : decode cL_law 681 = .ok (.aload_n 0, 1) := by decide +kernel
theorem dL_law_682 : decode cL_law 682 = .ok (.iload 4, 2) := by decide +kernel
theorem dL_law_684 : decode cL_law 684 = .ok (.iconst 1, 1) := by decide +kernel
theorem dL_law_685 : decode cL_law 685 = .ok (.iadd, 1) := by decide +kernel
theorem dL_law_686 : decode cL_law 686 = .ok (.iaload, 1) := by decide +kernel
theorem dL_law_687 : decode cL_law 687 = .ok (.invokevirtual 96, 3) := by decide +kernel
theorem dL_law_690 : decode cL_law 690 = .ok (.aload_n 2, 1) := by decide +kernel
theorem dL_law_691 : decode cL_law 691 = .ok (.aload_n 0, 1) := by decide +kernel
theorem dL_law_692 : decode cL_law 692 = .ok (.iload 4, 2) := by decide +kernel
theorem dL_law_694 : decode cL_law 694 = .ok (.iconst 1, 1) := by decide +kernel
theorem dL_law_695 : decode cL_law 695 = .ok (.iadd, 1) := by decide +kernel
theorem dL_law_696 : decode cL_law 696 = .ok (.iaload, 1) := by decide +kernel
theorem dL_law_697 : decode cL_law 697 = .ok (.invokevirtual 99, 3) := by decide +kernel
theorem dL_law_700 : decode cL_law 700 = .ok (.if_icmp .eq 5, 3) := by decide +kernel
theorem dL_law_703 : decode cL_law 703 = .ok (.iconst 0, 1) := by decide +kernel
theorem dL_law_704 : decode cL_law 704 = .ok (.ireturn, 1) := by decide +kernel
theorem dL_law_705 : decode cL_law 705 = .ok (.iinc 4 7, 3) := by decide +kernel
theorem dL_law_708 : decode cL_law 708 = .ok (.goto (-675), 3) := by decide +kernel
theorem dL_law_711 : decode cL_law 711 = .ok (.iconst 1, 1) := by decide +kernel
theorem dL_law_712 : decode cL_law 712 = .ok (.ireturn, 1) := by decide +kernel
