theorem dX3_init_0 : decode cX3_init 0 = .ok (.aload_n 0, 1) := by decide +kernel
theorem dX3_init_1 : decode cX3_init 1 = .ok (.invokespecial 1, 3) := by decide +kernel
theorem dX3_init_4 : decode cX3_init 4 = .ok (.aload_n 0, 1) := by decide +kernel
theorem dX3_init_5 : decode cX3_init 5 = .ok (.bipush 32, 2) := by decide +kernel
theorem dX3_init_7 : decode cX3_init 7 = .ok (.newarray .long, 2) := by decide +kernel
theorem dX3_init_9 : decode cX3_init 9 = .ok (.putfield 9, 3) := by decide +kernel
theorem dX3_init_12 : decode cX3_init 12 = .ok (.aload_n 0, 1) := by decide +kernel
theorem dX3_init_13 : decode cX3_init 13 = .ok (.new 13, 3) := by decide +kernel
theorem dX3_init_16 : decode cX3_init 16 = .ok (.dup, 1) := by decide +kernel
theorem dX3_init_17 : decode cX3_init 17 = .ok (.invokespecial 15, 3) := by decide +kernel
theorem dX3_init_20 : decode cX3_init 20 = .ok (.putfield 16, 3) := by decide +kernel
theorem dX3_init_23 : decode cX3_init 23 = .ok (.aload_n 0, 1) := by decide +kernel
theorem dX3_init_24 : decode cX3_init 24 = .ok (.new 20, 3) := by decide +kernel
theorem dX3_init_27 : decode cX3_init 27 = .ok (.dup, 1) := by decide +kernel
theorem dX3_init_28 : decode cX3_init 28 = .ok (.invokespecial 22, 3) := by decide +kernel
theorem dX3_init_31 : decode cX3_init 31 = .ok (.putfield 23, 3) := by decide +kernel
theorem dX3_init_34 : decode cX3_init 34 = .ok (.aload_n 0, 1) := by decide +kernel
theorem dX3_init_35 : decode cX3_init 35 = .ok (.new 20, 3) := by decide +kernel
theorem dX3_init_38 : decode cX3_init 38 = .ok (.dup, 1) := by decide +kernel
theorem dX3_init_39 : decode cX3_init 39 = .ok (.invokespecial 22, 3) := by decide +kernel
theorem dX3_init_42 : decode cX3_init 42 = .ok (.putfield 27, 3) := by decide +kernel
theorem dX3_init_45 : decode cX3_init 45 = .ok (.aload_n 0, 1) := by decide +kernel
theorem dX3_init_46 : decode cX3_init 46 = .ok (.new 30, 3) := by decide +kernel
theorem dX3_init_49 : decode cX3_init 49 = .ok (.dup, 1) := by decide +kernel
theorem dX3_init_50 : decode cX3_init 50 = .ok (.invokespecial 32, 3) := by decide +kernel
theorem dX3_init_53 : decode cX3_init 53 = .ok (.putfield 33, 3) := by decide +kernel
theorem dX3_init_56 : decode cX3_init 56 = .ok (.aload_n 0, 1) := by decide +kernel
theorem dX3_init_57 : decode cX3_init 57 = .ok (.iconst 1, 1) := by decide +kernel
theorem dX3_init_58 : decode cX3_init 58 = .ok (.iconst 4, 1) := by decide +kernel
theorem dX3_init_59 : decode cX3_init 59 = .ok (.iload_n 1, 1) := by decide +kernel
theorem dX3_init_60 : decode cX3_init 60 = .ok (.invokestatic 37, 3) := by decide +kernel
theorem dX3_init_63 : decode cX3_init 63 = .ok (.invokestatic 43, 3) := by decide +kernel
theorem dX3_init_66 : decode cX3_init 66 = .ok (.putfield 46, 3) := by decide +kernel
theorem dX3_init_69 : decode cX3_init 69 = .ok (.return_, 1) := by decide +kernel
set_option maxRecDepth 20000 in
theorem ggX3_row_X3_isUnit : GoodIn wsX3_row wsX3_isUnit := goodIn_r _ [7] (by decide +kernel) (by decide +kernel)
set_option maxRecDepth 20000 in
theorem gX3_row_X3_isUnit : GoodIn wsX3_row (va_wsS RX3 50 yX3_isUnit wsX3_isUnit) := goodIn_app (goodIn_of _ (by decide +kernel)) ggX3_row_X3_isUnit
set_option maxRecDepth 20000 in
theorem ggX3_row_X3_isCell : GoodIn wsX3_row wsX3_isCell := goodIn_r _ [10] (by decide +kernel) (by decide +kernel)
set_option maxRecDepth 20000 in
theorem gX3_row_X3_isCell : GoodIn wsX3_row (va_wsS RX3 54 yX3_isCell wsX3_isCell) := goodIn_app (goodIn_of _ (by decide +kernel)) ggX3_row_X3_isCell
set_option maxRecDepth 20000 in
theorem ggX3_row_X2_isOver : GoodIn wsX3_row wsX2_isOver := goodIn_ca (goodIn_r _ [15, 16, 5, 6, 7, 81, 82] (by decide +kernel) (by decide +kernel)) (goodIn_sub (fun _ h => List.mem_cons_of_mem _ (List.mem_append_right _ h)) (by decide +kernel))
set_option maxRecDepth 20000 in
theorem gX3_row_X2_isOver : GoodIn wsX3_row (wsV RX3 57 RX2 yX2_isOver wsX2_isOver) := goodIn_app (goodIn_of _ (by decide +kernel)) ggX3_row_X2_isOver
set_option maxRecDepth 20000 in
theorem ggX3_row_X2_isChangedByAnother : GoodIn wsX3_row wsX2_isChangedByAnother := goodIn_ca (goodIn_r _ [20, 21, 9, 6, 10, 22, 23, 24, 14, 25, 16, 5, 7, 81, 82] (by decide +kernel) (by decide +kernel)) (goodIn_sub (fun _ h => List.mem_cons_of_mem _ (List.mem_append_right _ h)) (by decide +kernel))
set_option maxRecDepth 20000 in
theorem gX3_row_X2_isChangedByAnother : GoodIn wsX3_row (wsV RX3 60 RX2 yX2_isChangedByAnother wsX2_isChangedByAnother) := goodIn_app (goodIn_of _ (by decide +kernel)) ggX3_row_X2_isChangedByAnother
set_option maxRecDepth 20000 in
theorem ggX3_row_X1_hasRoomFor : GoodIn wsX3_row wsX1_hasRoomFor := goodIn_r _ [30, 31, 83, 84, 85, 86, 87, 88, 89, 90, 91] (by decide +kernel) (by decide +kernel)
set_option maxRecDepth 20000 in
theorem gX3_row_X1_hasRoomFor : GoodIn wsX3_row (wsV RX3 64 RX1 yX1_hasRoomFor wsX1_hasRoomFor) := goodIn_app (goodIn_of _ (by decide +kernel)) ggX3_row_X1_hasRoomFor
set_option maxRecDepth 20000 in
theorem ggX3_row_X3_writeChange : GoodIn wsX3_row wsX3_writeChange := goodIn_ca (goodIn_r _ [35, 3, 1, 36, 2, 37, 38, 39, 29, 40, 31, 41, 42, 43, 44, 45, 46, 47, 48, 27, 28, 30, 49, 50, 51, 14, 52, 16, 21, 5, 6, 7, 9, 10, 53, 54, 55, 56, 8, 57, 58, 59, 60, 61, 62, 63, 64, 65, 66, 67, 68, 69, 70, 71, 72, 73, 74, 75, 76, 77, 78, 79, 80, 83, 84, 85, 86, 87, 88, 89, 90, 91, 81, 82, 92, 93, 94, 95, 96, 97] (by decide +kernel) (by decide +kernel)) (goodIn_sub (fun _ h => List.mem_cons_of_mem _ (List.mem_append_right _ h)) (by decide +kernel))
set_option maxRecDepth 20000 in
theorem gX3_row_X3_writeChange : GoodIn wsX3_row (wsV RX3 67 RX3 yX3_writeChange wsX3_writeChange) := goodIn_app (goodIn_of _ (by decide +kernel)) ggX3_row_X3_writeChange
theorem dX3_row_0 : decode cX3_row 0 = .ok (.iload_n 1, 1) := by decide +kernel
theorem dX3_row_1 : decode cX3_row 1 = .ok (.invokestatic 50, 3) := by decide +kernel
theorem dX3_row_4 : decode cX3_row 4 = .ok (.ifCond .eq 10, 3) := by decide +kernel
theorem dX3_row_7 : decode cX3_row 7 = .ok (.iload_n 2, 1) := by decide +kernel
theorem dX3_row_8 : decode cX3_row 8 = .ok (.invokestatic 54, 3) := by decide +kernel
theorem dX3_row_11 : decode cX3_row 11 = .ok (.ifCond .ne 6, 3) := by decide +kernel
theorem dX3_row_14 : decode cX3_row 14 = .ok (.bipush (-4), 2) := by decide +kernel
theorem dX3_row_16 : decode cX3_row 16 = .ok (.ireturn, 1) := by decide +kernel
theorem dX3_row_17 : decode cX3_row 17 = .ok (.aload_n 0, 1) := by decide +kernel
theorem dX3_row_18 : decode cX3_row 18 = .ok (.getfield 23, 3) := by decide +kernel
theorem dX3_row_21 : decode cX3_row 21 = .ok (.iload_n 1, 1) := by decide +kernel
theorem dX3_row_22 : decode cX3_row 22 = .ok (.invokevirtual 57, 3) := by decide +kernel
theorem dX3_row_25 : decode cX3_row 25 = .ok (.ifCond .eq 6, 3) := by decide +kernel
theorem dX3_row_28 : decode cX3_row 28 = .ok (.bipush (-5), 2) := by decide +kernel
theorem dX3_row_30 : decode cX3_row 30 = .ok (.ireturn, 1) := by decide +kernel
theorem dX3_row_31 : decode cX3_row 31 = .ok (.aload_n 0, 1) := by decide +kernel
theorem dX3_row_32 : decode cX3_row 32 = .ok (.getfield 23, 3) := by decide +kernel
theorem dX3_row_35 : decode cX3_row 35 = .ok (.iload_n 2, 1) := by decide +kernel
theorem dX3_row_36 : decode cX3_row 36 = .ok (.iload_n 1, 1) := by decide +kernel
theorem dX3_row_37 : decode cX3_row 37 = .ok (.invokevirtual 60, 3) := by decide +kernel
theorem dX3_row_40 : decode cX3_row 40 = .ok (.ifCond .eq 6, 3) := by decide +kernel
theorem dX3_row_43 : decode cX3_row 43 = .ok (.bipush (-3), 2) := by decide +kernel
theorem dX3_row_45 : decode cX3_row 45 = .ok (.ireturn, 1) := by decide +kernel
theorem dX3_row_46 : decode cX3_row 46 = .ok (.aload_n 0, 1) := by decide +kernel
theorem dX3_row_47 : decode cX3_row 47 = .ok (.getfield 9, 3) := by decide +kernel
theorem dX3_row_50 : decode cX3_row 50 = .ok (.iload_n 2, 1) := by decide +kernel
theorem dX3_row_51 : decode cX3_row 51 = .ok (.laload, 1) := by decide +kernel
theorem dX3_row_52 : decode cX3_row 52 = .ok (.lload_n 3, 1) := by decide +kernel
theorem dX3_row_53 : decode cX3_row 53 = .ok (.lcmp, 1) := by decide +kernel
theorem dX3_row_54 : decode cX3_row 54 = .ok (.ifCond .eq 5, 3) := by decide +kernel
theorem dX3_row_57 : decode cX3_row 57 = .ok (.iconst 0, 1) := by decide +kernel
theorem dX3_row_58 : decode cX3_row 58 = .ok (.ireturn, 1) := by decide +kernel
theorem dX3_row_59 : decode cX3_row 59 = .ok (.aload_n 0, 1) := by decide +kernel
theorem dX3_row_60 : decode cX3_row 60 = .ok (.getfield 16, 3) := by decide +kernel
theorem dX3_row_63 : decode cX3_row 63 = .ok (.iconst 1, 1) := by decide +kernel
theorem dX3_row_64 : decode cX3_row 64 = .ok (.invokevirtual 64, 3) := by decide +kernel
theorem dX3_row_67 : decode cX3_row 67 = .ok (.ifCond .ne 5, 3) := by decide +kernel
theorem dX3_row_70 : decode cX3_row 70 = .ok (.iconst (-1), 1) := by decide +kernel
theorem dX3_row_71 : decode cX3_row 71 = .ok (.ireturn, 1) := by decide +kernel
theorem dX3_row_72 : decode cX3_row 72 = .ok (.aload_n 0, 1) := by decide +kernel
theorem dX3_row_73 : decode cX3_row 73 = .ok (.iload_n 1, 1) := by decide +kernel
theorem dX3_row_74 : decode cX3_row 74 = .ok (.iload_n 2, 1) := by decide +kernel
theorem dX3_row_75 : decode cX3_row 75 = .ok (.lload_n 3, 1) := by decide +kernel
theorem dX3_row_76 : decode cX3_row 76 = .ok (.lload 5, 2) := by decide +kernel
theorem dX3_row_78 : decode cX3_row 78 = .ok (.iconst 0, 1) := by decide +kernel
theorem dX3_row_79 : decode cX3_row 79 = .ok (.invokevirtual 67, 3) := by decide +kernel
theorem dX3_row_82 : decode cX3_row 82 = .ok (.ireturn, 1) := by decide +kernel
set_option maxRecDepth 20000 in
theorem ggX3_sync_X3_isUnit : GoodIn wsX3_sync wsX3_isUnit := goodIn_r _ [6] (by decide +kernel) (by decide +kernel)
set_option maxRecDepth 20000 in
theorem gX3_sync_X3_isUnit : GoodIn wsX3_sync (va_wsS RX3 50 yX3_isUnit wsX3_isUnit) := goodIn_app (goodIn_of _ (by decide +kernel)) ggX3_sync_X3_isUnit
set_option maxRecDepth 20000 in
theorem ggX3_sync_X2_isOpen : GoodIn wsX3_sync wsX2_isOpen := goodIn_ca (goodIn_r _ [11, 12, 4, 5, 6, 68, 69] (by decide +kernel) (by decide +kernel)) (goodIn_sub (fun _ h => List.mem_cons_of_mem _ (List.mem_append_right _ h)) (by decide +kernel))
set_option maxRecDepth 20000 in
theorem gX3_sync_X2_isOpen : GoodIn wsX3_sync (wsV RX3 71 RX2 yX2_isOpen wsX2_isOpen) := goodIn_app (goodIn_of _ (by decide +kernel)) ggX3_sync_X2_isOpen
set_option maxRecDepth 20000 in
theorem ggX3_sync_X1_hasRoomFor : GoodIn wsX3_sync wsX1_hasRoomFor := goodIn_r _ [17, 18, 70, 71, 72, 73, 74, 75, 76, 77, 78] (by decide +kernel) (by decide +kernel)
set_option maxRecDepth 20000 in
theorem gX3_sync_X1_hasRoomFor : GoodIn wsX3_sync (wsV RX3 64 RX1 yX1_hasRoomFor wsX1_hasRoomFor) := goodIn_app (goodIn_of _ (by decide +kernel)) ggX3_sync_X1_hasRoomFor
set_option maxRecDepth 20000 in
theorem ggX3_sync_X3_writeLastOf : GoodIn wsX3_sync wsX3_writeLastOf := goodIn_ca (goodIn_r _ [22, 2, 1, 23, 24, 25, 26, 27, 16, 28, 18, 29, 30, 31, 32, 33, 34, 35, 36, 14, 15, 17, 37, 38, 39, 10, 40, 12, 41, 4, 5, 6, 42, 43, 44, 45, 46, 47, 48, 49, 50, 51, 52, 53, 54, 55, 56, 57, 58, 59, 60, 61, 62, 63, 64, 65, 66, 67, 70, 71, 72, 73, 74, 75, 76, 77, 78, 68, 69, 79, 80, 81, 82, 83, 84] (by decide +kernel) (by decide +kernel)) (goodIn_sub (fun _ h => List.mem_cons_of_mem _ (List.mem_append_right _ h)) (by decide +kernel))
set_option maxRecDepth 20000 in
theorem gX3_sync_X3_writeLastOf : GoodIn wsX3_sync (wsV RX3 74 RX3 yX3_writeLastOf wsX3_writeLastOf) := goodIn_app (goodIn_of _ (by decide +kernel)) ggX3_sync_X3_writeLastOf
theorem dX3_sync_0 : decode cX3_sync 0 = .ok (.iload_n 1, 1) := by decide +kernel
theorem dX3_sync_1 : decode cX3_sync 1 = .ok (.invokestatic 50, 3) := by decide +kernel
theorem dX3_sync_4 : decode cX3_sync 4 = .ok (.ifCond .ne 6, 3) := by decide +kernel
theorem dX3_sync_7 : decode cX3_sync 7 = .ok (.bipush (-4), 2) := by decide +kernel
theorem dX3_sync_9 : decode cX3_sync 9 = .ok (.ireturn, 1) := by decide +kernel
theorem dX3_sync_10 : decode cX3_sync 10 = .ok (.aload_n 0, 1) := by decide +kernel
theorem dX3_sync_11 : decode cX3_sync 11 = .ok (.getfield 23, 3) := by decide +kernel
theorem dX3_sync_14 : decode cX3_sync 14 = .ok (.iload_n 1, 1) := by decide +kernel
theorem dX3_sync_15 : decode cX3_sync 15 = .ok (.invokevirtual 71, 3) := by decide +kernel
theorem dX3_sync_18 : decode cX3_sync 18 = .ok (.ifCond .ne 6, 3) := by decide +kernel
theorem dX3_sync_21 : decode cX3_sync 21 = .ok (.bipush (-5), 2) := by decide +kernel
theorem dX3_sync_23 : decode cX3_sync 23 = .ok (.ireturn, 1) := by decide +kernel
theorem dX3_sync_24 : decode cX3_sync 24 = .ok (.aload_n 0, 1) := by decide +kernel
theorem dX3_sync_25 : decode cX3_sync 25 = .ok (.getfield 16, 3) := by decide +kernel
theorem dX3_sync_28 : decode cX3_sync 28 = .ok (.iconst 1, 1) := by decide +kernel
theorem dX3_sync_29 : decode cX3_sync 29 = .ok (.invokevirtual 64, 3) := by decide +kernel
theorem dX3_sync_32 : decode cX3_sync 32 = .ok (.ifCond .ne 5, 3) := by decide +kernel
theorem dX3_sync_35 : decode cX3_sync 35 = .ok (.iconst (-1), 1) := by decide +kernel
theorem dX3_sync_36 : decode cX3_sync 36 = .ok (.ireturn, 1) := by decide +kernel
theorem dX3_sync_37 : decode cX3_sync 37 = .ok (.aload_n 0, 1) := by decide +kernel
theorem dX3_sync_38 : decode cX3_sync 38 = .ok (.iload_n 1, 1) := by decide +kernel
theorem dX3_sync_39 : decode cX3_sync 39 = .ok (.iconst 1, 1) := by decide +kernel
theorem dX3_sync_40 : decode cX3_sync 40 = .ok (.iconst 0, 1) := by decide +kernel
theorem dX3_sync_41 : decode cX3_sync 41 = .ok (.invokevirtual 74, 3) := by decide +kernel
theorem dX3_sync_44 : decode cX3_sync 44 = .ok (.ireturn, 1) := by decide +kernel
set_option maxRecDepth 20000 in
theorem ggX3_copy_X1_latest : GoodIn wsX3_copy wsX1_latest := goodIn_r _ [8, 9, 34, 35, 36, 37, 38, 39, 40, 41, 42] (by decide +kernel) (by decide +kernel)
set_option maxRecDepth 20000 in
theorem gX3_copy_X1_latest : GoodIn wsX3_copy (wsV RX3 78 RX1 yX1_latest wsX1_latest) := goodIn_app (goodIn_of _ (by decide +kernel)) ggX3_copy_X1_latest
set_option maxRecDepth 20000 in
theorem ggX3_copy_X0_finish : GoodIn wsX3_copy wsX0_finish := goodIn_ca (goodIn_r _ [14, 15, 16, 17, 18, 19, 20, 21, 22, 43, 44, 45, 46, 47, 48] (by decide +kernel) (by decide +kernel)) (goodIn_sub (fun _ h => List.mem_cons_of_mem _ (List.mem_append_right _ h)) (by decide +kernel))
set_option maxRecDepth 20000 in
theorem gX3_copy_X0_finish : GoodIn wsX3_copy (wsV RX3 82 RX0 yX0_finish wsX0_finish) := goodIn_app (goodIn_of _ (by decide +kernel)) ggX3_copy_X0_finish
set_option maxRecDepth 20000 in
theorem ggX3_copy_X0_take : GoodIn wsX3_copy wsX0_take := goodIn_ca (goodIn_r _ [26, 17, 27, 22, 16, 18, 19, 20, 21, 15, 43, 44, 45, 46, 47, 48] (by decide +kernel) (by decide +kernel)) (goodIn_sub (fun _ h => List.mem_cons_of_mem _ (List.mem_append_right _ h)) (by decide +kernel))
set_option maxRecDepth 20000 in
theorem gX3_copy_X0_take : GoodIn wsX3_copy (wsV RX3 86 RX0 yX0_take wsX0_take) := goodIn_app (goodIn_of _ (by decide +kernel)) ggX3_copy_X0_take
theorem dX3_copy_0 : decode cX3_copy 0 = .ok (.aload_n 0, 1) := by decide +kernel
theorem dX3_copy_1 : decode cX3_copy 1 = .ok (.getfield 33, 3) := by decide +kernel
theorem dX3_copy_4 : decode cX3_copy 4 = .ok (.aload_n 0, 1) := by decide +kernel
theorem dX3_copy_5 : decode cX3_copy 5 = .ok (.getfield 16, 3) := by decide +kernel
theorem dX3_copy_8 : decode cX3_copy 8 = .ok (.invokevirtual 78, 3) := by decide +kernel
theorem dX3_copy_11 : decode cX3_copy 11 = .ok (.aload_n 0, 1) := by decide +kernel
theorem dX3_copy_12 : decode cX3_copy 12 = .ok (.getfield 9, 3) := by decide +kernel
theorem dX3_copy_15 : decode cX3_copy 15 = .ok (.invokevirtual 82, 3) := by decide +kernel
theorem dX3_copy_18 : decode cX3_copy 18 = .ok (.aload_n 0, 1) := by decide +kernel
theorem dX3_copy_19 : decode cX3_copy 19 = .ok (.getfield 33, 3) := by decide +kernel
theorem dX3_copy_22 : decode cX3_copy 22 = .ok (.iload_n 1, 1) := by decide +kernel
theorem dX3_copy_23 : decode cX3_copy 23 = .ok (.aload_n 0, 1) := by decide +kernel
theorem dX3_copy_24 : decode cX3_copy 24 = .ok (.getfield 16, 3) := by decide +kernel
theorem dX3_copy_27 : decode cX3_copy 27 = .ok (.invokevirtual 78, 3) := by decide +kernel
theorem dX3_copy_30 : decode cX3_copy 30 = .ok (.aload_n 0, 1) := by decide +kernel
theorem dX3_copy_31 : decode cX3_copy 31 = .ok (.getfield 9, 3) := by decide +kernel
theorem dX3_copy_34 : decode cX3_copy 34 = .ok (.invokevirtual 86, 3) := by decide +kernel
theorem dX3_copy_37 : decode cX3_copy 37 = .ok (.ireturn, 1) := by decide +kernel
set_option maxRecDepth 20000 in
theorem ggX3_recover_X1_latest : GoodIn wsX3_recover wsX1_latest := goodIn_r _ [10, 11, 200, 201, 202, 203, 204, 205, 206, 207, 208] (by decide +kernel) (by decide +kernel)
set_option maxRecDepth 20000 in
theorem gX3_recover_X1_latest : GoodIn wsX3_recover (wsV RX3 78 RX1 yX1_latest wsX1_latest) := goodIn_app (goodIn_of _ (by decide +kernel)) ggX3_recover_X1_latest
set_option maxRecDepth 20000 in
theorem ggX3_recover_X0_finish : GoodIn wsX3_recover wsX0_finish := goodIn_ca (goodIn_r _ [16, 17, 18, 19, 20, 21, 22, 23, 24, 209, 210, 211, 212, 213, 214] (by decide +kernel) (by decide +kernel)) (goodIn_sub (fun _ h => List.mem_cons_of_mem _ (List.mem_append_right _ h)) (by decide +kernel))
set_option maxRecDepth 20000 in
theorem gX3_recover_X0_finish : GoodIn wsX3_recover (wsV RX3 82 RX0 yX0_finish wsX0_finish) := goodIn_app (goodIn_of _ (by decide +kernel)) ggX3_recover_X0_finish
set_option maxRecDepth 20000 in
theorem ggX3_recover_X0_isGood : GoodIn wsX3_recover wsX0_isGood := goodIn_ca (goodIn_r _ [28, 29, 30, 31, 32, 15, 33, 19, 209, 210, 211, 212, 213, 214] (by decide +kernel) (by decide +kernel)) (goodIn_sub (fun _ h => List.mem_cons_of_mem _ (List.mem_append_right _ h)) (by decide +kernel))
set_option maxRecDepth 20000 in
theorem gX3_recover_X0_isGood : GoodIn wsX3_recover (wsV RX3 90 RX0 yX0_isGood wsX0_isGood) := goodIn_app (goodIn_of _ (by decide +kernel)) ggX3_recover_X0_isGood
set_option maxRecDepth 20000 in
theorem ggX3_recover_X0_endOf : GoodIn wsX3_recover wsX0_endOf := goodIn_ca (goodIn_r _ [37, 24, 30, 31, 32, 15, 33, 19, 209, 210, 211, 212, 213, 214] (by decide +kernel) (by decide +kernel)) (goodIn_sub (fun _ h => List.mem_cons_of_mem _ (List.mem_append_right _ h)) (by decide +kernel))
set_option maxRecDepth 20000 in
theorem gX3_recover_X0_endOf : GoodIn wsX3_recover (wsV RX3 93 RX0 yX0_endOf wsX0_endOf) := goodIn_app (goodIn_of _ (by decide +kernel)) ggX3_recover_X0_endOf
set_option maxRecDepth 20000 in
theorem ggX3_recover_X2_followAll : GoodIn wsX3_recover wsX2_followAll := goodIn_ca (goodIn_r _ [42, 43, 44, 45, 46, 47, 48, 49, 50, 51, 9, 52, 53, 54, 55, 56, 57, 11, 58, 59, 60, 61, 62, 63, 64, 65, 66, 67, 68, 69, 70, 41, 71, 72, 73, 74, 75, 76, 215, 216, 200, 201, 202, 203, 204, 205, 206, 207, 208] (by decide +kernel) (by decide +kernel)) (goodIn_sub (fun _ h => List.mem_cons_of_mem _ (List.mem_append_right _ h)) (by decide +kernel))
set_option maxRecDepth 20000 in
theorem gX3_recover_X2_followAll : GoodIn wsX3_recover (wsV RX3 97 RX2 yX2_followAll wsX2_followAll) := goodIn_app (goodIn_of _ (by decide +kernel)) ggX3_recover_X2_followAll
set_option maxRecDepth 20000 in
theorem ggX3_recover_X0_startOf : GoodIn wsX3_recover wsX0_startOf := goodIn_ca (goodIn_r _ [80, 81, 30, 31, 32, 15, 33, 19, 209, 210, 211, 212, 213, 214] (by decide +kernel) (by decide +kernel)) (goodIn_sub (fun _ h => List.mem_cons_of_mem _ (List.mem_append_right _ h)) (by decide +kernel))
set_option maxRecDepth 20000 in
theorem gX3_recover_X0_startOf : GoodIn wsX3_recover (wsV RX3 101 RX0 yX0_startOf wsX0_startOf) := goodIn_app (goodIn_of _ (by decide +kernel)) ggX3_recover_X0_startOf
set_option maxRecDepth 20000 in
theorem ggX3_recover_X3_leastMissing : GoodIn wsX3_recover wsX3_leastMissing := goodIn_ca (goodIn_r _ [85, 2, 86, 87, 88, 9, 89, 90, 54, 55, 56, 57, 11, 91, 92, 93, 73, 94, 4, 95, 96, 97, 98, 99, 100, 101, 102, 103, 53, 104, 59, 60, 61, 62, 105, 106, 107, 41, 108, 43, 72, 74, 194, 195, 196, 197, 198, 199, 200, 201, 202, 203, 204, 205, 206, 207, 208, 215, 216] (by decide +kernel) (by decide +kernel)) (goodIn_sub (fun _ h => List.mem_cons_of_mem _ (List.mem_append_right _ h)) (by decide +kernel))
set_option maxRecDepth 20000 in
theorem gX3_recover_X3_leastMissing : GoodIn wsX3_recover (wsV RX3 104 RX3 yX3_leastMissing wsX3_leastMissing) := goodIn_app (goodIn_of _ (by decide +kernel)) ggX3_recover_X3_leastMissing
set_option maxRecDepth 20000 in
theorem ggX3_recover_X3_rowsOfBackingOut : GoodIn wsX3_recover wsX3_rowsOfBackingOut := goodIn_ca (goodIn_r _ [112, 4, 113, 114, 115, 41, 116, 117, 118, 119, 120, 43, 91, 92, 93, 73, 94, 2, 95, 96, 97, 9, 98, 99, 100, 101, 102, 103, 53, 54, 55, 56, 57, 11, 104, 59, 60, 61, 62, 105, 106, 107, 108, 72, 74, 194, 195, 196, 197, 198, 199, 215, 216, 200, 201, 202, 203, 204, 205, 206, 207, 208] (by decide +kernel) (by decide +kernel)) (goodIn_sub (fun _ h => List.mem_cons_of_mem _ (List.mem_append_right _ h)) (by decide +kernel))
set_option maxRecDepth 20000 in
theorem gX3_recover_X3_rowsOfBackingOut : GoodIn wsX3_recover (wsV RX3 107 RX3 yX3_rowsOfBackingOut wsX3_rowsOfBackingOut) := goodIn_app (goodIn_of _ (by decide +kernel)) ggX3_recover_X3_rowsOfBackingOut
set_option maxRecDepth 20000 in
theorem ggX3_recover_X3_bringForward : GoodIn wsX3_recover wsX3_bringForward := goodIn_ca (goodIn_r _ [124, 1, 3, 2, 125, 126, 127, 15, 128, 18, 20, 21, 22, 23, 30, 31, 32, 33, 19, 77, 78, 79, 80, 81, 129, 101, 102, 9, 103, 53, 54, 55, 56, 57, 11, 130, 64, 65, 66, 67, 131, 132, 133, 134, 135, 136, 137, 138, 73, 139, 140, 75, 76, 194, 195, 196, 197, 198, 199, 209, 210, 211, 212, 213, 214, 200, 201, 202, 203, 204, 205, 206, 207, 208] (by decide +kernel) (by decide +kernel)) (goodIn_sub (fun _ h => List.mem_cons_of_mem _ (List.mem_append_right _ h)) (by decide +kernel))
set_option maxRecDepth 20000 in
theorem gX3_recover_X3_bringForward : GoodIn wsX3_recover (wsV RX3 110 RX3 yX3_bringForward wsX3_bringForward) := goodIn_app (goodIn_of _ (by decide +kernel)) ggX3_recover_X3_bringForward
set_option maxRecDepth 20000 in
theorem ggX3_recover_X3_dropBehind : GoodIn wsX3_recover wsX3_dropBehind := goodIn_ca (goodIn_r _ [144, 2, 1, 5, 145, 146, 147, 9, 148, 11, 149, 150, 151, 152, 153, 154, 155, 156, 15, 157, 19, 24, 29, 38, 39, 40, 41, 42, 43, 44, 45, 46, 47, 48, 49, 50, 51, 52, 53, 54, 55, 56, 57, 58, 59, 60, 61, 62, 63, 64, 65, 66, 67, 68, 69, 70, 71, 72, 73, 74, 75, 76, 194, 195, 196, 197, 198, 199, 200, 201, 202, 203, 204, 205, 206, 207, 208, 209, 210, 211, 212, 213, 214, 215, 216] (by decide +kernel) (by decide +kernel)) (goodIn_sub (fun _ h => List.mem_cons_of_mem _ (List.mem_append_right _ h)) (by decide +kernel))
set_option maxRecDepth 20000 in
theorem gX3_recover_X3_dropBehind : GoodIn wsX3_recover (wsV RX3 114 RX3 yX3_dropBehind wsX3_dropBehind) := goodIn_app (goodIn_of _ (by decide +kernel)) ggX3_recover_X3_dropBehind
set_option maxRecDepth 20000 in
theorem ggX3_recover_X3_backOutAllOpen : GoodIn wsX3_recover wsX3_backOutAllOpen := goodIn_ca (goodIn_r _ [161, 5, 105, 106, 107, 41, 108, 43, 72, 73, 74, 162, 163, 164, 165, 2, 6, 7, 8, 9, 10, 11, 95, 96, 97, 98, 99, 100, 101, 102, 103, 53, 54, 55, 56, 57, 104, 59, 60, 61, 62, 130, 64, 65, 66, 67, 131, 132, 133, 134, 135, 166, 167, 168, 169, 170, 171, 172, 173, 174, 1, 3, 175, 176, 177, 178, 90, 179, 180, 181, 182, 183, 69, 70, 71, 44, 75, 76, 136, 137, 138, 139, 140, 184, 185, 186, 15, 187, 81, 19, 188, 13, 14, 16, 17, 18, 20, 21, 22, 23, 24, 189, 190, 191, 192, 194, 195, 196, 197, 198, 199, 215, 216, 200, 201, 202, 203, 204, 205, 206, 207, 208, 209, 210, 211, 212, 213, 214] (by decide +kernel) (by decide +kernel)) (goodIn_sub (fun _ h => List.mem_cons_of_mem _ (List.mem_append_right _ h)) (by decide +kernel))
set_option maxRecDepth 20000 in
theorem gX3_recover_X3_backOutAllOpen : GoodIn wsX3_recover (wsV RX3 118 RX3 yX3_backOutAllOpen wsX3_backOutAllOpen) := goodIn_app (goodIn_of _ (by decide +kernel)) ggX3_recover_X3_backOutAllOpen
set_option maxRecDepth 20000 in
theorem ggX3_recover_X2_howManyEndedBy : GoodIn wsX3_recover wsX2_howManyEndedBy := goodIn_ca (goodIn_r _ [120, 43, 215, 216] (by decide +kernel) (by decide +kernel)) (goodIn_sub (fun _ h => List.mem_cons_of_mem _ (List.mem_append_right _ h)) (by decide +kernel))
set_option maxRecDepth 20000 in
theorem gX3_recover_X2_howManyEndedBy : GoodIn wsX3_recover (wsV RX3 121 RX2 yX2_howManyEndedBy wsX2_howManyEndedBy) := goodIn_app (goodIn_of _ (by decide +kernel)) ggX3_recover_X2_howManyEndedBy
theorem dX3_recover_0 : decode cX3_recover 0 = .ok (.aload_n 0, 1) := by decide +kernel
theorem dX3_recover_1 : decode cX3_recover 1 = .ok (.getfield 33, 3) := by decide +kernel
theorem dX3_recover_4 : decode cX3_recover 4 = .ok (.aload_n 0, 1) := by decide +kernel
theorem dX3_recover_5 : decode cX3_recover 5 = .ok (.getfield 16, 3) := by decide +kernel
theorem dX3_recover_8 : decode cX3_recover 8 = .ok (.invokevirtual 78, 3) := by decide +kernel
theorem dX3_recover_11 : decode cX3_recover 11 = .ok (.aload_n 0, 1) := by decide +kernel
theorem dX3_recover_12 : decode cX3_recover 12 = .ok (.getfield 9, 3) := by decide +kernel
theorem dX3_recover_15 : decode cX3_recover 15 = .ok (.invokevirtual 82, 3) := by decide +kernel
theorem dX3_recover_18 : decode cX3_recover 18 = .ok (.aload_n 0, 1) := by decide +kernel
theorem dX3_recover_19 : decode cX3_recover 19 = .ok (.getfield 33, 3) := by decide +kernel
theorem dX3_recover_22 : decode cX3_recover 22 = .ok (.iload_n 1, 1) := by decide +kernel
theorem dX3_recover_23 : decode cX3_recover 23 = .ok (.invokevirtual 90, 3) := by decide +kernel
theorem dX3_recover_26 : decode cX3_recover 26 = .ok (.ifCond .ne 6, 3) := by decide +kernel
theorem dX3_recover_29 : decode cX3_recover 29 = .ok (.bipush (-2), 2) := by decide +kernel
theorem dX3_recover_31 : decode cX3_recover 31 = .ok (.ireturn, 1) := by decide +kernel
theorem dX3_recover_32 : decode cX3_recover 32 = .ok (.lload_n 2, 1) := by decide +kernel
theorem dX3_recover_33 : decode cX3_recover 33 = .ok (.aload_n 0, 1) := by decide +kernel
theorem dX3_recover_34 : decode cX3_recover 34 = .ok (.getfield 16, 3) := by decide +kernel
theorem dX3_recover_37 : decode cX3_recover 37 = .ok (.invokevirtual 78, 3) := by decide +kernel
theorem dX3_recover_40 : decode cX3_recover 40 = .ok (.i2l, 1) := by decide +kernel
theorem dX3_recover_41 : decode cX3_recover 41 = .ok (.lcmp, 1) := by decide +kernel
theorem dX3_recover_42 : decode cX3_recover 42 = .ok (.ifCond .gt 17, 3) := by decide +kernel
theorem dX3_recover_45 : decode cX3_recover 45 = .ok (.lload_n 2, 1) := by decide +kernel
theorem dX3_recover_46 : decode cX3_recover 46 = .ok (.aload_n 0, 1) := by decide +kernel
theorem dX3_recover_47 : decode cX3_recover 47 = .ok (.getfield 33, 3) := by decide +kernel
theorem dX3_recover_50 : decode cX3_recover 50 = .ok (.iload_n 1, 1) := by decide +kernel
theorem dX3_recover_51 : decode cX3_recover 51 = .ok (.invokevirtual 93, 3) := by decide +kernel
theorem dX3_recover_54 : decode cX3_recover 54 = .ok (.i2l, 1) := by decide +kernel
theorem dX3_recover_55 : decode cX3_recover 55 = .ok (.lcmp, 1) := by decide +kernel
theorem dX3_recover_56 : decode cX3_recover 56 = .ok (.ifCond .ge 6, 3) := by decide +kernel
theorem dX3_recover_59 : decode cX3_recover 59 = .ok (.bipush (-4), 2) := by decide +kernel
theorem dX3_recover_61 : decode cX3_recover 61 = .ok (.ireturn, 1) := by decide +kernel
theorem dX3_recover_62 : decode cX3_recover 62 = .ok (.lload_n 2, 1) := by decide +kernel
theorem dX3_recover_63 : decode cX3_recover 63 = .ok (.l2i, 1) := by decide +kernel
theorem dX3_recover_64 : decode cX3_recover 64 = .ok (.istore 4, 2) := by decide +kernel
theorem dX3_recover_66 : decode cX3_recover 66 = .ok (.aload_n 0, 1) := by decide +kernel
theorem dX3_recover_67 : decode cX3_recover 67 = .ok (.getfield 27, 3) := by decide +kernel
theorem dX3_recover_70 : decode cX3_recover 70 = .ok (.aload_n 0, 1) := by decide +kernel
theorem dX3_recover_71 : decode cX3_recover 71 = .ok (.getfield 16, 3) := by decide +kernel
theorem dX3_recover_74 : decode cX3_recover 74 = .ok (.iload 4, 2) := by decide +kernel
theorem dX3_recover_76 : decode cX3_recover 76 = .ok (.invokevirtual 97, 3) := by decide +kernel
theorem dX3_recover_79 : decode cX3_recover 79 = .ok (.aload_n 0, 1) := by decide +kernel
theorem dX3_recover_80 : decode cX3_recover 80 = .ok (.aload_n 0, 1) := by decide +kernel
theorem dX3_recover_81 : decode cX3_recover 81 = .ok (.getfield 33, 3) := by decide +kernel
theorem dX3_recover_84 : decode cX3_recover 84 = .ok (.iload_n 1, 1) := by decide +kernel
theorem dX3_recover_85 : decode cX3_recover 85 = .ok (.invokevirtual 101, 3) := by decide +kernel
theorem dX3_recover_88 : decode cX3_recover 88 = .ok (.iload 4, 2) := by decide +kernel
theorem dX3_recover_90 : decode cX3_recover 90 = .ok (.invokevirtual 104, 3) := by decide +kernel
theorem dX3_recover_93 : decode cX3_recover 93 = .ok (.istore 5, 2) := by decide +kernel
theorem dX3_recover_95 : decode cX3_recover 95 = .ok (.iload 5, 2) := by decide +kernel
theorem dX3_recover_97 : decode cX3_recover 97 = .ok (.ifCond .eq 9, 3) := by decide +kernel
theorem dX3_recover_100 : decode cX3_recover 100 = .ok (.bipush (-10), 2) := by decide +kernel
theorem dX3_recover_102 : decode cX3_recover 102 = .ok (.iload 5, 2) := by decide +kernel
theorem dX3_recover_104 : decode cX3_recover 104 = .ok (.isub, 1) := by decide +kernel
theorem dX3_recover_105 : decode cX3_recover 105 = .ok (.ireturn, 1) := by decide +kernel
theorem dX3_recover_106 : decode cX3_recover 106 = .ok (.iload 4, 2) := by decide +kernel
theorem dX3_recover_108 : decode cX3_recover 108 = .ok (.aload_n 0, 1) := by decide +kernel
theorem dX3_recover_109 : decode cX3_recover 109 = .ok (.iload 4, 2) := by decide +kernel
theorem dX3_recover_111 : decode cX3_recover 111 = .ok (.invokevirtual 107, 3) := by decide +kernel
theorem dX3_recover_114 : decode cX3_recover 114 = .ok (.iadd, 1) := by decide +kernel
theorem dX3_recover_115 : decode cX3_recover 115 = .ok (.sipush 2000, 3) := by decide +kernel
theorem dX3_recover_118 : decode cX3_recover 118 = .ok (.if_icmp .le 5, 3) := by decide +kernel
theorem dX3_recover_121 : decode cX3_recover 121 = .ok (.iconst (-1), 1) := by decide +kernel
theorem dX3_recover_122 : decode cX3_recover 122 = .ok (.ireturn, 1) := by decide +kernel
theorem dX3_recover_123 : decode cX3_recover 123 = .ok (.aload_n 0, 1) := by decide +kernel
theorem dX3_recover_124 : decode cX3_recover 124 = .ok (.iload_n 1, 1) := by decide +kernel
theorem dX3_recover_125 : decode cX3_recover 125 = .ok (.iload 4, 2) := by decide +kernel
theorem dX3_recover_127 : decode cX3_recover 127 = .ok (.invokevirtual 110, 3) := by decide +kernel
theorem dX3_recover_130 : decode cX3_recover 130 = .ok (.aload_n 0, 1) := by decide +kernel
theorem dX3_recover_131 : decode cX3_recover 131 = .ok (.iload 4, 2) := by decide +kernel
theorem dX3_recover_133 : decode cX3_recover 133 = .ok (.invokevirtual 114, 3) := by decide +kernel
theorem dX3_recover_136 : decode cX3_recover 136 = .ok (.aload_n 0, 1) := by decide +kernel
theorem dX3_recover_137 : decode cX3_recover 137 = .ok (.invokevirtual 118, 3) := by decide +kernel
theorem dX3_recover_140 : decode cX3_recover 140 = .ok (.aload_n 0, 1) := by decide +kernel
theorem dX3_recover_141 : decode cX3_recover 141 = .ok (.getfield 23, 3) := by decide +kernel
theorem dX3_recover_144 : decode cX3_recover 144 = .ok (.iconst 1, 1) := by decide +kernel
theorem dX3_recover_145 : decode cX3_recover 145 = .ok (.invokevirtual 121, 3) := by decide +kernel
theorem dX3_recover_148 : decode cX3_recover 148 = .ok (.ireturn, 1) := by decide +kernel
set_option maxRecDepth 20000 in
theorem ggX3_get_X3_isCell : GoodIn wsX3_get wsX3_isCell := goodIn_r _ [7] (by decide +kernel) (by decide +kernel)
set_option maxRecDepth 20000 in
theorem gX3_get_X3_isCell : GoodIn wsX3_get (va_wsS RX3 54 yX3_isCell wsX3_isCell) := goodIn_app (goodIn_of _ (by decide +kernel)) ggX3_get_X3_isCell
theorem dX3_get_0 : decode cX3_get 0 = .ok (.iload_n 1, 1) := by decide +kernel
theorem dX3_get_1 : decode cX3_get 1 = .ok (.invokestatic 54, 3) := by decide +kernel
theorem dX3_get_4 : decode cX3_get 4 = .ok (.ifCond .ne 13, 3) := by decide +kernel
theorem dX3_get_7 : decode cX3_get 7 = .ok (.new 124, 3) := by decide +kernel
theorem dX3_get_10 : decode cX3_get 10 = .ok (.dup, 1) := by decide +kernel
theorem dX3_get_11 : decode cX3_get 11 = .ok (.ldc 126, 2) := by decide +kernel
theorem dX3_get_13 : decode cX3_get 13 = .ok (.invokespecial 128, 3) := by decide +kernel
theorem dX3_get_16 : decode cX3_get 16 = .ok (.athrow, 1) := by decide +kernel
theorem dX3_get_17 : decode cX3_get 17 = .ok (.aload_n 0, 1) := by decide +kernel
theorem dX3_get_18 : decode cX3_get 18 = .ok (.getfield 9, 3) := by decide +kernel
theorem dX3_get_21 : decode cX3_get 21 = .ok (.iload_n 1, 1) := by decide +kernel
theorem dX3_get_22 : decode cX3_get 22 = .ok (.laload, 1) := by decide +kernel
theorem dX3_get_23 : decode cX3_get 23 = .ok (.lreturn, 1) := by decide +kernel
set_option maxRecDepth 20000 in
theorem ggX3_backout_X3_isUnit : GoodIn wsX3_backout wsX3_isUnit := goodIn_r _ [6] (by decide +kernel) (by decide +kernel)
set_option maxRecDepth 20000 in
theorem gX3_backout_X3_isUnit : GoodIn wsX3_backout (va_wsS RX3 50 yX3_isUnit wsX3_isUnit) := goodIn_app (goodIn_of _ (by decide +kernel)) ggX3_backout_X3_isUnit
set_option maxRecDepth 20000 in
theorem ggX3_backout_X2_isOpen : GoodIn wsX3_backout wsX2_isOpen := goodIn_ca (goodIn_r _ [11, 12, 4, 5, 6, 125, 126] (by decide +kernel) (by decide +kernel)) (goodIn_sub (fun _ h => List.mem_cons_of_mem _ (List.mem_append_right _ h)) (by decide +kernel))
set_option maxRecDepth 20000 in
theorem gX3_backout_X2_isOpen : GoodIn wsX3_backout (wsV RX3 71 RX2 yX2_isOpen wsX2_isOpen) := goodIn_app (goodIn_of _ (by decide +kernel)) ggX3_backout_X2_isOpen
set_option maxRecDepth 20000 in
theorem ggX3_backout_X3_latestMissingOf : GoodIn wsX3_backout wsX3_latestMissingOf := goodIn_ca (goodIn_r _ [16, 2, 17, 18, 19, 20, 21, 22, 23, 24, 25, 26, 27, 28, 29, 30, 31, 32, 33, 34, 35, 36, 37, 38, 39, 40, 41, 42, 43, 44, 45, 46, 119, 120, 121, 122, 123, 124, 127, 128, 129, 130, 131, 132, 133, 134, 135] (by decide +kernel) (by decide +kernel)) (goodIn_sub (fun _ h => List.mem_cons_of_mem _ (List.mem_append_right _ h)) (by decide +kernel))
set_option maxRecDepth 20000 in
theorem gX3_backout_X3_latestMissingOf : GoodIn wsX3_backout (wsV RX3 131 RX3 yX3_latestMissingOf wsX3_latestMissingOf) := goodIn_app (goodIn_of _ (by decide +kernel)) ggX3_backout_X3_latestMissingOf
set_option maxRecDepth 20000 in
theorem ggX3_backout_X3_changesOf : GoodIn wsX3_backout wsX3_changesOf := goodIn_ca (goodIn_r _ [50, 2, 17, 18, 19, 20, 21, 22, 32, 33, 34, 35, 36, 37, 38, 39, 40, 41, 28, 29, 30, 31, 42, 43, 44, 45, 46, 119, 120, 121, 122, 123, 124, 127, 128, 129, 130, 131, 132, 133, 134, 135] (by decide +kernel) (by decide +kernel)) (goodIn_sub (fun _ h => List.mem_cons_of_mem _ (List.mem_append_right _ h)) (by decide +kernel))
set_option maxRecDepth 20000 in
theorem gX3_backout_X3_changesOf : GoodIn wsX3_backout (wsV RX3 134 RX3 yX3_changesOf wsX3_changesOf) := goodIn_app (goodIn_of _ (by decide +kernel)) ggX3_backout_X3_changesOf
set_option maxRecDepth 20000 in
theorem ggX3_backout_X1_hasRoomFor : GoodIn wsX3_backout wsX1_hasRoomFor := goodIn_r _ [54, 22, 127, 128, 129, 130, 131, 132, 133, 134, 135] (by decide +kernel) (by decide +kernel)
set_option maxRecDepth 20000 in
theorem gX3_backout_X1_hasRoomFor : GoodIn wsX3_backout (wsV RX3 64 RX1 yX1_hasRoomFor wsX1_hasRoomFor) := goodIn_app (goodIn_of _ (by decide +kernel)) ggX3_backout_X1_hasRoomFor
set_option maxRecDepth 20000 in
theorem ggX3_backout_X3_writeBackingOut : GoodIn wsX3_backout wsX3_writeBackingOut := goodIn_ca (goodIn_r _ [58, 2, 17, 18, 19, 20, 21, 22, 32, 33, 34, 35, 36, 37, 38, 39, 40, 41, 28, 29, 30, 31, 42, 43, 44, 45, 46, 59, 60, 61, 62, 63, 64, 65, 66, 67, 68, 69, 70, 71, 72, 73, 74, 75, 76, 5, 77, 1, 78, 79, 80, 81, 82, 83, 27, 84, 52, 53, 54, 85, 86, 87, 10, 88, 12, 89, 4, 6, 90, 91, 92, 93, 94, 95, 96, 97, 98, 99, 100, 101, 102, 103, 104, 105, 106, 107, 108, 109, 110, 111, 112, 113, 114, 115, 116, 117, 118, 119, 120, 121, 122, 123, 124, 127, 128, 129, 130, 131, 132, 133, 134, 135, 125, 126, 136, 137, 138, 139, 140, 141] (by decide +kernel) (by decide +kernel)) (goodIn_sub (fun _ h => List.mem_cons_of_mem _ (List.mem_append_right _ h)) (by decide +kernel))
set_option maxRecDepth 20000 in
theorem gX3_backout_X3_writeBackingOut : GoodIn wsX3_backout (wsV RX3 137 RX3 yX3_writeBackingOut wsX3_writeBackingOut) := goodIn_app (goodIn_of _ (by decide +kernel)) ggX3_backout_X3_writeBackingOut
theorem dX3_backout_0 : decode cX3_backout 0 = .ok (.iload_n 1, 1) := by decide +kernel
theorem dX3_backout_1 : decode cX3_backout 1 = .ok (.invokestatic 50, 3) := by decide +kernel
theorem dX3_backout_4 : decode cX3_backout 4 = .ok (.ifCond .ne 6, 3) := by decide +kernel
theorem dX3_backout_7 : decode cX3_backout 7 = .ok (.bipush (-4), 2) := by decide +kernel
theorem dX3_backout_9 : decode cX3_backout 9 = .ok (.ireturn, 1) := by decide +kernel
theorem dX3_backout_10 : decode cX3_backout 10 = .ok (.aload_n 0, 1) := by decide +kernel
theorem dX3_backout_11 : decode cX3_backout 11 = .ok (.getfield 23, 3) := by decide +kernel
theorem dX3_backout_14 : decode cX3_backout 14 = .ok (.iload_n 1, 1) := by decide +kernel
theorem dX3_backout_15 : decode cX3_backout 15 = .ok (.invokevirtual 71, 3) := by decide +kernel
theorem dX3_backout_18 : decode cX3_backout 18 = .ok (.ifCond .ne 5, 3) := by decide +kernel
theorem dX3_backout_21 : decode cX3_backout 21 = .ok (.iconst 0, 1) := by decide +kernel
theorem dX3_backout_22 : decode cX3_backout 22 = .ok (.ireturn, 1) := by decide +kernel
theorem dX3_backout_23 : decode cX3_backout 23 = .ok (.aload_n 0, 1) := by decide +kernel
theorem dX3_backout_24 : decode cX3_backout 24 = .ok (.iload_n 1, 1) := by decide +kernel
theorem dX3_backout_25 : decode cX3_backout 25 = .ok (.invokevirtual 131, 3) := by decide +kernel
theorem dX3_backout_28 : decode cX3_backout 28 = .ok (.istore_n 2, 1) := by decide +kernel
theorem dX3_backout_29 : decode cX3_backout 29 = .ok (.iload_n 2, 1) := by decide +kernel
theorem dX3_backout_30 : decode cX3_backout 30 = .ok (.ifCond .eq 8, 3) := by decide +kernel
theorem dX3_backout_33 : decode cX3_backout 33 = .ok (.bipush (-10), 2) := by decide +kernel
theorem dX3_backout_35 : decode cX3_backout 35 = .ok (.iload_n 2, 1) := by decide +kernel
theorem dX3_backout_36 : decode cX3_backout 36 = .ok (.isub, 1) := by decide +kernel
theorem dX3_backout_37 : decode cX3_backout 37 = .ok (.ireturn, 1) := by decide +kernel
theorem dX3_backout_38 : decode cX3_backout 38 = .ok (.aload_n 0, 1) := by decide +kernel
theorem dX3_backout_39 : decode cX3_backout 39 = .ok (.iload_n 1, 1) := by decide +kernel
theorem dX3_backout_40 : decode cX3_backout 40 = .ok (.invokevirtual 134, 3) := by decide +kernel
theorem dX3_backout_43 : decode cX3_backout 43 = .ok (.istore_n 3, 1) := by decide +kernel
theorem dX3_backout_44 : decode cX3_backout 44 = .ok (.aload_n 0, 1) := by decide +kernel
theorem dX3_backout_45 : decode cX3_backout 45 = .ok (.getfield 16, 3) := by decide +kernel
theorem dX3_backout_48 : decode cX3_backout 48 = .ok (.iload_n 3, 1) := by decide +kernel
theorem dX3_backout_49 : decode cX3_backout 49 = .ok (.iconst 1, 1) := by decide +kernel
theorem dX3_backout_50 : decode cX3_backout 50 = .ok (.iadd, 1) := by decide +kernel
theorem dX3_backout_51 : decode cX3_backout 51 = .ok (.invokevirtual 64, 3) := by decide +kernel
theorem dX3_backout_54 : decode cX3_backout 54 = .ok (.ifCond .ne 5, 3) := by decide +kernel
theorem dX3_backout_57 : decode cX3_backout 57 = .ok (.iconst (-1), 1) := by decide +kernel
theorem dX3_backout_58 : decode cX3_backout 58 = .ok (.ireturn, 1) := by decide +kernel
theorem dX3_backout_59 : decode cX3_backout 59 = .ok (.aload_n 0, 1) := by decide +kernel
theorem dX3_backout_60 : decode cX3_backout 60 = .ok (.iload_n 1, 1) := by decide +kernel
theorem dX3_backout_61 : decode cX3_backout 61 = .ok (.invokevirtual 137, 3) := by decide +kernel
theorem dX3_backout_64 : decode cX3_backout 64 = .ok (.iload_n 3, 1) := by decide +kernel
theorem dX3_backout_65 : decode cX3_backout 65 = .ok (.ireturn, 1) := by decide +kernel
set_option maxRecDepth 20000 in
theorem ggX3_torn_X1_has : GoodIn wsX3_torn wsX1_has := goodIn_r _ [6, 7, 25, 26, 27, 28, 29, 30, 31, 32, 33] (by decide +kernel) (by decide +kernel)
set_option maxRecDepth 20000 in
theorem gX3_torn_X1_has : GoodIn wsX3_torn (wsV RX3 140 RX1 yX1_has wsX1_has) := goodIn_app (goodIn_of _ (by decide +kernel)) ggX3_torn_X1_has
set_option maxRecDepth 20000 in
theorem ggX3_torn_X1_archived : GoodIn wsX3_torn wsX1_archived := goodIn_r _ [11, 12, 25, 26, 27, 28, 29, 30, 31, 32, 33] (by decide +kernel) (by decide +kernel)
set_option maxRecDepth 20000 in
theorem gX3_torn_X1_archived : GoodIn wsX3_torn (wsV RX3 143 RX1 yX1_archived wsX1_archived) := goodIn_app (goodIn_of _ (by decide +kernel)) ggX3_torn_X1_archived
set_option maxRecDepth 20000 in
theorem ggX3_torn_X1_tear : GoodIn wsX3_torn wsX1_tear := goodIn_ca (goodIn_r _ [16, 17, 18, 3, 4, 5, 6, 7, 25, 26, 27, 28, 29, 30, 31, 32, 33] (by decide +kernel) (by decide +kernel)) (goodIn_sub (fun _ h => List.mem_cons_of_mem _ (List.mem_append_right _ h)) (by decide +kernel))
set_option maxRecDepth 20000 in
theorem gX3_torn_X1_tear : GoodIn wsX3_torn (wsV RX3 146 RX1 yX1_tear wsX1_tear) := goodIn_app (goodIn_of _ (by decide +kernel)) ggX3_torn_X1_tear
theorem dX3_torn_0 : decode cX3_torn 0 = .ok (.iload_n 1, 1) := by decide +kernel
theorem dX3_torn_1 : decode cX3_torn 1 = .ok (.ifCond .lt 19, 3) := by decide +kernel
theorem dX3_torn_4 : decode cX3_torn 4 = .ok (.iload_n 1, 1) := by decide +kernel
theorem dX3_torn_5 : decode cX3_torn 5 = .ok (.iconst 1, 1) := by decide +kernel
theorem dX3_torn_6 : decode cX3_torn 6 = .ok (.if_icmp .gt 14, 3) := by decide +kernel
theorem dX3_torn_9 : decode cX3_torn 9 = .ok (.aload_n 0, 1) := by decide +kernel
theorem dX3_torn_10 : decode cX3_torn 10 = .ok (.getfield 16, 3) := by decide +kernel
theorem dX3_torn_13 : decode cX3_torn 13 = .ok (.iload_n 2, 1) := by decide +kernel
theorem dX3_torn_14 : decode cX3_torn 14 = .ok (.invokevirtual 140, 3) := by decide +kernel
theorem dX3_torn_17 : decode cX3_torn 17 = .ok (.ifCond .ne 6, 3) := by decide +kernel
theorem dX3_torn_20 : decode cX3_torn 20 = .ok (.bipush (-2), 2) := by decide +kernel
theorem dX3_torn_22 : decode cX3_torn 22 = .ok (.ireturn, 1) := by decide +kernel
theorem dX3_torn_23 : decode cX3_torn 23 = .ok (.iload_n 2, 1) := by decide +kernel
theorem dX3_torn_24 : decode cX3_torn 24 = .ok (.aload_n 0, 1) := by decide +kernel
theorem dX3_torn_25 : decode cX3_torn 25 = .ok (.getfield 16, 3) := by decide +kernel
theorem dX3_torn_28 : decode cX3_torn 28 = .ok (.invokevirtual 143, 3) := by decide +kernel
theorem dX3_torn_31 : decode cX3_torn 31 = .ok (.if_icmp .gt 6, 3) := by decide +kernel
theorem dX3_torn_34 : decode cX3_torn 34 = .ok (.bipush (-5), 2) := by decide +kernel
theorem dX3_torn_36 : decode cX3_torn 36 = .ok (.ireturn, 1) := by decide +kernel
theorem dX3_torn_37 : decode cX3_torn 37 = .ok (.aload_n 0, 1) := by decide +kernel
theorem dX3_torn_38 : decode cX3_torn 38 = .ok (.getfield 16, 3) := by decide +kernel
theorem dX3_torn_41 : decode cX3_torn 41 = .ok (.iload_n 1, 1) := by decide +kernel
theorem dX3_torn_42 : decode cX3_torn 42 = .ok (.iload_n 2, 1) := by decide +kernel
theorem dX3_torn_43 : decode cX3_torn 43 = .ok (.invokevirtual 146, 3) := by decide +kernel
theorem dX3_torn_46 : decode cX3_torn 46 = .ok (.ifCond .eq 7, 3) := by decide +kernel
theorem dX3_torn_49 : decode cX3_torn 49 = .ok (.iconst 1, 1) := by decide +kernel
theorem dX3_torn_50 : decode cX3_torn 50 = .ok (.goto 4, 3) := by decide +kernel
theorem dX3_torn_53 : decode cX3_torn 53 = .ok (.iconst 0, 1) := by decide +kernel
theorem dX3_torn_54 : decode cX3_torn 54 = .ok (.ireturn, 1) := by decide +kernel
set_option maxRecDepth 20000 in
theorem ggX3_archive_X1_latest : GoodIn wsX3_archive wsX1_latest := goodIn_r _ [6, 7, 27, 28, 29, 30, 31, 32, 33, 34, 35] (by decide +kernel) (by decide +kernel)
set_option maxRecDepth 20000 in
theorem gX3_archive_X1_latest : GoodIn wsX3_archive (wsV RX3 78 RX1 yX1_latest wsX1_latest) := goodIn_app (goodIn_of _ (by decide +kernel)) ggX3_archive_X1_latest
set_option maxRecDepth 20000 in
theorem ggX3_archive_X1_putAway : GoodIn wsX3_archive wsX1_putAway := goodIn_r _ [11, 12, 13, 14, 15, 16, 27, 28, 29, 30, 31, 32, 33, 34, 35] (by decide +kernel) (by decide +kernel)
set_option maxRecDepth 20000 in
theorem gX3_archive_X1_putAway : GoodIn wsX3_archive (wsV RX3 149 RX1 yX1_putAway wsX1_putAway) := goodIn_app (goodIn_of _ (by decide +kernel)) ggX3_archive_X1_putAway
set_option maxRecDepth 20000 in
theorem ggX3_archive_X1_archived : GoodIn wsX3_archive wsX1_archived := goodIn_r _ [20, 12, 27, 28, 29, 30, 31, 32, 33, 34, 35] (by decide +kernel) (by decide +kernel)
set_option maxRecDepth 20000 in
theorem gX3_archive_X1_archived : GoodIn wsX3_archive (wsV RX3 143 RX1 yX1_archived wsX1_archived) := goodIn_app (goodIn_of _ (by decide +kernel)) ggX3_archive_X1_archived
theorem dX3_archive_0 : decode cX3_archive 0 = .ok (.iload_n 1, 1) := by decide +kernel
theorem dX3_archive_1 : decode cX3_archive 1 = .ok (.ifCond .lt 14, 3) := by decide +kernel
theorem dX3_archive_4 : decode cX3_archive 4 = .ok (.iload_n 1, 1) := by decide +kernel
theorem dX3_archive_5 : decode cX3_archive 5 = .ok (.aload_n 0, 1) := by decide +kernel
theorem dX3_archive_6 : decode cX3_archive 6 = .ok (.getfield 16, 3) := by decide +kernel
theorem dX3_archive_9 : decode cX3_archive 9 = .ok (.invokevirtual 78, 3) := by decide +kernel
theorem dX3_archive_12 : decode cX3_archive 12 = .ok (.if_icmp .le 6, 3) := by decide +kernel
theorem dX3_archive_15 : decode cX3_archive 15 = .ok (.bipush (-4), 2) := by decide +kernel
theorem dX3_archive_17 : decode cX3_archive 17 = .ok (.ireturn, 1) := by decide +kernel
theorem dX3_archive_18 : decode cX3_archive 18 = .ok (.aload_n 0, 1) := by decide +kernel
theorem dX3_archive_19 : decode cX3_archive 19 = .ok (.getfield 16, 3) := by decide +kernel
theorem dX3_archive_22 : decode cX3_archive 22 = .ok (.iload_n 1, 1) := by decide +kernel
theorem dX3_archive_23 : decode cX3_archive 23 = .ok (.invokevirtual 149, 3) := by decide +kernel
theorem dX3_archive_26 : decode cX3_archive 26 = .ok (.aload_n 0, 1) := by decide +kernel
theorem dX3_archive_27 : decode cX3_archive 27 = .ok (.getfield 16, 3) := by decide +kernel
theorem dX3_archive_30 : decode cX3_archive 30 = .ok (.invokevirtual 143, 3) := by decide +kernel
theorem dX3_archive_33 : decode cX3_archive 33 = .ok (.ireturn, 1) := by decide +kernel
set_option maxRecDepth 20000 in
theorem ggX3_gap_X1_latest : GoodIn wsX3_gap wsX1_latest := goodIn_r _ [6, 7, 23, 24, 25, 26, 27, 28, 29, 30, 31] (by decide +kernel) (by decide +kernel)
set_option maxRecDepth 20000 in
theorem gX3_gap_X1_latest : GoodIn wsX3_gap (wsV RX3 78 RX1 yX1_latest wsX1_latest) := goodIn_app (goodIn_of _ (by decide +kernel)) ggX3_gap_X1_latest
set_option maxRecDepth 20000 in
theorem ggX3_gap_X1_isMissing : GoodIn wsX3_gap wsX1_isMissing := goodIn_ca (goodIn_r _ [11, 12, 13, 14, 15, 5, 16, 7, 23, 24, 25, 26, 27, 28, 29, 30, 31] (by decide +kernel) (by decide +kernel)) (goodIn_sub (fun _ h => List.mem_cons_of_mem _ (List.mem_append_right _ h)) (by decide +kernel))
set_option maxRecDepth 20000 in
theorem gX3_gap_X1_isMissing : GoodIn wsX3_gap (wsV RX3 152 RX1 yX1_isMissing wsX1_isMissing) := goodIn_app (goodIn_of _ (by decide +kernel)) ggX3_gap_X1_isMissing
theorem dX3_gap_0 : decode cX3_gap 0 = .ok (.iload_n 1, 1) := by decide +kernel
theorem dX3_gap_1 : decode cX3_gap 1 = .ok (.istore_n 2, 1) := by decide +kernel
theorem dX3_gap_2 : decode cX3_gap 2 = .ok (.iconst 1, 1) := by decide +kernel
theorem dX3_gap_3 : decode cX3_gap 3 = .ok (.istore_n 3, 1) := by decide +kernel
theorem dX3_gap_4 : decode cX3_gap 4 = .ok (.iload_n 3, 1) := by decide +kernel
theorem dX3_gap_5 : decode cX3_gap 5 = .ok (.aload_n 0, 1) := by decide +kernel
theorem dX3_gap_6 : decode cX3_gap 6 = .ok (.getfield 16, 3) := by decide +kernel
theorem dX3_gap_9 : decode cX3_gap 9 = .ok (.invokevirtual 78, 3) := by decide +kernel
theorem dX3_gap_12 : decode cX3_gap 12 = .ok (.if_icmp .gt 29, 3) := by decide +kernel
theorem dX3_gap_15 : decode cX3_gap 15 = .ok (.aload_n 0, 1) := by decide +kernel
theorem dX3_gap_16 : decode cX3_gap 16 = .ok (.getfield 16, 3) := by decide +kernel
theorem dX3_gap_19 : decode cX3_gap 19 = .ok (.iload_n 3, 1) := by decide +kernel
theorem dX3_gap_20 : decode cX3_gap 20 = .ok (.invokevirtual 152, 3) := by decide +kernel
theorem dX3_gap_23 : decode cX3_gap 23 = .ok (.ifCond .eq 12, 3) := by decide +kernel
theorem dX3_gap_26 : decode cX3_gap 26 = .ok (.iload_n 2, 1) := by decide +kernel
theorem dX3_gap_27 : decode cX3_gap 27 = .ok (.ifCond .ne 5, 3) := by decide +kernel
theorem dX3_gap_30 : decode cX3_gap 30 = .ok (.iload_n 3, 1) := by decide +kernel
theorem dX3_gap_31 : decode cX3_gap 31 = .ok (.ireturn, 1) := by decide +kernel
theorem dX3_gap_32 : decode cX3_gap 32 = .ok (.iinc 2 (-1), 3) := by decide +kernel
theorem dX3_gap_35 : decode cX3_gap 35 = .ok (.iinc 3 1, 3) := by decide +kernel
theorem dX3_gap_38 : decode cX3_gap 38 = .ok (.goto (-34), 3) := by decide +kernel
theorem dX3_gap_41 : decode cX3_gap 41 = .ok (.iconst 0, 1) := by decide +kernel
theorem dX3_gap_42 : decode cX3_gap 42 = .ok (.ireturn, 1) := by decide +kernel
set_option maxRecDepth 20000 in
theorem ggX3_merge_X1_latest : GoodIn wsX3_merge wsX1_latest := goodIn_r _ [7, 8, 24, 25, 26, 27, 28, 29, 30, 31, 32] (by decide +kernel) (by decide +kernel)
set_option maxRecDepth 20000 in
theorem gX3_merge_X1_latest : GoodIn wsX3_merge (wsV RX3 78 RX1 yX1_latest wsX1_latest) := goodIn_app (goodIn_of _ (by decide +kernel)) ggX3_merge_X1_latest
set_option maxRecDepth 20000 in
theorem ggX3_merge_X1_unitOf : GoodIn wsX3_merge wsX1_unitOf := goodIn_ca (goodIn_r _ [12, 13, 14, 15, 16, 6, 17, 8, 24, 25, 26, 27, 28, 29, 30, 31, 32] (by decide +kernel) (by decide +kernel)) (goodIn_sub (fun _ h => List.mem_cons_of_mem _ (List.mem_append_right _ h)) (by decide +kernel))
set_option maxRecDepth 20000 in
theorem gX3_merge_X1_unitOf : GoodIn wsX3_merge (wsV RX3 155 RX1 yX1_unitOf wsX1_unitOf) := goodIn_app (goodIn_of _ (by decide +kernel)) ggX3_merge_X1_unitOf
theorem dX3_merge_0 : decode cX3_merge 0 = .ok (.iload_n 2, 1) := by decide +kernel
theorem dX3_merge_1 : decode cX3_merge 1 = .ok (.istore_n 3, 1) := by decide +kernel
theorem dX3_merge_2 : decode cX3_merge 2 = .ok (.iconst 1, 1) := by decide +kernel
theorem dX3_merge_3 : decode cX3_merge 3 = .ok (.istore 4, 2) := by decide +kernel
theorem dX3_merge_5 : decode cX3_merge 5 = .ok (.iload 4, 2) := by decide +kernel
theorem dX3_merge_7 : decode cX3_merge 7 = .ok (.aload_n 0, 1) := by decide +kernel
theorem dX3_merge_8 : decode cX3_merge 8 = .ok (.getfield 16, 3) := by decide +kernel
theorem dX3_merge_11 : decode cX3_merge 11 = .ok (.invokevirtual 78, 3) := by decide +kernel
theorem dX3_merge_14 : decode cX3_merge 14 = .ok (.if_icmp .gt 37, 3) := by decide +kernel
theorem dX3_merge_17 : decode cX3_merge 17 = .ok (.aload_n 0, 1) := by decide +kernel
theorem dX3_merge_18 : decode cX3_merge 18 = .ok (.getfield 16, 3) := by decide +kernel
theorem dX3_merge_21 : decode cX3_merge 21 = .ok (.iload 4, 2) := by decide +kernel
theorem dX3_merge_23 : decode cX3_merge 23 = .ok (.invokevirtual 155, 3) := by decide +kernel
theorem dX3_merge_26 : decode cX3_merge 26 = .ok (.aload_n 0, 1) := by decide +kernel
theorem dX3_merge_27 : decode cX3_merge 27 = .ok (.getfield 46, 3) := by decide +kernel
theorem dX3_merge_30 : decode cX3_merge 30 = .ok (.irem, 1) := by decide +kernel
theorem dX3_merge_31 : decode cX3_merge 31 = .ok (.iload_n 1, 1) := by decide +kernel
theorem dX3_merge_32 : decode cX3_merge 32 = .ok (.if_icmp .ne 13, 3) := by decide +kernel
theorem dX3_merge_35 : decode cX3_merge 35 = .ok (.iload_n 3, 1) := by decide +kernel
theorem dX3_merge_36 : decode cX3_merge 36 = .ok (.ifCond .ne 6, 3) := by decide +kernel
theorem dX3_merge_39 : decode cX3_merge 39 = .ok (.iload 4, 2) := by decide +kernel
theorem dX3_merge_41 : decode cX3_merge 41 = .ok (.ireturn, 1) := by decide +kernel
theorem dX3_merge_42 : decode cX3_merge 42 = .ok (.iinc 3 (-1), 3) := by decide +kernel
theorem dX3_merge_45 : decode cX3_merge 45 = .ok (.iinc 4 1, 3) := by decide +kernel
theorem dX3_merge_48 : decode cX3_merge 48 = .ok (.goto (-43), 3) := by decide +kernel
theorem dX3_merge_51 : decode cX3_merge 51 = .ok (.iconst 0, 1) := by decide +kernel
theorem dX3_merge_52 : decode cX3_merge 52 = .ok (.ireturn, 1) := by decide +kernel
set_option maxRecDepth 20000 in
theorem ggX3_at_X1_has : GoodIn wsX3_at wsX1_has := goodIn_r _ [9, 10, 35, 36, 37, 38, 39, 40, 41, 42, 43] (by decide +kernel) (by decide +kernel)
set_option maxRecDepth 20000 in
theorem gX3_at_X1_has : GoodIn wsX3_at (wsV RX3 140 RX1 yX1_has wsX1_has) := goodIn_app (goodIn_of _ (by decide +kernel)) ggX3_at_X1_has
set_option maxRecDepth 20000 in
theorem ggX3_at_X1_tell : GoodIn wsX3_at wsX1_tell := goodIn_ca (goodIn_r _ [14, 15, 16, 17, 18, 19, 20, 21, 22, 6, 7, 8, 9, 10, 35, 36, 37, 38, 39, 40, 41, 42, 43] (by decide +kernel) (by decide +kernel)) (goodIn_sub (fun _ h => List.mem_cons_of_mem _ (List.mem_append_right _ h)) (by decide +kernel))
set_option maxRecDepth 20000 in
theorem gX3_at_X1_tell : GoodIn wsX3_at (wsV RX3 163 RX1 yX1_tell wsX1_tell) := goodIn_app (goodIn_of _ (by decide +kernel)) ggX3_at_X1_tell
theorem dX3_at_0 : decode cX3_at 0 = .ok (.aload_n 0, 1) := by decide +kernel
theorem dX3_at_1 : decode cX3_at 1 = .ok (.getfield 16, 3) := by decide +kernel
theorem dX3_at_4 : decode cX3_at 4 = .ok (.iload_n 1, 1) := by decide +kernel
theorem dX3_at_5 : decode cX3_at 5 = .ok (.invokevirtual 140, 3) := by decide +kernel
theorem dX3_at_8 : decode cX3_at 8 = .ok (.ifCond .eq 13, 3) := by decide +kernel
theorem dX3_at_11 : decode cX3_at 11 = .ok (.iload_n 2, 1) := by decide +kernel
theorem dX3_at_12 : decode cX3_at 12 = .ok (.ifCond .lt 9, 3) := by decide +kernel
theorem dX3_at_15 : decode cX3_at 15 = .ok (.iload_n 2, 1) := by decide +kernel
theorem dX3_at_16 : decode cX3_at 16 = .ok (.bipush 6, 2) := by decide +kernel
theorem dX3_at_18 : decode cX3_at 18 = .ok (.if_icmp .le 13, 3) := by decide +kernel
theorem dX3_at_21 : decode cX3_at 21 = .ok (.new 158, 3) := by decide +kernel
theorem dX3_at_24 : decode cX3_at 24 = .ok (.dup, 1) := by decide +kernel
theorem dX3_at_25 : decode cX3_at 25 = .ok (.ldc 160, 2) := by decide +kernel
theorem dX3_at_27 : decode cX3_at 27 = .ok (.invokespecial 162, 3) := by decide +kernel
theorem dX3_at_30 : decode cX3_at 30 = .ok (.athrow, 1) := by decide +kernel
theorem dX3_at_31 : decode cX3_at 31 = .ok (.aload_n 0, 1) := by decide +kernel
theorem dX3_at_32 : decode cX3_at 32 = .ok (.getfield 16, 3) := by decide +kernel
theorem dX3_at_35 : decode cX3_at 35 = .ok (.iload_n 1, 1) := by decide +kernel
theorem dX3_at_36 : decode cX3_at 36 = .ok (.iload_n 2, 1) := by decide +kernel
theorem dX3_at_37 : decode cX3_at 37 = .ok (.invokevirtual 163, 3) := by decide +kernel
theorem dX3_at_40 : decode cX3_at 40 = .ok (.ireturn, 1) := by decide +kernel
set_option maxRecDepth 20000 in
theorem ggX3_warm_X2_howManyOpen : GoodIn wsX3_warm wsX2_howManyOpen := goodIn_ca (goodIn_r _ [6, 7, 8, 9, 5, 10, 11, 18, 19] (by decide +kernel) (by decide +kernel)) (goodIn_sub (fun _ h => List.mem_cons_of_mem _ (List.mem_append_right _ h)) (by decide +kernel))
set_option maxRecDepth 20000 in
theorem gX3_warm_X2_howManyOpen : GoodIn wsX3_warm (wsV RX3 166 RX2 yX2_howManyOpen wsX2_howManyOpen) := goodIn_app (goodIn_of _ (by decide +kernel)) ggX3_warm_X2_howManyOpen
theorem dX3_warm_0 : decode cX3_warm 0 = .ok (.aload_n 0, 1) := by decide +kernel
theorem dX3_warm_1 : decode cX3_warm 1 = .ok (.getfield 23, 3) := by decide +kernel
theorem dX3_warm_4 : decode cX3_warm 4 = .ok (.invokevirtual 166, 3) := by decide +kernel
theorem dX3_warm_7 : decode cX3_warm 7 = .ok (.ireturn, 1) := by decide +kernel
set_option maxRecDepth 20000 in
theorem ggX3_ahead_X3_gap : GoodIn wsX3_ahead wsX3_gap := goodIn_ca (goodIn_r _ [5, 6, 7, 8, 9, 10, 11, 12, 13, 14, 15, 16, 17, 18, 19, 20, 21, 22, 23, 24, 25, 26, 27, 28, 29, 30, 31, 32, 33, 34, 35, 36] (by decide +kernel) (by decide +kernel)) (goodIn_sub (fun _ h => List.mem_cons_of_mem _ (List.mem_append_right _ h)) (by decide +kernel))
set_option maxRecDepth 20000 in
theorem gX3_ahead_X3_gap : GoodIn wsX3_ahead (wsV RX3 169 RX3 yX3_gap wsX3_gap) := goodIn_app (goodIn_of _ (by decide +kernel)) ggX3_ahead_X3_gap
theorem dX3_ahead_0 : decode cX3_ahead 0 = .ok (.aload_n 0, 1) := by decide +kernel
theorem dX3_ahead_1 : decode cX3_ahead 1 = .ok (.iconst 0, 1) := by decide +kernel
theorem dX3_ahead_2 : decode cX3_ahead 2 = .ok (.invokevirtual 169, 3) := by decide +kernel
theorem dX3_ahead_5 : decode cX3_ahead 5 = .ok (.ifCond .ne 7, 3) := by decide +kernel
theorem dX3_ahead_8 : decode cX3_ahead 8 = .ok (.iconst 1, 1) := by decide +kernel
theorem dX3_ahead_9 : decode cX3_ahead 9 = .ok (.goto 4, 3) := by decide +kernel
theorem dX3_ahead_12 : decode cX3_ahead 12 = .ok (.iconst 0, 1) := by decide +kernel
theorem dX3_ahead_13 : decode cX3_ahead 13 = .ok (.ireturn, 1) := by decide +kernel
set_option maxRecDepth 20000 in
theorem ggX3_count_X1_latest : GoodIn wsX3_count wsX1_latest := goodIn_r _ [8, 9, 33, 34, 35, 36, 37, 38, 39, 40, 41] (by decide +kernel) (by decide +kernel)
set_option maxRecDepth 20000 in
theorem gX3_count_X1_latest : GoodIn wsX3_count (wsV RX3 78 RX1 yX1_latest wsX1_latest) := goodIn_app (goodIn_of _ (by decide +kernel)) ggX3_count_X1_latest
set_option maxRecDepth 20000 in
theorem ggX3_count_X0_howMany : GoodIn wsX3_count wsX0_howMany := goodIn_r _ [14, 15, 42, 43, 44, 45, 46, 47] (by decide +kernel) (by decide +kernel)
set_option maxRecDepth 20000 in
theorem gX3_count_X0_howMany : GoodIn wsX3_count (wsV RX3 172 RX0 yX0_howMany wsX0_howMany) := goodIn_app (goodIn_of _ (by decide +kernel)) ggX3_count_X0_howMany
set_option maxRecDepth 20000 in
theorem ggX3_count_X1_archived : GoodIn wsX3_count wsX1_archived := goodIn_r _ [19, 20, 33, 34, 35, 36, 37, 38, 39, 40, 41] (by decide +kernel) (by decide +kernel)
set_option maxRecDepth 20000 in
theorem gX3_count_X1_archived : GoodIn wsX3_count (wsV RX3 143 RX1 yX1_archived wsX1_archived) := goodIn_app (goodIn_of _ (by decide +kernel)) ggX3_count_X1_archived
set_option maxRecDepth 20000 in
theorem ggX3_count_X2_howManyEndedBy : GoodIn wsX3_count wsX2_howManyEndedBy := goodIn_ca (goodIn_r _ [25, 26, 48, 49] (by decide +kernel) (by decide +kernel)) (goodIn_sub (fun _ h => List.mem_cons_of_mem _ (List.mem_append_right _ h)) (by decide +kernel))
set_option maxRecDepth 20000 in
theorem gX3_count_X2_howManyEndedBy : GoodIn wsX3_count (wsV RX3 121 RX2 yX2_howManyEndedBy wsX2_howManyEndedBy) := goodIn_app (goodIn_of _ (by decide +kernel)) ggX3_count_X2_howManyEndedBy
theorem dX3_count_0 : decode cX3_count 0 = .ok (.iload_n 1, 1) := by decide +kernel
theorem dX3_count_1 : decode cX3_count 1 = .ok (.tableswitch 64 0 3 #[31, 39, 47, 55], 31) := by decide +kernel
theorem dX3_count_32 : decode cX3_count 32 = .ok (.aload_n 0, 1) := by decide +kernel
theorem dX3_count_33 : decode cX3_count 33 = .ok (.getfield 16, 3) := by decide +kernel
theorem dX3_count_36 : decode cX3_count 36 = .ok (.invokevirtual 78, 3) := by decide +kernel
theorem dX3_count_39 : decode cX3_count 39 = .ok (.ireturn, 1) := by decide +kernel
theorem dX3_count_40 : decode cX3_count 40 = .ok (.aload_n 0, 1) := by decide +kernel
theorem dX3_count_41 : decode cX3_count 41 = .ok (.getfield 33, 3) := by decide +kernel
theorem dX3_count_44 : decode cX3_count 44 = .ok (.invokevirtual 172, 3) := by decide +kernel
theorem dX3_count_47 : decode cX3_count 47 = .ok (.ireturn, 1) := by decide +kernel
theorem dX3_count_48 : decode cX3_count 48 = .ok (.aload_n 0, 1) := by decide +kernel
theorem dX3_count_49 : decode cX3_count 49 = .ok (.getfield 16, 3) := by decide +kernel
theorem dX3_count_52 : decode cX3_count 52 = .ok (.invokevirtual 143, 3) := by decide +kernel
theorem dX3_count_55 : decode cX3_count 55 = .ok (.ireturn, 1) := by decide +kernel
theorem dX3_count_56 : decode cX3_count 56 = .ok (.aload_n 0, 1) := by decide +kernel
theorem dX3_count_57 : decode cX3_count 57 = .ok (.getfield 23, 3) := by decide +kernel
theorem dX3_count_60 : decode cX3_count 60 = .ok (.iconst 1, 1) := by decide +kernel
theorem dX3_count_61 : decode cX3_count 61 = .ok (.invokevirtual 121, 3) := by decide +kernel
theorem dX3_count_64 : decode cX3_count 64 = .ok (.ireturn, 1) := by decide +kernel
theorem dX3_count_65 : decode cX3_count 65 = .ok (.iconst (-1), 1) := by decide +kernel
theorem dX3_count_66 : decode cX3_count 66 = .ok (.ireturn, 1) := by decide +kernel
theorem dX3_isUnit_0 : decode cX3_isUnit 0 = .ok (.iload_n 0, 1) := by decide +kernel
theorem dX3_isUnit_1 : decode cX3_isUnit 1 = .ok (.iconst 1, 1) := by decide +kernel
theorem dX3_isUnit_2 : decode cX3_isUnit 2 = .ok (.if_icmp .lt 13, 3) := by decide +kernel
theorem dX3_isUnit_5 : decode cX3_isUnit 5 = .ok (.iload_n 0, 1) := by decide +kernel
theorem dX3_isUnit_6 : decode cX3_isUnit 6 = .ok (.bipush 60, 2) := by decide +kernel
theorem dX3_isUnit_8 : decode cX3_isUnit 8 = .ok (.if_icmp .gt 7, 3) := by decide +kernel
theorem dX3_isUnit_11 : decode cX3_isUnit 11 = .ok (.iconst 1, 1) := by decide +kernel
theorem dX3_isUnit_12 : decode cX3_isUnit 12 = .ok (.goto 4, 3) := by decide +kernel
theorem dX3_isUnit_15 : decode cX3_isUnit 15 = .ok (.iconst 0, 1) := by decide +kernel
theorem dX3_isUnit_16 : decode cX3_isUnit 16 = .ok (.ireturn, 1) := by decide +kernel
theorem dX3_isCell_0 : decode cX3_isCell 0 = .ok (.iload_n 0, 1) := by decide +kernel
theorem dX3_isCell_1 : decode cX3_isCell 1 = .ok (.ifCond .lt 13, 3) := by decide +kernel
theorem dX3_isCell_4 : decode cX3_isCell 4 = .ok (.iload_n 0, 1) := by decide +kernel
theorem dX3_isCell_5 : decode cX3_isCell 5 = .ok (.bipush 32, 2) := by decide +kernel
theorem dX3_isCell_7 : decode cX3_isCell 7 = .ok (.if_icmp .ge 7, 3) := by decide +kernel
theorem dX3_isCell_10 : decode cX3_isCell 10 = .ok (.iconst 1, 1) := by decide +kernel
theorem dX3_isCell_11 : decode cX3_isCell 11 = .ok (.goto 4, 3) := by decide +kernel
theorem dX3_isCell_14 : decode cX3_isCell 14 = .ok (.iconst 0, 1) := by decide +kernel
theorem dX3_isCell_15 : decode cX3_isCell 15 = .ok (.ireturn, 1) := by decide +kernel
set_option maxRecDepth 20000 in
theorem ggX3_writeChange_X1_write : GoodIn wsX3_writeChange wsX1_write := goodIn_ca (goodIn_r _ [9, 10, 11, 12, 13, 14, 15, 16, 17, 18, 19, 20, 8, 21, 63, 64, 65, 66, 67, 68, 69, 70, 71] (by decide +kernel) (by decide +kernel)) (goodIn_sub (fun _ h => List.mem_cons_of_mem _ (List.mem_append_right _ h)) (by decide +kernel))
set_option maxRecDepth 20000 in
theorem gX3_writeChange_X1_write : GoodIn wsX3_writeChange (wsV RX3 175 RX1 yX1_write wsX1_write) := goodIn_app (goodIn_of _ (by decide +kernel)) ggX3_writeChange_X1_write
set_option maxRecDepth 20000 in
theorem ggX3_writeChange_X2_follow : GoodIn wsX3_writeChange wsX2_follow := goodIn_ca (goodIn_r _ [26, 27, 28, 29, 30, 31, 32, 33, 72, 73] (by decide +kernel) (by decide +kernel)) (goodIn_sub (fun _ h => List.mem_cons_of_mem _ (List.mem_append_right _ h)) (by decide +kernel))
set_option maxRecDepth 20000 in
theorem gX3_writeChange_X2_follow : GoodIn wsX3_writeChange (wsV RX3 179 RX2 yX2_follow wsX2_follow) := goodIn_app (goodIn_of _ (by decide +kernel)) ggX3_writeChange_X2_follow
set_option maxRecDepth 20000 in
theorem ggX3_writeChange_X3_setCell : GoodIn wsX3_writeChange wsX3_setCell := goodIn_ca (goodIn_r _ [37, 4, 38, 32, 30, 33, 57, 58, 59, 60, 61, 62] (by decide +kernel) (by decide +kernel)) (goodIn_sub (fun _ h => List.mem_cons_of_mem _ (List.mem_append_right _ h)) (by decide +kernel))
set_option maxRecDepth 20000 in
theorem gX3_writeChange_X3_setCell : GoodIn wsX3_writeChange (wsV RX3 183 RX3 yX3_setCell wsX3_setCell) := goodIn_app (goodIn_of _ (by decide +kernel)) ggX3_writeChange_X3_setCell
set_option maxRecDepth 20000 in
theorem ggX3_writeChange_X0_finishBehindFifth : GoodIn wsX3_writeChange wsX0_finishBehindFifth := goodIn_ca (goodIn_r _ [43, 44, 45, 46, 47, 48, 42, 49, 50, 51, 52, 53, 54, 55, 56, 74, 75, 76, 77, 78, 79] (by decide +kernel) (by decide +kernel)) (goodIn_sub (fun _ h => List.mem_cons_of_mem _ (List.mem_append_right _ h)) (by decide +kernel))
set_option maxRecDepth 20000 in
theorem gX3_writeChange_X0_finishBehindFifth : GoodIn wsX3_writeChange (wsV RX3 187 RX0 yX0_finishBehindFifth wsX0_finishBehindFifth) := goodIn_app (goodIn_of _ (by decide +kernel)) ggX3_writeChange_X0_finishBehindFifth
theorem dX3_writeChange_0 : decode cX3_writeChange 0 = .ok (.aload_n 0, 1) := by decide +kernel
theorem dX3_writeChange_1 : decode cX3_writeChange 1 = .ok (.getfield 16, 3) := by decide +kernel
theorem dX3_writeChange_4 : decode cX3_writeChange 4 = .ok (.iconst 0, 1) := by decide +kernel
theorem dX3_writeChange_5 : decode cX3_writeChange 5 = .ok (.iload_n 1, 1) := by decide +kernel
theorem dX3_writeChange_6 : decode cX3_writeChange 6 = .ok (.iload_n 2, 1) := by decide +kernel
theorem dX3_writeChange_7 : decode cX3_writeChange 7 = .ok (.lload_n 3, 1) := by decide +kernel
theorem dX3_writeChange_8 : decode cX3_writeChange 8 = .ok (.lload 5, 2) := by decide +kernel
theorem dX3_writeChange_10 : decode cX3_writeChange 10 = .ok (.iload 7, 2) := by decide +kernel
theorem dX3_writeChange_12 : decode cX3_writeChange 12 = .ok (.invokevirtual 175, 3) := by decide +kernel
theorem dX3_writeChange_15 : decode cX3_writeChange 15 = .ok (.istore 8, 2) := by decide +kernel
theorem dX3_writeChange_17 : decode cX3_writeChange 17 = .ok (.aload_n 0, 1) := by decide +kernel
theorem dX3_writeChange_18 : decode cX3_writeChange 18 = .ok (.getfield 23, 3) := by decide +kernel
theorem dX3_writeChange_21 : decode cX3_writeChange 21 = .ok (.iconst 0, 1) := by decide +kernel
theorem dX3_writeChange_22 : decode cX3_writeChange 22 = .ok (.iload_n 1, 1) := by decide +kernel
theorem dX3_writeChange_23 : decode cX3_writeChange 23 = .ok (.iload_n 2, 1) := by decide +kernel
theorem dX3_writeChange_24 : decode cX3_writeChange 24 = .ok (.invokevirtual 179, 3) := by decide +kernel
theorem dX3_writeChange_27 : decode cX3_writeChange 27 = .ok (.aload_n 0, 1) := by decide +kernel
theorem dX3_writeChange_28 : decode cX3_writeChange 28 = .ok (.iload_n 2, 1) := by decide +kernel
theorem dX3_writeChange_29 : decode cX3_writeChange 29 = .ok (.lload 5, 2) := by decide +kernel
theorem dX3_writeChange_31 : decode cX3_writeChange 31 = .ok (.invokevirtual 183, 3) := by decide +kernel
theorem dX3_writeChange_34 : decode cX3_writeChange 34 = .ok (.aload_n 0, 1) := by decide +kernel
theorem dX3_writeChange_35 : decode cX3_writeChange 35 = .ok (.getfield 33, 3) := by decide +kernel
theorem dX3_writeChange_38 : decode cX3_writeChange 38 = .ok (.iload 8, 2) := by decide +kernel
theorem dX3_writeChange_40 : decode cX3_writeChange 40 = .ok (.aload_n 0, 1) := by decide +kernel
theorem dX3_writeChange_41 : decode cX3_writeChange 41 = .ok (.getfield 9, 3) := by decide +kernel
theorem dX3_writeChange_44 : decode cX3_writeChange 44 = .ok (.invokevirtual 187, 3) := by decide +kernel
theorem dX3_writeChange_47 : decode cX3_writeChange 47 = .ok (.iload 8, 2) := by decide +kernel
theorem dX3_writeChange_49 : decode cX3_writeChange 49 = .ok (.ireturn, 1) := by decide +kernel
set_option maxRecDepth 20000 in
theorem ggX3_writeLastOf_X1_write : GoodIn wsX3_writeLastOf wsX1_write := goodIn_ca (goodIn_r _ [9, 10, 11, 12, 13, 14, 15, 16, 17, 18, 19, 20, 8, 21, 58, 59, 60, 61, 62, 63, 64, 65, 66] (by decide +kernel) (by decide +kernel)) (goodIn_sub (fun _ h => List.mem_cons_of_mem _ (List.mem_append_right _ h)) (by decide +kernel))
set_option maxRecDepth 20000 in
theorem gX3_writeLastOf_X1_write : GoodIn wsX3_writeLastOf (wsV RX3 175 RX1 yX1_write wsX1_write) := goodIn_app (goodIn_of _ (by decide +kernel)) ggX3_writeLastOf_X1_write
set_option maxRecDepth 20000 in
theorem ggX3_writeLastOf_X2_follow : GoodIn wsX3_writeLastOf wsX2_follow := goodIn_ca (goodIn_r _ [26, 27, 28, 29, 30, 31, 32, 33, 67, 68] (by decide +kernel) (by decide +kernel)) (goodIn_sub (fun _ h => List.mem_cons_of_mem _ (List.mem_append_right _ h)) (by decide +kernel))
set_option maxRecDepth 20000 in
theorem gX3_writeLastOf_X2_follow : GoodIn wsX3_writeLastOf (wsV RX3 179 RX2 yX2_follow wsX2_follow) := goodIn_app (goodIn_of _ (by decide +kernel)) ggX3_writeLastOf_X2_follow
set_option maxRecDepth 20000 in
theorem ggX3_writeLastOf_X0_finishBehindFifth : GoodIn wsX3_writeLastOf wsX0_finishBehindFifth := goodIn_ca (goodIn_r _ [38, 39, 40, 41, 42, 43, 37, 44, 45, 46, 47, 48, 49, 50, 51, 69, 70, 71, 72, 73, 74] (by decide +kernel) (by decide +kernel)) (goodIn_sub (fun _ h => List.mem_cons_of_mem _ (List.mem_append_right _ h)) (by decide +kernel))
set_option maxRecDepth 20000 in
theorem gX3_writeLastOf_X0_finishBehindFifth : GoodIn wsX3_writeLastOf (wsV RX3 187 RX0 yX0_finishBehindFifth wsX0_finishBehindFifth) := goodIn_app (goodIn_of _ (by decide +kernel)) ggX3_writeLastOf_X0_finishBehindFifth
theorem dX3_writeLastOf_0 : decode cX3_writeLastOf 0 = .ok (.aload_n 0, 1) := by decide +kernel
theorem dX3_writeLastOf_1 : decode cX3_writeLastOf 1 = .ok (.getfield 16, 3) := by decide +kernel
theorem dX3_writeLastOf_4 : decode cX3_writeLastOf 4 = .ok (.iload_n 2, 1) := by decide +kernel
theorem dX3_writeLastOf_5 : decode cX3_writeLastOf 5 = .ok (.iload_n 1, 1) := by decide +kernel
theorem dX3_writeLastOf_6 : decode cX3_writeLastOf 6 = .ok (.iconst (-1), 1) := by decide +kernel
theorem dX3_writeLastOf_7 : decode cX3_writeLastOf 7 = .ok (.lconst 0, 1) := by decide +kernel
theorem dX3_writeLastOf_8 : decode cX3_writeLastOf 8 = .ok (.lconst 0, 1) := by decide +kernel
theorem dX3_writeLastOf_9 : decode cX3_writeLastOf 9 = .ok (.iload_n 3, 1) := by decide +kernel
theorem dX3_writeLastOf_10 : decode cX3_writeLastOf 10 = .ok (.invokevirtual 175, 3) := by decide +kernel
theorem dX3_writeLastOf_13 : decode cX3_writeLastOf 13 = .ok (.istore 4, 2) := by decide +kernel
theorem dX3_writeLastOf_15 : decode cX3_writeLastOf 15 = .ok (.aload_n 0, 1) := by decide +kernel
theorem dX3_writeLastOf_16 : decode cX3_writeLastOf 16 = .ok (.getfield 23, 3) := by decide +kernel
theorem dX3_writeLastOf_19 : decode cX3_writeLastOf 19 = .ok (.iload_n 2, 1) := by decide +kernel
theorem dX3_writeLastOf_20 : decode cX3_writeLastOf 20 = .ok (.iload_n 1, 1) := by decide +kernel
theorem dX3_writeLastOf_21 : decode cX3_writeLastOf 21 = .ok (.iconst (-1), 1) := by decide +kernel
theorem dX3_writeLastOf_22 : decode cX3_writeLastOf 22 = .ok (.invokevirtual 179, 3) := by decide +kernel
theorem dX3_writeLastOf_25 : decode cX3_writeLastOf 25 = .ok (.aload_n 0, 1) := by decide +kernel
theorem dX3_writeLastOf_26 : decode cX3_writeLastOf 26 = .ok (.getfield 33, 3) := by decide +kernel
theorem dX3_writeLastOf_29 : decode cX3_writeLastOf 29 = .ok (.iload 4, 2) := by decide +kernel
theorem dX3_writeLastOf_31 : decode cX3_writeLastOf 31 = .ok (.aload_n 0, 1) := by decide +kernel
theorem dX3_writeLastOf_32 : decode cX3_writeLastOf 32 = .ok (.getfield 9, 3) := by decide +kernel
theorem dX3_writeLastOf_35 : decode cX3_writeLastOf 35 = .ok (.invokevirtual 187, 3) := by decide +kernel
theorem dX3_writeLastOf_38 : decode cX3_writeLastOf 38 = .ok (.iload 4, 2) := by decide +kernel
theorem dX3_writeLastOf_40 : decode cX3_writeLastOf 40 = .ok (.ireturn, 1) := by decide +kernel
set_option maxRecDepth 20000 in
theorem ggX3_setCell_X3_isCell : GoodIn wsX3_setCell wsX3_isCell := goodIn_r _ [5] (by decide +kernel) (by decide +kernel)
set_option maxRecDepth 20000 in
theorem gX3_setCell_X3_isCell : GoodIn wsX3_setCell (va_wsS RX3 54 yX3_isCell wsX3_isCell) := goodIn_app (goodIn_of _ (by decide +kernel)) ggX3_setCell_X3_isCell
theorem dX3_setCell_0 : decode cX3_setCell 0 = .ok (.iload_n 1, 1) := by decide +kernel
theorem dX3_setCell_1 : decode cX3_setCell 1 = .ok (.invokestatic 54, 3) := by decide +kernel
theorem dX3_setCell_4 : decode cX3_setCell 4 = .ok (.ifCond .eq 10, 3) := by decide +kernel
theorem dX3_setCell_7 : decode cX3_setCell 7 = .ok (.aload_n 0, 1) := by decide +kernel
theorem dX3_setCell_8 : decode cX3_setCell 8 = .ok (.getfield 9, 3) := by decide +kernel
theorem dX3_setCell_11 : decode cX3_setCell 11 = .ok (.iload_n 1, 1) := by decide +kernel
theorem dX3_setCell_12 : decode cX3_setCell 12 = .ok (.lload_n 2, 1) := by decide +kernel
theorem dX3_setCell_13 : decode cX3_setCell 13 = .ok (.lastore, 1) := by decide +kernel
theorem dX3_setCell_14 : decode cX3_setCell 14 = .ok (.return_, 1) := by decide +kernel
set_option maxRecDepth 20000 in
theorem ggX3_writeBackingOut_X1_latest : GoodIn wsX3_writeBackingOut wsX1_latest := goodIn_r _ [6, 7, 103, 104, 105, 106, 107, 108, 109, 110, 111] (by decide +kernel) (by decide +kernel)
set_option maxRecDepth 20000 in
theorem gX3_writeBackingOut_X1_latest : GoodIn wsX3_writeBackingOut (wsV RX3 78 RX1 yX1_latest wsX1_latest) := goodIn_app (goodIn_of _ (by decide +kernel)) ggX3_writeBackingOut_X1_latest
set_option maxRecDepth 20000 in
theorem ggX3_writeBackingOut_X1_isBackable : GoodIn wsX3_writeBackingOut wsX1_isBackable := goodIn_ca (goodIn_r _ [11, 12, 13, 14, 15, 5, 16, 17, 18, 19, 20, 21, 7, 103, 104, 105, 106, 107, 108, 109, 110, 111] (by decide +kernel) (by decide +kernel)) (goodIn_sub (fun _ h => List.mem_cons_of_mem _ (List.mem_append_right _ h)) (by decide +kernel))
set_option maxRecDepth 20000 in
theorem gX3_writeBackingOut_X1_isBackable : GoodIn wsX3_writeBackingOut (wsV RX3 190 RX1 yX1_isBackable wsX1_isBackable) := goodIn_app (goodIn_of _ (by decide +kernel)) ggX3_writeBackingOut_X1_isBackable
set_option maxRecDepth 20000 in
theorem ggX3_writeBackingOut_X1_unitOf : GoodIn wsX3_writeBackingOut wsX1_unitOf := goodIn_ca (goodIn_r _ [25, 26, 18, 19, 20, 5, 21, 7, 103, 104, 105, 106, 107, 108, 109, 110, 111] (by decide +kernel) (by decide +kernel)) (goodIn_sub (fun _ h => List.mem_cons_of_mem _ (List.mem_append_right _ h)) (by decide +kernel))
set_option maxRecDepth 20000 in
theorem gX3_writeBackingOut_X1_unitOf : GoodIn wsX3_writeBackingOut (wsV RX3 155 RX1 yX1_unitOf wsX1_unitOf) := goodIn_app (goodIn_of _ (by decide +kernel)) ggX3_writeBackingOut_X1_unitOf
set_option maxRecDepth 20000 in
theorem ggX3_writeBackingOut_X1_cellOf : GoodIn wsX3_writeBackingOut wsX1_cellOf := goodIn_ca (goodIn_r _ [30, 31, 18, 19, 20, 5, 21, 7, 103, 104, 105, 106, 107, 108, 109, 110, 111] (by decide +kernel) (by decide +kernel)) (goodIn_sub (fun _ h => List.mem_cons_of_mem _ (List.mem_append_right _ h)) (by decide +kernel))
set_option maxRecDepth 20000 in
theorem gX3_writeBackingOut_X1_cellOf : GoodIn wsX3_writeBackingOut (wsV RX3 193 RX1 yX1_cellOf wsX1_cellOf) := goodIn_app (goodIn_of _ (by decide +kernel)) ggX3_writeBackingOut_X1_cellOf
set_option maxRecDepth 20000 in
theorem ggX3_writeBackingOut_X1_afterOf : GoodIn wsX3_writeBackingOut wsX1_afterOf := goodIn_ca (goodIn_r _ [35, 36, 18, 19, 20, 5, 21, 7, 103, 104, 105, 106, 107, 108, 109, 110, 111] (by decide +kernel) (by decide +kernel)) (goodIn_sub (fun _ h => List.mem_cons_of_mem _ (List.mem_append_right _ h)) (by decide +kernel))
set_option maxRecDepth 20000 in
theorem gX3_writeBackingOut_X1_afterOf : GoodIn wsX3_writeBackingOut (wsV RX3 196 RX1 yX1_afterOf wsX1_afterOf) := goodIn_app (goodIn_of _ (by decide +kernel)) ggX3_writeBackingOut_X1_afterOf
set_option maxRecDepth 20000 in
theorem ggX3_writeBackingOut_X1_beforeOf : GoodIn wsX3_writeBackingOut wsX1_beforeOf := goodIn_ca (goodIn_r _ [40, 41, 18, 19, 20, 5, 21, 7, 103, 104, 105, 106, 107, 108, 109, 110, 111] (by decide +kernel) (by decide +kernel)) (goodIn_sub (fun _ h => List.mem_cons_of_mem _ (List.mem_append_right _ h)) (by decide +kernel))
set_option maxRecDepth 20000 in
theorem gX3_writeBackingOut_X1_beforeOf : GoodIn wsX3_writeBackingOut (wsV RX3 200 RX1 yX1_beforeOf wsX1_beforeOf) := goodIn_app (goodIn_of _ (by decide +kernel)) ggX3_writeBackingOut_X1_beforeOf
set_option maxRecDepth 20000 in
theorem ggX3_writeBackingOut_X3_writeChange : GoodIn wsX3_writeBackingOut wsX3_writeChange := goodIn_ca (goodIn_r _ [46, 1, 47, 48, 49, 50, 51, 52, 5, 53, 7, 17, 26, 31, 41, 36, 12, 54, 55, 56, 57, 58, 59, 60, 61, 62, 63, 64, 65, 66, 45, 67, 68, 69, 70, 71, 72, 73, 74, 75, 76, 77, 78, 79, 80, 81, 82, 83, 84, 85, 86, 87, 88, 89, 90, 91, 92, 97, 98, 99, 100, 101, 102, 103, 104, 105, 106, 107, 108, 109, 110, 111, 112, 113, 114, 115, 116, 117, 118, 119] (by decide +kernel) (by decide +kernel)) (goodIn_sub (fun _ h => List.mem_cons_of_mem _ (List.mem_append_right _ h)) (by decide +kernel))
set_option maxRecDepth 20000 in
theorem gX3_writeBackingOut_X3_writeChange : GoodIn wsX3_writeBackingOut (wsV RX3 67 RX3 yX3_writeChange wsX3_writeChange) := goodIn_app (goodIn_of _ (by decide +kernel)) ggX3_writeBackingOut_X3_writeChange
set_option maxRecDepth 20000 in
theorem ggX3_writeBackingOut_X3_writeLastOf : GoodIn wsX3_writeBackingOut wsX3_writeLastOf := goodIn_ca (goodIn_r _ [96, 1, 47, 48, 49, 50, 51, 52, 5, 53, 7, 17, 26, 31, 41, 36, 12, 54, 55, 56, 57, 58, 59, 60, 61, 62, 63, 64, 65, 66, 45, 67, 68, 69, 75, 76, 77, 78, 79, 80, 81, 82, 83, 84, 85, 86, 87, 88, 89, 90, 91, 92, 97, 98, 99, 100, 101, 102, 103, 104, 105, 106, 107, 108, 109, 110, 111, 112, 113, 114, 115, 116, 117, 118, 119] (by decide +kernel) (by decide +kernel)) (goodIn_sub (fun _ h => List.mem_cons_of_mem _ (List.mem_append_right _ h)) (by decide +kernel))
set_option maxRecDepth 20000 in
theorem gX3_writeBackingOut_X3_writeLastOf : GoodIn wsX3_writeBackingOut (wsV RX3 74 RX3 yX3_writeLastOf wsX3_writeLastOf) := goodIn_app (goodIn_of _ (by decide +kernel)) ggX3_writeBackingOut_X3_writeLastOf
theorem dX3_writeBackingOut_0 : decode cX3_writeBackingOut 0 = .ok (.aload_n 0, 1) := by decide +kernel
theorem dX3_writeBackingOut_1 : decode cX3_writeBackingOut 1 = .ok (.getfield 16, 3) := by decide +kernel
theorem dX3_writeBackingOut_4 : decode cX3_writeBackingOut 4 = .ok (.invokevirtual 78, 3) := by decide +kernel
theorem dX3_writeBackingOut_7 : decode cX3_writeBackingOut 7 = .ok (.istore_n 2, 1) := by decide +kernel
theorem dX3_writeBackingOut_8 : decode cX3_writeBackingOut 8 = .ok (.iload_n 2, 1) := by decide +kernel
theorem dX3_writeBackingOut_9 : decode cX3_writeBackingOut 9 = .ok (.iconst 1, 1) := by decide +kernel
theorem dX3_writeBackingOut_10 : decode cX3_writeBackingOut 10 = .ok (.if_icmp .lt 63, 3) := by decide +kernel
theorem dX3_writeBackingOut_13 : decode cX3_writeBackingOut 13 = .ok (.aload_n 0, 1) := by decide +kernel
theorem dX3_writeBackingOut_14 : decode cX3_writeBackingOut 14 = .ok (.getfield 16, 3) := by decide +kernel
theorem dX3_writeBackingOut_17 : decode cX3_writeBackingOut 17 = .ok (.iload_n 2, 1) := by decide +kernel
theorem dX3_writeBackingOut_18 : decode cX3_writeBackingOut 18 = .ok (.invokevirtual 190, 3) := by decide +kernel
theorem dX3_writeBackingOut_21 : decode cX3_writeBackingOut 21 = .ok (.ifCond .eq 46, 3) := by decide +kernel
theorem dX3_writeBackingOut_24 : decode cX3_writeBackingOut 24 = .ok (.aload_n 0, 1) := by decide +kernel
theorem dX3_writeBackingOut_25 : decode cX3_writeBackingOut 25 = .ok (.getfield 16, 3) := by decide +kernel
theorem dX3_writeBackingOut_28 : decode cX3_writeBackingOut 28 = .ok (.iload_n 2, 1) := by decide +kernel
theorem dX3_writeBackingOut_29 : decode cX3_writeBackingOut 29 = .ok (.invokevirtual 155, 3) := by decide +kernel
theorem dX3_writeBackingOut_32 : decode cX3_writeBackingOut 32 = .ok (.iload_n 1, 1) := by decide +kernel
theorem dX3_writeBackingOut_33 : decode cX3_writeBackingOut 33 = .ok (.if_icmp .ne 34, 3) := by decide +kernel
theorem dX3_writeBackingOut_36 : decode cX3_writeBackingOut 36 = .ok (.aload_n 0, 1) := by decide +kernel
theorem dX3_writeBackingOut_37 : decode cX3_writeBackingOut 37 = .ok (.iload_n 1, 1) := by decide +kernel
theorem dX3_writeBackingOut_38 : decode cX3_writeBackingOut 38 = .ok (.aload_n 0, 1) := by decide +kernel
theorem dX3_writeBackingOut_39 : decode cX3_writeBackingOut 39 = .ok (.getfield 16, 3) := by decide +kernel
theorem dX3_writeBackingOut_42 : decode cX3_writeBackingOut 42 = .ok (.iload_n 2, 1) := by decide +kernel
theorem dX3_writeBackingOut_43 : decode cX3_writeBackingOut 43 = .ok (.invokevirtual 193, 3) := by decide +kernel
theorem dX3_writeBackingOut_46 : decode cX3_writeBackingOut 46 = .ok (.aload_n 0, 1) := by decide +kernel
theorem dX3_writeBackingOut_47 : decode cX3_writeBackingOut 47 = .ok (.getfield 16, 3) := by decide +kernel
theorem dX3_writeBackingOut_50 : decode cX3_writeBackingOut 50 = .ok (.iload_n 2, 1) := by decide +kernel
theorem dX3_writeBackingOut_51 : decode cX3_writeBackingOut 51 = .ok (.invokevirtual 196, 3) := by decide +kernel
theorem dX3_writeBackingOut_54 : decode cX3_writeBackingOut 54 = .ok (.aload_n 0, 1) := by decide +kernel
theorem dX3_writeBackingOut_55 : decode cX3_writeBackingOut 55 = .ok (.getfield 16, 3) := by decide +kernel
theorem dX3_writeBackingOut_58 : decode cX3_writeBackingOut 58 = .ok (.iload_n 2, 1) := by decide +kernel
theorem dX3_writeBackingOut_59 : decode cX3_writeBackingOut 59 = .ok (.invokevirtual 200, 3) := by decide +kernel
theorem dX3_writeBackingOut_62 : decode cX3_writeBackingOut 62 = .ok (.iconst 1, 1) := by decide +kernel
theorem dX3_writeBackingOut_63 : decode cX3_writeBackingOut 63 = .ok (.invokevirtual 67, 3) := by decide +kernel
theorem dX3_writeBackingOut_66 : decode cX3_writeBackingOut 66 = .ok (.pop, 1) := by decide +kernel
theorem dX3_writeBackingOut_67 : decode cX3_writeBackingOut 67 = .ok (.iinc 2 (-1), 3) := by decide +kernel
theorem dX3_writeBackingOut_70 : decode cX3_writeBackingOut 70 = .ok (.goto (-62), 3) := by decide +kernel
theorem dX3_writeBackingOut_73 : decode cX3_writeBackingOut 73 = .ok (.aload_n 0, 1) := by decide +kernel
theorem dX3_writeBackingOut_74 : decode cX3_writeBackingOut 74 = .ok (.iload_n 1, 1) := by decide +kernel
theorem dX3_writeBackingOut_75 : decode cX3_writeBackingOut 75 = .ok (.iconst 2, 1) := by decide +kernel
theorem dX3_writeBackingOut_76 : decode cX3_writeBackingOut 76 = .ok (.iconst 1, 1) := by decide +kernel
theorem dX3_writeBackingOut_77 : decode cX3_writeBackingOut 77 = .ok (.invokevirtual 74, 3) := by decide +kernel
theorem dX3_writeBackingOut_80 : decode cX3_writeBackingOut 80 = .ok (.pop, 1) := by decide +kernel
theorem dX3_writeBackingOut_81 : decode cX3_writeBackingOut 81 = .ok (.return_, 1) := by decide +kernel
set_option maxRecDepth 20000 in
theorem ggX3_changesOf_X1_latest : GoodIn wsX3_changesOf wsX1_latest := goodIn_r _ [6, 7, 33, 34, 35, 36, 37, 38, 39, 40, 41] (by decide +kernel) (by decide +kernel)
set_option maxRecDepth 20000 in
theorem gX3_changesOf_X1_latest : GoodIn wsX3_changesOf (wsV RX3 78 RX1 yX1_latest wsX1_latest) := goodIn_app (goodIn_of _ (by decide +kernel)) ggX3_changesOf_X1_latest
set_option maxRecDepth 20000 in
theorem ggX3_changesOf_X1_isBackable : GoodIn wsX3_changesOf wsX1_isBackable := goodIn_ca (goodIn_r _ [11, 12, 13, 14, 15, 5, 16, 17, 18, 19, 20, 21, 7, 33, 34, 35, 36, 37, 38, 39, 40, 41] (by decide +kernel) (by decide +kernel)) (goodIn_sub (fun _ h => List.mem_cons_of_mem _ (List.mem_append_right _ h)) (by decide +kernel))
set_option maxRecDepth 20000 in
theorem gX3_changesOf_X1_isBackable : GoodIn wsX3_changesOf (wsV RX3 190 RX1 yX1_isBackable wsX1_isBackable) := goodIn_app (goodIn_of _ (by decide +kernel)) ggX3_changesOf_X1_isBackable
set_option maxRecDepth 20000 in
theorem ggX3_changesOf_X1_unitOf : GoodIn wsX3_changesOf wsX1_unitOf := goodIn_ca (goodIn_r _ [25, 26, 18, 19, 20, 5, 21, 7, 33, 34, 35, 36, 37, 38, 39, 40, 41] (by decide +kernel) (by decide +kernel)) (goodIn_sub (fun _ h => List.mem_cons_of_mem _ (List.mem_append_right _ h)) (by decide +kernel))
set_option maxRecDepth 20000 in
theorem gX3_changesOf_X1_unitOf : GoodIn wsX3_changesOf (wsV RX3 155 RX1 yX1_unitOf wsX1_unitOf) := goodIn_app (goodIn_of _ (by decide +kernel)) ggX3_changesOf_X1_unitOf
theorem dX3_changesOf_0 : decode cX3_changesOf 0 = .ok (.iconst 0, 1) := by decide +kernel
theorem dX3_changesOf_1 : decode cX3_changesOf 1 = .ok (.istore_n 2, 1) := by decide +kernel
theorem dX3_changesOf_2 : decode cX3_changesOf 2 = .ok (.iconst 1, 1) := by decide +kernel
theorem dX3_changesOf_3 : decode cX3_changesOf 3 = .ok (.istore_n 3, 1) := by decide +kernel
theorem dX3_changesOf_4 : decode cX3_changesOf 4 = .ok (.iload_n 3, 1) := by decide +kernel
theorem dX3_changesOf_5 : decode cX3_changesOf 5 = .ok (.aload_n 0, 1) := by decide +kernel
theorem dX3_changesOf_6 : decode cX3_changesOf 6 = .ok (.getfield 16, 3) := by decide +kernel
theorem dX3_changesOf_9 : decode cX3_changesOf 9 = .ok (.invokevirtual 78, 3) := by decide +kernel
theorem dX3_changesOf_12 : decode cX3_changesOf 12 = .ok (.if_icmp .gt 35, 3) := by decide +kernel
theorem dX3_changesOf_15 : decode cX3_changesOf 15 = .ok (.aload_n 0, 1) := by decide +kernel
theorem dX3_changesOf_16 : decode cX3_changesOf 16 = .ok (.getfield 16, 3) := by decide +kernel
theorem dX3_changesOf_19 : decode cX3_changesOf 19 = .ok (.iload_n 3, 1) := by decide +kernel
theorem dX3_changesOf_20 : decode cX3_changesOf 20 = .ok (.invokevirtual 190, 3) := by decide +kernel
theorem dX3_changesOf_23 : decode cX3_changesOf 23 = .ok (.ifCond .eq 18, 3) := by decide +kernel
theorem dX3_changesOf_26 : decode cX3_changesOf 26 = .ok (.aload_n 0, 1) := by decide +kernel
theorem dX3_changesOf_27 : decode cX3_changesOf 27 = .ok (.getfield 16, 3) := by decide +kernel
theorem dX3_changesOf_30 : decode cX3_changesOf 30 = .ok (.iload_n 3, 1) := by decide +kernel
theorem dX3_changesOf_31 : decode cX3_changesOf 31 = .ok (.invokevirtual 155, 3) := by decide +kernel
theorem dX3_changesOf_34 : decode cX3_changesOf 34 = .ok (.iload_n 1, 1) := by decide +kernel
theorem dX3_changesOf_35 : decode cX3_changesOf 35 = .ok (.if_icmp .ne 6, 3) := by decide +kernel
theorem dX3_changesOf_38 : decode cX3_changesOf 38 = .ok (.iinc 2 1, 3) := by decide +kernel
theorem dX3_changesOf_41 : decode cX3_changesOf 41 = .ok (.iinc 3 1, 3) := by decide +kernel
theorem dX3_changesOf_44 : decode cX3_changesOf 44 = .ok (.goto (-40), 3) := by decide +kernel
theorem dX3_changesOf_47 : decode cX3_changesOf 47 = .ok (.iload_n 2, 1) := by decide +kernel
theorem dX3_changesOf_48 : decode cX3_changesOf 48 = .ok (.ireturn, 1) := by decide +kernel
set_option maxRecDepth 20000 in
theorem ggX3_latestMissingOf_X1_latest : GoodIn wsX3_latestMissingOf wsX1_latest := goodIn_r _ [6, 7, 38, 39, 40, 41, 42, 43, 44, 45, 46] (by decide +kernel) (by decide +kernel)
set_option maxRecDepth 20000 in
theorem gX3_latestMissingOf_X1_latest : GoodIn wsX3_latestMissingOf (wsV RX3 78 RX1 yX1_latest wsX1_latest) := goodIn_app (goodIn_of _ (by decide +kernel)) ggX3_latestMissingOf_X1_latest
set_option maxRecDepth 20000 in
theorem ggX3_latestMissingOf_X1_isMissing : GoodIn wsX3_latestMissingOf wsX1_isMissing := goodIn_ca (goodIn_r _ [11, 12, 13, 14, 15, 5, 16, 7, 38, 39, 40, 41, 42, 43, 44, 45, 46] (by decide +kernel) (by decide +kernel)) (goodIn_sub (fun _ h => List.mem_cons_of_mem _ (List.mem_append_right _ h)) (by decide +kernel))
set_option maxRecDepth 20000 in
theorem gX3_latestMissingOf_X1_isMissing : GoodIn wsX3_latestMissingOf (wsV RX3 152 RX1 yX1_isMissing wsX1_isMissing) := goodIn_app (goodIn_of _ (by decide +kernel)) ggX3_latestMissingOf_X1_isMissing
set_option maxRecDepth 20000 in
theorem ggX3_latestMissingOf_X1_isBackable : GoodIn wsX3_latestMissingOf wsX1_isBackable := goodIn_ca (goodIn_r _ [20, 21, 22, 23, 24, 5, 25, 26, 13, 14, 15, 16, 7, 38, 39, 40, 41, 42, 43, 44, 45, 46] (by decide +kernel) (by decide +kernel)) (goodIn_sub (fun _ h => List.mem_cons_of_mem _ (List.mem_append_right _ h)) (by decide +kernel))
set_option maxRecDepth 20000 in
theorem gX3_latestMissingOf_X1_isBackable : GoodIn wsX3_latestMissingOf (wsV RX3 190 RX1 yX1_isBackable wsX1_isBackable) := goodIn_app (goodIn_of _ (by decide +kernel)) ggX3_latestMissingOf_X1_isBackable
set_option maxRecDepth 20000 in
theorem ggX3_latestMissingOf_X1_unitOf : GoodIn wsX3_latestMissingOf wsX1_unitOf := goodIn_ca (goodIn_r _ [30, 31, 13, 14, 15, 5, 16, 7, 38, 39, 40, 41, 42, 43, 44, 45, 46] (by decide +kernel) (by decide +kernel)) (goodIn_sub (fun _ h => List.mem_cons_of_mem _ (List.mem_append_right _ h)) (by decide +kernel))
set_option maxRecDepth 20000 in
theorem gX3_latestMissingOf_X1_unitOf : GoodIn wsX3_latestMissingOf (wsV RX3 155 RX1 yX1_unitOf wsX1_unitOf) := goodIn_app (goodIn_of _ (by decide +kernel)) ggX3_latestMissingOf_X1_unitOf
theorem dX3_latestMissingOf_0 : decode cX3_latestMissingOf 0 = .ok (.aload_n 0, 1) := by decide +kernel
theorem dX3_latestMissingOf_1 : decode cX3_latestMissingOf 1 = .ok (.getfield 16, 3) := by decide +kernel
theorem dX3_latestMissingOf_4 : decode cX3_latestMissingOf 4 = .ok (.invokevirtual 78, 3) := by decide +kernel
theorem dX3_latestMissingOf_7 : decode cX3_latestMissingOf 7 = .ok (.istore_n 2, 1) := by decide +kernel
theorem dX3_latestMissingOf_8 : decode cX3_latestMissingOf 8 = .ok (.iload_n 2, 1) := by decide +kernel
theorem dX3_latestMissingOf_9 : decode cX3_latestMissingOf 9 = .ok (.iconst 1, 1) := by decide +kernel
theorem dX3_latestMissingOf_10 : decode cX3_latestMissingOf 10 = .ok (.if_icmp .lt 45, 3) := by decide +kernel
theorem dX3_latestMissingOf_13 : decode cX3_latestMissingOf 13 = .ok (.aload_n 0, 1) := by decide +kernel
theorem dX3_latestMissingOf_14 : decode cX3_latestMissingOf 14 = .ok (.getfield 16, 3) := by decide +kernel
theorem dX3_latestMissingOf_17 : decode cX3_latestMissingOf 17 = .ok (.iload_n 2, 1) := by decide +kernel
theorem dX3_latestMissingOf_18 : decode cX3_latestMissingOf 18 = .ok (.invokevirtual 152, 3) := by decide +kernel
theorem dX3_latestMissingOf_21 : decode cX3_latestMissingOf 21 = .ok (.ifCond .eq 28, 3) := by decide +kernel
theorem dX3_latestMissingOf_24 : decode cX3_latestMissingOf 24 = .ok (.aload_n 0, 1) := by decide +kernel
theorem dX3_latestMissingOf_25 : decode cX3_latestMissingOf 25 = .ok (.getfield 16, 3) := by decide +kernel
theorem dX3_latestMissingOf_28 : decode cX3_latestMissingOf 28 = .ok (.iload_n 2, 1) := by decide +kernel
theorem dX3_latestMissingOf_29 : decode cX3_latestMissingOf 29 = .ok (.invokevirtual 190, 3) := by decide +kernel
theorem dX3_latestMissingOf_32 : decode cX3_latestMissingOf 32 = .ok (.ifCond .eq 17, 3) := by decide +kernel
theorem dX3_latestMissingOf_35 : decode cX3_latestMissingOf 35 = .ok (.aload_n 0, 1) := by decide +kernel
theorem dX3_latestMissingOf_36 : decode cX3_latestMissingOf 36 = .ok (.getfield 16, 3) := by decide +kernel
theorem dX3_latestMissingOf_39 : decode cX3_latestMissingOf 39 = .ok (.iload_n 2, 1) := by decide +kernel
theorem dX3_latestMissingOf_40 : decode cX3_latestMissingOf 40 = .ok (.invokevirtual 155, 3) := by decide +kernel
theorem dX3_latestMissingOf_43 : decode cX3_latestMissingOf 43 = .ok (.iload_n 1, 1) := by decide +kernel
theorem dX3_latestMissingOf_44 : decode cX3_latestMissingOf 44 = .ok (.if_icmp .ne 5, 3) := by decide +kernel
theorem dX3_latestMissingOf_47 : decode cX3_latestMissingOf 47 = .ok (.iload_n 2, 1) := by decide +kernel
theorem dX3_latestMissingOf_48 : decode cX3_latestMissingOf 48 = .ok (.ireturn, 1) := by decide +kernel
theorem dX3_latestMissingOf_49 : decode cX3_latestMissingOf 49 = .ok (.iinc 2 (-1), 3) := by decide +kernel
theorem dX3_latestMissingOf_52 : decode cX3_latestMissingOf 52 = .ok (.goto (-44), 3) := by decide +kernel
theorem dX3_latestMissingOf_55 : decode cX3_latestMissingOf 55 = .ok (.iconst 0, 1) := by decide +kernel
theorem dX3_latestMissingOf_56 : decode cX3_latestMissingOf 56 = .ok (.ireturn, 1) := by decide +kernel
set_option maxRecDepth 20000 in
theorem ggX3_isToBeBackedOut_X1_isBackable : GoodIn wsX3_isToBeBackedOut wsX1_isBackable := goodIn_ca (goodIn_r _ [7, 8, 9, 10, 11, 6, 12, 13, 14, 15, 16, 17, 18, 39, 40, 41, 42, 43, 44, 45, 46, 47] (by decide +kernel) (by decide +kernel)) (goodIn_sub (fun _ h => List.mem_cons_of_mem _ (List.mem_append_right _ h)) (by decide +kernel))
set_option maxRecDepth 20000 in
theorem gX3_isToBeBackedOut_X1_isBackable : GoodIn wsX3_isToBeBackedOut (wsV RX3 190 RX1 yX1_isBackable wsX1_isBackable) := goodIn_app (goodIn_of _ (by decide +kernel)) ggX3_isToBeBackedOut_X1_isBackable
set_option maxRecDepth 20000 in
theorem ggX3_isToBeBackedOut_X1_unitOf : GoodIn wsX3_isToBeBackedOut wsX1_unitOf := goodIn_ca (goodIn_r _ [22, 23, 14, 15, 16, 6, 17, 18, 39, 40, 41, 42, 43, 44, 45, 46, 47] (by decide +kernel) (by decide +kernel)) (goodIn_sub (fun _ h => List.mem_cons_of_mem _ (List.mem_append_right _ h)) (by decide +kernel))
set_option maxRecDepth 20000 in
theorem gX3_isToBeBackedOut_X1_unitOf : GoodIn wsX3_isToBeBackedOut (wsV RX3 155 RX1 yX1_unitOf wsX1_unitOf) := goodIn_app (goodIn_of _ (by decide +kernel)) ggX3_isToBeBackedOut_X1_unitOf
set_option maxRecDepth 20000 in
theorem ggX3_isToBeBackedOut_X2_isOpen : GoodIn wsX3_isToBeBackedOut wsX2_isOpen := goodIn_ca (goodIn_r _ [28, 29, 30, 31, 32, 48, 49] (by decide +kernel) (by decide +kernel)) (goodIn_sub (fun _ h => List.mem_cons_of_mem _ (List.mem_append_right _ h)) (by decide +kernel))
set_option maxRecDepth 20000 in
theorem gX3_isToBeBackedOut_X2_isOpen : GoodIn wsX3_isToBeBackedOut (wsV RX3 71 RX2 yX2_isOpen wsX2_isOpen) := goodIn_app (goodIn_of _ (by decide +kernel)) ggX3_isToBeBackedOut_X2_isOpen
theorem dX3_isToBeBackedOut_0 : decode cX3_isToBeBackedOut 0 = .ok (.aload_n 0, 1) := by decide +kernel
theorem dX3_isToBeBackedOut_1 : decode cX3_isToBeBackedOut 1 = .ok (.getfield 16, 3) := by decide +kernel
theorem dX3_isToBeBackedOut_4 : decode cX3_isToBeBackedOut 4 = .ok (.iload_n 1, 1) := by decide +kernel
theorem dX3_isToBeBackedOut_5 : decode cX3_isToBeBackedOut 5 = .ok (.invokevirtual 190, 3) := by decide +kernel
theorem dX3_isToBeBackedOut_8 : decode cX3_isToBeBackedOut 8 = .ok (.ifCond .eq 25, 3) := by decide +kernel
theorem dX3_isToBeBackedOut_11 : decode cX3_isToBeBackedOut 11 = .ok (.aload_n 0, 1) := by decide +kernel
theorem dX3_isToBeBackedOut_12 : decode cX3_isToBeBackedOut 12 = .ok (.getfield 27, 3) := by decide +kernel
theorem dX3_isToBeBackedOut_15 : decode cX3_isToBeBackedOut 15 = .ok (.aload_n 0, 1) := by decide +kernel
theorem dX3_isToBeBackedOut_16 : decode cX3_isToBeBackedOut 16 = .ok (.getfield 16, 3) := by decide +kernel
theorem dX3_isToBeBackedOut_19 : decode cX3_isToBeBackedOut 19 = .ok (.iload_n 1, 1) := by decide +kernel
theorem dX3_isToBeBackedOut_20 : decode cX3_isToBeBackedOut 20 = .ok (.invokevirtual 155, 3) := by decide +kernel
theorem dX3_isToBeBackedOut_23 : decode cX3_isToBeBackedOut 23 = .ok (.invokevirtual 71, 3) := by decide +kernel
theorem dX3_isToBeBackedOut_26 : decode cX3_isToBeBackedOut 26 = .ok (.ifCond .eq 7, 3) := by decide +kernel
theorem dX3_isToBeBackedOut_29 : decode cX3_isToBeBackedOut 29 = .ok (.iconst 1, 1) := by decide +kernel
theorem dX3_isToBeBackedOut_30 : decode cX3_isToBeBackedOut 30 = .ok (.goto 4, 3) := by decide +kernel
theorem dX3_isToBeBackedOut_33 : decode cX3_isToBeBackedOut 33 = .ok (.iconst 0, 1) := by decide +kernel
theorem dX3_isToBeBackedOut_34 : decode cX3_isToBeBackedOut 34 = .ok (.ireturn, 1) := by decide +kernel
set_option maxRecDepth 20000 in
theorem ggX3_leastMissing_X1_isMissing : GoodIn wsX3_leastMissing wsX1_isMissing := goodIn_ca (goodIn_r _ [6, 7, 8, 9, 10, 5, 11, 12, 48, 49, 50, 51, 52, 53, 54, 55, 56] (by decide +kernel) (by decide +kernel)) (goodIn_sub (fun _ h => List.mem_cons_of_mem _ (List.mem_append_right _ h)) (by decide +kernel))
set_option maxRecDepth 20000 in
theorem gX3_leastMissing_X1_isMissing : GoodIn wsX3_leastMissing (wsV RX3 152 RX1 yX1_isMissing wsX1_isMissing) := goodIn_app (goodIn_of _ (by decide +kernel)) ggX3_leastMissing_X1_isMissing
set_option maxRecDepth 20000 in
theorem ggX3_leastMissing_X3_isToBeBackedOut : GoodIn wsX3_leastMissing wsX3_isToBeBackedOut := goodIn_ca (goodIn_r _ [17, 1, 18, 19, 20, 21, 5, 22, 23, 24, 25, 26, 27, 28, 8, 9, 10, 11, 12, 29, 30, 31, 32, 33, 34, 35, 36, 37, 38, 39, 40, 16, 41, 42, 43, 44, 45, 46, 47, 48, 49, 50, 51, 52, 53, 54, 55, 56, 57, 58] (by decide +kernel) (by decide +kernel)) (goodIn_sub (fun _ h => List.mem_cons_of_mem _ (List.mem_append_right _ h)) (by decide +kernel))
set_option maxRecDepth 20000 in
theorem gX3_leastMissing_X3_isToBeBackedOut : GoodIn wsX3_leastMissing (wsV RX3 203 RX3 yX3_isToBeBackedOut wsX3_isToBeBackedOut) := goodIn_app (goodIn_of _ (by decide +kernel)) ggX3_leastMissing_X3_isToBeBackedOut
theorem dX3_leastMissing_0 : decode cX3_leastMissing 0 = .ok (.iconst 1, 1) := by decide +kernel
theorem dX3_leastMissing_1 : decode cX3_leastMissing 1 = .ok (.istore_n 3, 1) := by decide +kernel
theorem dX3_leastMissing_2 : decode cX3_leastMissing 2 = .ok (.iload_n 3, 1) := by decide +kernel
theorem dX3_leastMissing_3 : decode cX3_leastMissing 3 = .ok (.iload_n 2, 1) := by decide +kernel
theorem dX3_leastMissing_4 : decode cX3_leastMissing 4 = .ok (.if_icmp .gt 35, 3) := by decide +kernel
theorem dX3_leastMissing_7 : decode cX3_leastMissing 7 = .ok (.aload_n 0, 1) := by decide +kernel
theorem dX3_leastMissing_8 : decode cX3_leastMissing 8 = .ok (.getfield 16, 3) := by decide +kernel
theorem dX3_leastMissing_11 : decode cX3_leastMissing 11 = .ok (.iload_n 3, 1) := by decide +kernel
theorem dX3_leastMissing_12 : decode cX3_leastMissing 12 = .ok (.invokevirtual 152, 3) := by decide +kernel
theorem dX3_leastMissing_15 : decode cX3_leastMissing 15 = .ok (.ifCond .eq 18, 3) := by decide +kernel
theorem dX3_leastMissing_18 : decode cX3_leastMissing 18 = .ok (.iload_n 3, 1) := by decide +kernel
theorem dX3_leastMissing_19 : decode cX3_leastMissing 19 = .ok (.iload_n 1, 1) := by decide +kernel
theorem dX3_leastMissing_20 : decode cX3_leastMissing 20 = .ok (.if_icmp .gt 11, 3) := by decide +kernel
theorem dX3_leastMissing_23 : decode cX3_leastMissing 23 = .ok (.aload_n 0, 1) := by decide +kernel
theorem dX3_leastMissing_24 : decode cX3_leastMissing 24 = .ok (.iload_n 3, 1) := by decide +kernel
theorem dX3_leastMissing_25 : decode cX3_leastMissing 25 = .ok (.invokevirtual 203, 3) := by decide +kernel
theorem dX3_leastMissing_28 : decode cX3_leastMissing 28 = .ok (.ifCond .eq 5, 3) := by decide +kernel
theorem dX3_leastMissing_31 : decode cX3_leastMissing 31 = .ok (.iload_n 3, 1) := by decide +kernel
theorem dX3_leastMissing_32 : decode cX3_leastMissing 32 = .ok (.ireturn, 1) := by decide +kernel
theorem dX3_leastMissing_33 : decode cX3_leastMissing 33 = .ok (.iinc 3 1, 3) := by decide +kernel
theorem dX3_leastMissing_36 : decode cX3_leastMissing 36 = .ok (.goto (-34), 3) := by decide +kernel
theorem dX3_leastMissing_39 : decode cX3_leastMissing 39 = .ok (.iconst 0, 1) := by decide +kernel
theorem dX3_leastMissing_40 : decode cX3_leastMissing 40 = .ok (.ireturn, 1) := by decide +kernel
set_option maxRecDepth 20000 in
theorem ggX3_rowsOfBackingOut_X2_howManyOpen : GoodIn wsX3_rowsOfBackingOut wsX2_howManyOpen := goodIn_ca (goodIn_r _ [6, 7, 8, 9, 5, 10, 11, 51, 52] (by decide +kernel) (by decide +kernel)) (goodIn_sub (fun _ h => List.mem_cons_of_mem _ (List.mem_append_right _ h)) (by decide +kernel))
set_option maxRecDepth 20000 in
theorem gX3_rowsOfBackingOut_X2_howManyOpen : GoodIn wsX3_rowsOfBackingOut (wsV RX3 166 RX2 yX2_howManyOpen wsX2_howManyOpen) := goodIn_app (goodIn_of _ (by decide +kernel)) ggX3_rowsOfBackingOut_X2_howManyOpen
set_option maxRecDepth 20000 in
theorem ggX3_rowsOfBackingOut_X3_isToBeBackedOut : GoodIn wsX3_rowsOfBackingOut wsX3_isToBeBackedOut := goodIn_ca (goodIn_r _ [16, 17, 1, 18, 19, 20, 21, 22, 23, 24, 25, 26, 27, 28, 29, 30, 31, 32, 33, 34, 35, 36, 37, 38, 39, 40, 41, 5, 42, 11, 43, 15, 44, 45, 46, 47, 48, 49, 50, 53, 54, 55, 56, 57, 58, 59, 60, 61, 51, 52] (by decide +kernel) (by decide +kernel)) (goodIn_sub (fun _ h => List.mem_cons_of_mem _ (List.mem_append_right _ h)) (by decide +kernel))
set_option maxRecDepth 20000 in
theorem gX3_rowsOfBackingOut_X3_isToBeBackedOut : GoodIn wsX3_rowsOfBackingOut (wsV RX3 203 RX3 yX3_isToBeBackedOut wsX3_isToBeBackedOut) := goodIn_app (goodIn_of _ (by decide +kernel)) ggX3_rowsOfBackingOut_X3_isToBeBackedOut
theorem dX3_rowsOfBackingOut_0 : decode cX3_rowsOfBackingOut 0 = .ok (.aload_n 0, 1) := by decide +kernel
theorem dX3_rowsOfBackingOut_1 : decode cX3_rowsOfBackingOut 1 = .ok (.getfield 27, 3) := by decide +kernel
theorem dX3_rowsOfBackingOut_4 : decode cX3_rowsOfBackingOut 4 = .ok (.invokevirtual 166, 3) := by decide +kernel
theorem dX3_rowsOfBackingOut_7 : decode cX3_rowsOfBackingOut 7 = .ok (.istore_n 2, 1) := by decide +kernel
theorem dX3_rowsOfBackingOut_8 : decode cX3_rowsOfBackingOut 8 = .ok (.iconst 0, 1) := by decide +kernel
theorem dX3_rowsOfBackingOut_9 : decode cX3_rowsOfBackingOut 9 = .ok (.istore_n 3, 1) := by decide +kernel
theorem dX3_rowsOfBackingOut_10 : decode cX3_rowsOfBackingOut 10 = .ok (.iconst 1, 1) := by decide +kernel
theorem dX3_rowsOfBackingOut_11 : decode cX3_rowsOfBackingOut 11 = .ok (.istore 4, 2) := by decide +kernel
theorem dX3_rowsOfBackingOut_13 : decode cX3_rowsOfBackingOut 13 = .ok (.iload 4, 2) := by decide +kernel
theorem dX3_rowsOfBackingOut_15 : decode cX3_rowsOfBackingOut 15 = .ok (.iload_n 1, 1) := by decide +kernel
theorem dX3_rowsOfBackingOut_16 : decode cX3_rowsOfBackingOut 16 = .ok (.if_icmp .gt 21, 3) := by decide +kernel
theorem dX3_rowsOfBackingOut_19 : decode cX3_rowsOfBackingOut 19 = .ok (.aload_n 0, 1) := by decide +kernel
theorem dX3_rowsOfBackingOut_20 : decode cX3_rowsOfBackingOut 20 = .ok (.iload 4, 2) := by decide +kernel
theorem dX3_rowsOfBackingOut_22 : decode cX3_rowsOfBackingOut 22 = .ok (.invokevirtual 203, 3) := by decide +kernel
theorem dX3_rowsOfBackingOut_25 : decode cX3_rowsOfBackingOut 25 = .ok (.ifCond .eq 6, 3) := by decide +kernel
theorem dX3_rowsOfBackingOut_28 : decode cX3_rowsOfBackingOut 28 = .ok (.iinc 3 1, 3) := by decide +kernel
theorem dX3_rowsOfBackingOut_31 : decode cX3_rowsOfBackingOut 31 = .ok (.iinc 4 1, 3) := by decide +kernel
theorem dX3_rowsOfBackingOut_34 : decode cX3_rowsOfBackingOut 34 = .ok (.goto (-21), 3) := by decide +kernel
theorem dX3_rowsOfBackingOut_37 : decode cX3_rowsOfBackingOut 37 = .ok (.iload_n 3, 1) := by decide +kernel
theorem dX3_rowsOfBackingOut_38 : decode cX3_rowsOfBackingOut 38 = .ok (.iload_n 2, 1) := by decide +kernel
theorem dX3_rowsOfBackingOut_39 : decode cX3_rowsOfBackingOut 39 = .ok (.iadd, 1) := by decide +kernel
theorem dX3_rowsOfBackingOut_40 : decode cX3_rowsOfBackingOut 40 = .ok (.ireturn, 1) := by decide +kernel
set_option maxRecDepth 20000 in
theorem ggX3_bringForward_X0_putBack : GoodIn wsX3_bringForward wsX0_putBack := goodIn_r _ [8, 9, 10, 11, 12, 13, 14, 15, 16, 7, 17, 18, 59, 60, 61, 62, 63, 64] (by decide +kernel) (by decide +kernel)
set_option maxRecDepth 20000 in
theorem gX3_bringForward_X0_putBack : GoodIn wsX3_bringForward (wsV RX3 206 RX0 yX0_putBack wsX0_putBack) := goodIn_app (goodIn_of _ (by decide +kernel)) ggX3_bringForward_X0_putBack
set_option maxRecDepth 20000 in
theorem ggX3_bringForward_X0_startOf : GoodIn wsX3_bringForward wsX0_startOf := goodIn_ca (goodIn_r _ [22, 23, 14, 15, 16, 7, 17, 18, 59, 60, 61, 62, 63, 64] (by decide +kernel) (by decide +kernel)) (goodIn_sub (fun _ h => List.mem_cons_of_mem _ (List.mem_append_right _ h)) (by decide +kernel))
set_option maxRecDepth 20000 in
theorem gX3_bringForward_X0_startOf : GoodIn wsX3_bringForward (wsV RX3 101 RX0 yX0_startOf wsX0_startOf) := goodIn_app (goodIn_of _ (by decide +kernel)) ggX3_bringForward_X0_startOf
set_option maxRecDepth 20000 in
theorem ggX3_bringForward_X1_isChange : GoodIn wsX3_bringForward wsX1_isChange := goodIn_ca (goodIn_r _ [28, 29, 30, 31, 32, 27, 33, 34, 65, 66, 67, 68, 69, 70, 71, 72, 73] (by decide +kernel) (by decide +kernel)) (goodIn_sub (fun _ h => List.mem_cons_of_mem _ (List.mem_append_right _ h)) (by decide +kernel))
set_option maxRecDepth 20000 in
theorem gX3_bringForward_X1_isChange : GoodIn wsX3_bringForward (wsV RX3 209 RX1 yX1_isChange wsX1_isChange) := goodIn_app (goodIn_of _ (by decide +kernel)) ggX3_bringForward_X1_isChange
set_option maxRecDepth 20000 in
theorem ggX3_bringForward_X1_cellOf : GoodIn wsX3_bringForward wsX1_cellOf := goodIn_ca (goodIn_r _ [38, 39, 30, 31, 32, 27, 33, 34, 65, 66, 67, 68, 69, 70, 71, 72, 73] (by decide +kernel) (by decide +kernel)) (goodIn_sub (fun _ h => List.mem_cons_of_mem _ (List.mem_append_right _ h)) (by decide +kernel))
set_option maxRecDepth 20000 in
theorem gX3_bringForward_X1_cellOf : GoodIn wsX3_bringForward (wsV RX3 193 RX1 yX1_cellOf wsX1_cellOf) := goodIn_app (goodIn_of _ (by decide +kernel)) ggX3_bringForward_X1_cellOf
set_option maxRecDepth 20000 in
theorem ggX3_bringForward_X1_afterOf : GoodIn wsX3_bringForward wsX1_afterOf := goodIn_ca (goodIn_r _ [43, 44, 30, 31, 32, 27, 33, 34, 65, 66, 67, 68, 69, 70, 71, 72, 73] (by decide +kernel) (by decide +kernel)) (goodIn_sub (fun _ h => List.mem_cons_of_mem _ (List.mem_append_right _ h)) (by decide +kernel))
set_option maxRecDepth 20000 in
theorem gX3_bringForward_X1_afterOf : GoodIn wsX3_bringForward (wsV RX3 196 RX1 yX1_afterOf wsX1_afterOf) := goodIn_app (goodIn_of _ (by decide +kernel)) ggX3_bringForward_X1_afterOf
set_option maxRecDepth 20000 in
theorem ggX3_bringForward_X3_setCell : GoodIn wsX3_bringForward wsX3_setCell := goodIn_ca (goodIn_r _ [49, 2, 50, 51, 48, 52, 53, 54, 55, 56, 57, 58] (by decide +kernel) (by decide +kernel)) (goodIn_sub (fun _ h => List.mem_cons_of_mem _ (List.mem_append_right _ h)) (by decide +kernel))
set_option maxRecDepth 20000 in
theorem gX3_bringForward_X3_setCell : GoodIn wsX3_bringForward (wsV RX3 183 RX3 yX3_setCell wsX3_setCell) := goodIn_app (goodIn_of _ (by decide +kernel)) ggX3_bringForward_X3_setCell
theorem dX3_bringForward_0 : decode cX3_bringForward 0 = .ok (.aload_n 0, 1) := by decide +kernel
theorem dX3_bringForward_1 : decode cX3_bringForward 1 = .ok (.getfield 33, 3) := by decide +kernel
theorem dX3_bringForward_4 : decode cX3_bringForward 4 = .ok (.iload_n 1, 1) := by decide +kernel
theorem dX3_bringForward_5 : decode cX3_bringForward 5 = .ok (.aload_n 0, 1) := by decide +kernel
theorem dX3_bringForward_6 : decode cX3_bringForward 6 = .ok (.getfield 9, 3) := by decide +kernel
theorem dX3_bringForward_9 : decode cX3_bringForward 9 = .ok (.invokevirtual 206, 3) := by decide +kernel
theorem dX3_bringForward_12 : decode cX3_bringForward 12 = .ok (.aload_n 0, 1) := by decide +kernel
theorem dX3_bringForward_13 : decode cX3_bringForward 13 = .ok (.getfield 33, 3) := by decide +kernel
theorem dX3_bringForward_16 : decode cX3_bringForward 16 = .ok (.iload_n 1, 1) := by decide +kernel
theorem dX3_bringForward_17 : decode cX3_bringForward 17 = .ok (.invokevirtual 101, 3) := by decide +kernel
theorem dX3_bringForward_20 : decode cX3_bringForward 20 = .ok (.iconst 1, 1) := by decide +kernel
theorem dX3_bringForward_21 : decode cX3_bringForward 21 = .ok (.iadd, 1) := by decide +kernel
theorem dX3_bringForward_22 : decode cX3_bringForward 22 = .ok (.istore_n 3, 1) := by decide +kernel
theorem dX3_bringForward_23 : decode cX3_bringForward 23 = .ok (.iload_n 3, 1) := by decide +kernel
theorem dX3_bringForward_24 : decode cX3_bringForward 24 = .ok (.iload_n 2, 1) := by decide +kernel
theorem dX3_bringForward_25 : decode cX3_bringForward 25 = .ok (.if_icmp .gt 40, 3) := by decide +kernel
theorem dX3_bringForward_28 : decode cX3_bringForward 28 = .ok (.aload_n 0, 1) := by decide +kernel
theorem dX3_bringForward_29 : decode cX3_bringForward 29 = .ok (.getfield 16, 3) := by decide +kernel
theorem dX3_bringForward_32 : decode cX3_bringForward 32 = .ok (.iload_n 3, 1) := by decide +kernel
theorem dX3_bringForward_33 : decode cX3_bringForward 33 = .ok (.invokevirtual 209, 3) := by decide +kernel
theorem dX3_bringForward_36 : decode cX3_bringForward 36 = .ok (.ifCond .eq 23, 3) := by decide +kernel
theorem dX3_bringForward_39 : decode cX3_bringForward 39 = .ok (.aload_n 0, 1) := by decide +kernel
theorem dX3_bringForward_40 : decode cX3_bringForward 40 = .ok (.aload_n 0, 1) := by decide +kernel
theorem dX3_bringForward_41 : decode cX3_bringForward 41 = .ok (.getfield 16, 3) := by decide +kernel
theorem dX3_bringForward_44 : decode cX3_bringForward 44 = .ok (.iload_n 3, 1) := by decide +kernel
theorem dX3_bringForward_45 : decode cX3_bringForward 45 = .ok (.invokevirtual 193, 3) := by decide +kernel
theorem dX3_bringForward_48 : decode cX3_bringForward 48 = .ok (.aload_n 0, 1) := by decide +kernel
theorem dX3_bringForward_49 : decode cX3_bringForward 49 = .ok (.getfield 16, 3) := by decide +kernel
theorem dX3_bringForward_52 : decode cX3_bringForward 52 = .ok (.iload_n 3, 1) := by decide +kernel
theorem dX3_bringForward_53 : decode cX3_bringForward 53 = .ok (.invokevirtual 196, 3) := by decide +kernel
theorem dX3_bringForward_56 : decode cX3_bringForward 56 = .ok (.invokevirtual 183, 3) := by decide +kernel
theorem dX3_bringForward_59 : decode cX3_bringForward 59 = .ok (.iinc 3 1, 3) := by decide +kernel
theorem dX3_bringForward_62 : decode cX3_bringForward 62 = .ok (.goto (-39), 3) := by decide +kernel
theorem dX3_bringForward_65 : decode cX3_bringForward 65 = .ok (.return_, 1) := by decide +kernel
set_option maxRecDepth 20000 in
theorem ggX3_dropBehind_X1_dropBehind : GoodIn wsX3_dropBehind wsX1_dropBehind := goodIn_r _ [8, 9, 10, 11, 12, 13, 14, 68, 69, 70, 71, 72, 73, 74, 75, 76] (by decide +kernel) (by decide +kernel)
set_option maxRecDepth 20000 in
theorem gX3_dropBehind_X1_dropBehind : GoodIn wsX3_dropBehind (wsV RX3 212 RX1 yX1_dropBehind wsX1_dropBehind) := goodIn_app (goodIn_of _ (by decide +kernel)) ggX3_dropBehind_X1_dropBehind
set_option maxRecDepth 20000 in
theorem ggX3_dropBehind_X0_spoilBehind : GoodIn wsX3_dropBehind wsX0_spoilBehind := goodIn_ca (goodIn_r _ [19, 20, 21, 22, 77, 78, 79, 80, 81, 82] (by decide +kernel) (by decide +kernel)) (goodIn_sub (fun _ h => List.mem_cons_of_mem _ (List.mem_append_right _ h)) (by decide +kernel))
set_option maxRecDepth 20000 in
theorem gX3_dropBehind_X0_spoilBehind : GoodIn wsX3_dropBehind (wsV RX3 213 RX0 yX0_spoilBehind wsX0_spoilBehind) := goodIn_app (goodIn_of _ (by decide +kernel)) ggX3_dropBehind_X0_spoilBehind
set_option maxRecDepth 20000 in
theorem ggX3_dropBehind_X2_followAll : GoodIn wsX3_dropBehind wsX2_followAll := goodIn_ca (goodIn_r _ [27, 28, 29, 30, 31, 32, 33, 34, 35, 36, 7, 37, 38, 39, 40, 41, 42, 9, 43, 44, 45, 46, 47, 48, 49, 50, 51, 52, 53, 54, 55, 26, 56, 57, 58, 59, 60, 61, 83, 84, 68, 69, 70, 71, 72, 73, 74, 75, 76] (by decide +kernel) (by decide +kernel)) (goodIn_sub (fun _ h => List.mem_cons_of_mem _ (List.mem_append_right _ h)) (by decide +kernel))
set_option maxRecDepth 20000 in
theorem gX3_dropBehind_X2_followAll : GoodIn wsX3_dropBehind (wsV RX3 97 RX2 yX2_followAll wsX2_followAll) := goodIn_app (goodIn_of _ (by decide +kernel)) ggX3_dropBehind_X2_followAll
theorem dX3_dropBehind_0 : decode cX3_dropBehind 0 = .ok (.aload_n 0, 1) := by decide +kernel
theorem dX3_dropBehind_1 : decode cX3_dropBehind 1 = .ok (.getfield 16, 3) := by decide +kernel
theorem dX3_dropBehind_4 : decode cX3_dropBehind 4 = .ok (.iload_n 1, 1) := by decide +kernel
theorem dX3_dropBehind_5 : decode cX3_dropBehind 5 = .ok (.invokevirtual 212, 3) := by decide +kernel
theorem dX3_dropBehind_8 : decode cX3_dropBehind 8 = .ok (.aload_n 0, 1) := by decide +kernel
theorem dX3_dropBehind_9 : decode cX3_dropBehind 9 = .ok (.getfield 33, 3) := by decide +kernel
theorem dX3_dropBehind_12 : decode cX3_dropBehind 12 = .ok (.iload_n 1, 1) := by decide +kernel
theorem dX3_dropBehind_13 : decode cX3_dropBehind 13 = .ok (.invokevirtual 213, 3) := by decide +kernel
theorem dX3_dropBehind_16 : decode cX3_dropBehind 16 = .ok (.aload_n 0, 1) := by decide +kernel
theorem dX3_dropBehind_17 : decode cX3_dropBehind 17 = .ok (.getfield 23, 3) := by decide +kernel
theorem dX3_dropBehind_20 : decode cX3_dropBehind 20 = .ok (.aload_n 0, 1) := by decide +kernel
theorem dX3_dropBehind_21 : decode cX3_dropBehind 21 = .ok (.getfield 16, 3) := by decide +kernel
theorem dX3_dropBehind_24 : decode cX3_dropBehind 24 = .ok (.iload_n 1, 1) := by decide +kernel
theorem dX3_dropBehind_25 : decode cX3_dropBehind 25 = .ok (.invokevirtual 97, 3) := by decide +kernel
theorem dX3_dropBehind_28 : decode cX3_dropBehind 28 = .ok (.return_, 1) := by decide +kernel
set_option maxRecDepth 20000 in
theorem ggX3_backOutAllOpen_X2_isOpen : GoodIn wsX3_backOutAllOpen wsX2_isOpen := goodIn_ca (goodIn_r _ [6, 7, 8, 9, 10, 111, 112] (by decide +kernel) (by decide +kernel)) (goodIn_sub (fun _ h => List.mem_cons_of_mem _ (List.mem_append_right _ h)) (by decide +kernel))
set_option maxRecDepth 20000 in
theorem gX3_backOutAllOpen_X2_isOpen : GoodIn wsX3_backOutAllOpen (wsV RX3 71 RX2 yX2_isOpen wsX2_isOpen) := goodIn_app (goodIn_of _ (by decide +kernel)) ggX3_backOutAllOpen_X2_isOpen
set_option maxRecDepth 20000 in
theorem ggX3_backOutAllOpen_X3_writeBackingOut : GoodIn wsX3_backOutAllOpen wsX3_writeBackingOut := goodIn_ca (goodIn_r _ [14, 15, 16, 17, 18, 19, 20, 21, 22, 23, 24, 25, 26, 27, 28, 29, 30, 31, 32, 33, 34, 35, 36, 37, 38, 39, 40, 41, 42, 43, 44, 45, 46, 47, 48, 49, 50, 51, 52, 53, 54, 55, 56, 57, 58, 9, 59, 1, 60, 61, 62, 63, 64, 65, 66, 67, 68, 69, 70, 71, 72, 73, 5, 74, 7, 75, 8, 10, 76, 77, 78, 79, 80, 81, 82, 83, 84, 85, 86, 87, 88, 89, 90, 91, 92, 93, 94, 95, 96, 97, 98, 99, 100, 101, 102, 103, 104, 105, 106, 107, 108, 109, 110, 113, 114, 115, 116, 117, 118, 119, 120, 121, 111, 112, 122, 123, 124, 125, 126, 127] (by decide +kernel) (by decide +kernel)) (goodIn_sub (fun _ h => List.mem_cons_of_mem _ (List.mem_append_right _ h)) (by decide +kernel))
set_option maxRecDepth 20000 in
theorem gX3_backOutAllOpen_X3_writeBackingOut : GoodIn wsX3_backOutAllOpen (wsV RX3 137 RX3 yX3_writeBackingOut wsX3_writeBackingOut) := goodIn_app (goodIn_of _ (by decide +kernel)) ggX3_backOutAllOpen_X3_writeBackingOut
theorem dX3_backOutAllOpen_0 : decode cX3_backOutAllOpen 0 = .ok (.iconst 1, 1) := by decide +kernel
theorem dX3_backOutAllOpen_1 : decode cX3_backOutAllOpen 1 = .ok (.istore_n 1, 1) := by decide +kernel
theorem dX3_backOutAllOpen_2 : decode cX3_backOutAllOpen 2 = .ok (.iload_n 1, 1) := by decide +kernel
theorem dX3_backOutAllOpen_3 : decode cX3_backOutAllOpen 3 = .ok (.bipush 60, 2) := by decide +kernel
theorem dX3_backOutAllOpen_5 : decode cX3_backOutAllOpen 5 = .ok (.if_icmp .gt 25, 3) := by decide +kernel
theorem dX3_backOutAllOpen_8 : decode cX3_backOutAllOpen 8 = .ok (.aload_n 0, 1) := by decide +kernel
theorem dX3_backOutAllOpen_9 : decode cX3_backOutAllOpen 9 = .ok (.getfield 23, 3) := by decide +kernel
theorem dX3_backOutAllOpen_12 : decode cX3_backOutAllOpen 12 = .ok (.iload_n 1, 1) := by decide +kernel
theorem dX3_backOutAllOpen_13 : decode cX3_backOutAllOpen 13 = .ok (.invokevirtual 71, 3) := by decide +kernel
theorem dX3_backOutAllOpen_16 : decode cX3_backOutAllOpen 16 = .ok (.ifCond .eq 8, 3) := by decide +kernel
theorem dX3_backOutAllOpen_19 : decode cX3_backOutAllOpen 19 = .ok (.aload_n 0, 1) := by decide +kernel
theorem dX3_backOutAllOpen_20 : decode cX3_backOutAllOpen 20 = .ok (.iload_n 1, 1) := by decide +kernel
theorem dX3_backOutAllOpen_21 : decode cX3_backOutAllOpen 21 = .ok (.invokevirtual 137, 3) := by decide +kernel
theorem dX3_backOutAllOpen_24 : decode cX3_backOutAllOpen 24 = .ok (.iinc 1 1, 3) := by decide +kernel
theorem dX3_backOutAllOpen_27 : decode cX3_backOutAllOpen 27 = .ok (.goto (-25), 3) := by decide +kernel
theorem dX3_backOutAllOpen_30 : decode cX3_backOutAllOpen 30 = .ok (.return_, 1) := by decide +kernel
