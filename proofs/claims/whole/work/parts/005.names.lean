theorem dX4_stageAfter_57 : decode cX4_stageAfter 57 = .ok (.iconst 2, 1) := by decide +kernel
theorem dX4_stageAfter_58 : decode cX4_stageAfter 58 = .ok (.goto 14, 3) := by decide +kernel
theorem dX4_stageAfter_61 : decode cX4_stageAfter 61 = .ok (.iload_n 1, 1) := by decide +kernel
theorem dX4_stageAfter_62 : decode cX4_stageAfter 62 = .ok (.bipush 41, 2) := by decide +kernel
theorem dX4_stageAfter_64 : decode cX4_stageAfter 64 = .ok (.if_icmp .ne 7, 3) := by decide +kernel
theorem dX4_stageAfter_67 : decode cX4_stageAfter 67 = .ok (.iconst 3, 1) := by decide +kernel
theorem dX4_stageAfter_68 : decode cX4_stageAfter 68 = .ok (.goto 4, 3) := by decide +kernel
theorem dX4_stageAfter_71 : decode cX4_stageAfter 71 = .ok (.iconst 4, 1) := by decide +kernel
theorem dX4_stageAfter_72 : decode cX4_stageAfter 72 = .ok (.ireturn, 1) := by decide +kernel
theorem dX4_stageAfter_73 : decode cX4_stageAfter 73 = .ok (.iload_n 0, 1) := by decide +kernel
theorem dX4_stageAfter_74 : decode cX4_stageAfter 74 = .ok (.iconst 3, 1) := by decide +kernel
theorem dX4_stageAfter_75 : decode cX4_stageAfter 75 = .ok (.if_icmp .ne 14, 3) := by decide +kernel
theorem dX4_stageAfter_78 : decode cX4_stageAfter 78 = .ok (.iload_n 1, 1) := by decide +kernel
theorem dX4_stageAfter_79 : decode cX4_stageAfter 79 = .ok (.invokestatic 42, 3) := by decide +kernel
theorem dX4_stageAfter_82 : decode cX4_stageAfter 82 = .ok (.ifCond .eq 7, 3) := by decide +kernel
theorem dX4_stageAfter_85 : decode cX4_stageAfter 85 = .ok (.iconst 0, 1) := by decide +kernel
theorem dX4_stageAfter_86 : decode cX4_stageAfter 86 = .ok (.goto 4, 3) := by decide +kernel
theorem dX4_stageAfter_89 : decode cX4_stageAfter 89 = .ok (.iconst 4, 1) := by decide +kernel
theorem dX4_stageAfter_90 : decode cX4_stageAfter 90 = .ok (.ireturn, 1) := by decide +kernel
theorem dX4_isLetter_0 : decode cX4_isLetter 0 = .ok (.iload_n 0, 1) := by decide +kernel
theorem dX4_isLetter_1 : decode cX4_isLetter 1 = .ok (.bipush 97, 2) := by decide +kernel
theorem dX4_isLetter_3 : decode cX4_isLetter 3 = .ok (.if_icmp .lt 13, 3) := by decide +kernel
theorem dX4_isLetter_6 : decode cX4_isLetter 6 = .ok (.iload_n 0, 1) := by decide +kernel
theorem dX4_isLetter_7 : decode cX4_isLetter 7 = .ok (.bipush 100, 2) := by decide +kernel
theorem dX4_isLetter_9 : decode cX4_isLetter 9 = .ok (.if_icmp .gt 7, 3) := by decide +kernel
theorem dX4_isLetter_12 : decode cX4_isLetter 12 = .ok (.iconst 1, 1) := by decide +kernel
theorem dX4_isLetter_13 : decode cX4_isLetter 13 = .ok (.goto 4, 3) := by decide +kernel
theorem dX4_isLetter_16 : decode cX4_isLetter 16 = .ok (.iconst 0, 1) := by decide +kernel
theorem dX4_isLetter_17 : decode cX4_isLetter 17 = .ok (.ireturn, 1) := by decide +kernel
theorem dX4_isTimes_0 : decode cX4_isTimes 0 = .ok (.iload_n 0, 1) := by decide +kernel
theorem dX4_isTimes_1 : decode cX4_isTimes 1 = .ok (.bipush 50, 2) := by decide +kernel
theorem dX4_isTimes_3 : decode cX4_isTimes 3 = .ok (.if_icmp .lt 13, 3) := by decide +kernel
theorem dX4_isTimes_6 : decode cX4_isTimes 6 = .ok (.iload_n 0, 1) := by decide +kernel
theorem dX4_isTimes_7 : decode cX4_isTimes 7 = .ok (.bipush 57, 2) := by decide +kernel
theorem dX4_isTimes_9 : decode cX4_isTimes 9 = .ok (.if_icmp .gt 7, 3) := by decide +kernel
theorem dX4_isTimes_12 : decode cX4_isTimes 12 = .ok (.iconst 1, 1) := by decide +kernel
theorem dX4_isTimes_13 : decode cX4_isTimes 13 = .ok (.goto 4, 3) := by decide +kernel
theorem dX4_isTimes_16 : decode cX4_isTimes 16 = .ok (.iconst 0, 1) := by decide +kernel
theorem dX4_isTimes_17 : decode cX4_isTimes 17 = .ok (.ireturn, 1) := by decide +kernel
set_option maxRecDepth 20000 in
theorem ggX5_init_X2_init : GoodIn wsX5_init wsX2_init := goodIn_r _ [25, 26, 2, 3, 27, 28, 29, 30, 31, 53, 54, 55, 56, 57, 58, 59, 60] (by decide +kernel) (by decide +kernel)
set_option maxRecDepth 20000 in
theorem gX5_init_X2_init_n9 : GoodIn wsX5_init (wsX2_init) := ggX5_init_X2_init
set_option maxRecDepth 20000 in
theorem ggX5_init_X1_init : GoodIn wsX5_init wsX1_init := goodIn_r _ [34, 35, 2, 3, 36, 37, 5, 6, 24, 25, 26, 27, 28, 29, 30, 31, 66, 67, 68, 53, 54, 55, 56, 57, 58, 59, 60] (by decide +kernel) (by decide +kernel)
set_option maxRecDepth 20000 in
theorem gX5_init_X1_init : GoodIn wsX5_init (wsX1_init) := ggX5_init_X1_init
set_option maxRecDepth 20000 in
theorem ggX5_init_X4_init : GoodIn wsX5_init wsX4_init := goodIn_r _ [39, 40, 2, 3, 27, 41, 42, 69, 70, 71] (by decide +kernel) (by decide +kernel)
set_option maxRecDepth 20000 in
theorem gX5_init_X4_init_n25 : GoodIn wsX5_init (wsX4_init) := ggX5_init_X4_init
set_option maxRecDepth 20000 in
theorem ggX5_init_X0_init : GoodIn wsX5_init wsX0_init := goodIn_r _ [44, 45, 2, 3, 27, 46, 72, 73] (by decide +kernel) (by decide +kernel)
set_option maxRecDepth 20000 in
theorem gX5_init_X0_init_n32 : GoodIn wsX5_init (wsX0_init) := ggX5_init_X0_init
set_option maxRecDepth 20000 in
theorem ggX5_init_X3_init : GoodIn wsX5_init wsX3_init := goodIn_r _ [48, 49, 2, 3, 27, 50, 51, 52, 74, 75, 76] (by decide +kernel) (by decide +kernel)
set_option maxRecDepth 20000 in
theorem gX5_init_X3_init_n39 : GoodIn wsX5_init (wsX3_init) := ggX5_init_X3_init
theorem dX5_init_0 : decode cX5_init 0 = .ok (.aload_n 0, 1) := by decide +kernel
theorem dX5_init_1 : decode cX5_init 1 = .ok (.invokespecial 1, 3) := by decide +kernel
theorem dX5_init_4 : decode cX5_init 4 = .ok (.aload_n 0, 1) := by decide +kernel
theorem dX5_init_5 : decode cX5_init 5 = .ok (.new 7, 3) := by decide +kernel
theorem dX5_init_8 : decode cX5_init 8 = .ok (.dup, 1) := by decide +kernel
theorem dX5_init_9 : decode cX5_init 9 = .ok (.invokespecial 9, 3) := by decide +kernel
theorem dX5_init_12 : decode cX5_init 12 = .ok (.putfield 10, 3) := by decide +kernel
theorem dX5_init_15 : decode cX5_init 15 = .ok (.aload_n 0, 1) := by decide +kernel
theorem dX5_init_16 : decode cX5_init 16 = .ok (.new 16, 3) := by decide +kernel
theorem dX5_init_19 : decode cX5_init 19 = .ok (.dup, 1) := by decide +kernel
theorem dX5_init_20 : decode cX5_init 20 = .ok (.invokespecial 18, 3) := by decide +kernel
theorem dX5_init_23 : decode cX5_init 23 = .ok (.putfield 19, 3) := by decide +kernel
theorem dX5_init_26 : decode cX5_init 26 = .ok (.aload_n 0, 1) := by decide +kernel
theorem dX5_init_27 : decode cX5_init 27 = .ok (.new 23, 3) := by decide +kernel
theorem dX5_init_30 : decode cX5_init 30 = .ok (.dup, 1) := by decide +kernel
theorem dX5_init_31 : decode cX5_init 31 = .ok (.invokespecial 25, 3) := by decide +kernel
theorem dX5_init_34 : decode cX5_init 34 = .ok (.putfield 26, 3) := by decide +kernel
theorem dX5_init_37 : decode cX5_init 37 = .ok (.aload_n 0, 1) := by decide +kernel
theorem dX5_init_38 : decode cX5_init 38 = .ok (.new 30, 3) := by decide +kernel
theorem dX5_init_41 : decode cX5_init 41 = .ok (.dup, 1) := by decide +kernel
theorem dX5_init_42 : decode cX5_init 42 = .ok (.invokespecial 32, 3) := by decide +kernel
theorem dX5_init_45 : decode cX5_init 45 = .ok (.putfield 33, 3) := by decide +kernel
theorem dX5_init_48 : decode cX5_init 48 = .ok (.aload_n 0, 1) := by decide +kernel
theorem dX5_init_49 : decode cX5_init 49 = .ok (.new 37, 3) := by decide +kernel
theorem dX5_init_52 : decode cX5_init 52 = .ok (.dup, 1) := by decide +kernel
theorem dX5_init_53 : decode cX5_init 53 = .ok (.invokespecial 39, 3) := by decide +kernel
theorem dX5_init_56 : decode cX5_init 56 = .ok (.putfield 40, 3) := by decide +kernel
theorem dX5_init_59 : decode cX5_init 59 = .ok (.return_, 1) := by decide +kernel
set_option maxRecDepth 20000 in
theorem ggX5_put_X5_isSign : GoodIn wsX5_put wsX5_isSign := goodIn_r _ [10, 11, 12, 9, 13] (by decide +kernel) (by decide +kernel)
set_option maxRecDepth 20000 in
theorem gX5_put_X5_isSign : GoodIn wsX5_put (va_wsS RX5 44 yX5_isSign wsX5_isSign) := goodIn_app (goodIn_of _ (by decide +kernel)) ggX5_put_X5_isSign
set_option maxRecDepth 20000 in
theorem ggX5_put_X1_save : GoodIn wsX5_put wsX1_save := goodIn_r _ [18, 19, 20, 21, 22, 23, 24, 25, 26, 27, 17, 28, 29, 30, 31, 32, 33, 34, 35, 36, 37, 38, 39, 40, 41, 42, 43, 9, 44, 45, 46, 47, 48, 49, 69, 70, 71, 61, 62, 63, 64, 65, 66, 67, 68] (by decide +kernel) (by decide +kernel)
set_option maxRecDepth 20000 in
theorem gX5_put_X1_save : GoodIn wsX5_put (wsV RX5 64 RX1 yX1_save wsX1_save) := goodIn_app (goodIn_of _ (by decide +kernel)) ggX5_put_X1_save
set_option maxRecDepth 20000 in
theorem ggX5_put_X2_addSign : GoodIn wsX5_put wsX2_addSign := goodIn_r _ [53, 35, 38, 54, 9, 55, 61, 62, 63, 64, 65, 66, 67, 68] (by decide +kernel) (by decide +kernel)
set_option maxRecDepth 20000 in
theorem gX5_put_X2_addSign : GoodIn wsX5_put (wsV RX5 68 RX2 yX2_addSign wsX2_addSign) := goodIn_app (goodIn_of _ (by decide +kernel)) ggX5_put_X2_addSign
theorem dX5_put_0 : decode cX5_put 0 = .ok (.iload_n 1, 1) := by decide +kernel
theorem dX5_put_1 : decode cX5_put 1 = .ok (.invokestatic 44, 3) := by decide +kernel
theorem dX5_put_4 : decode cX5_put 4 = .ok (.ifCond .ne 13, 3) := by decide +kernel
theorem dX5_put_7 : decode cX5_put 7 = .ok (.new 48, 3) := by decide +kernel
theorem dX5_put_10 : decode cX5_put 10 = .ok (.dup, 1) := by decide +kernel
theorem dX5_put_11 : decode cX5_put 11 = .ok (.ldc 50, 2) := by decide +kernel
theorem dX5_put_13 : decode cX5_put 13 = .ok (.invokespecial 52, 3) := by decide +kernel
theorem dX5_put_16 : decode cX5_put 16 = .ok (.athrow, 1) := by decide +kernel
theorem dX5_put_17 : decode cX5_put 17 = .ok (.aload_n 0, 1) := by decide +kernel
theorem dX5_put_18 : decode cX5_put 18 = .ok (.getfield 10, 3) := by decide +kernel
theorem dX5_put_21 : decode cX5_put 21 = .ok (.getfield 55, 3) := by decide +kernel
theorem dX5_put_24 : decode cX5_put 24 = .ok (.sipush 240, 3) := by decide +kernel
theorem dX5_put_27 : decode cX5_put 27 = .ok (.if_icmp .lt 13, 3) := by decide +kernel
theorem dX5_put_30 : decode cX5_put 30 = .ok (.new 59, 3) := by decide +kernel
theorem dX5_put_33 : decode cX5_put 33 = .ok (.dup, 1) := by decide +kernel
theorem dX5_put_34 : decode cX5_put 34 = .ok (.ldc 61, 2) := by decide +kernel
theorem dX5_put_36 : decode cX5_put 36 = .ok (.invokespecial 63, 3) := by decide +kernel
theorem dX5_put_39 : decode cX5_put 39 = .ok (.athrow, 1) := by decide +kernel
theorem dX5_put_40 : decode cX5_put 40 = .ok (.aload_n 0, 1) := by decide +kernel
theorem dX5_put_41 : decode cX5_put 41 = .ok (.getfield 19, 3) := by decide +kernel
theorem dX5_put_44 : decode cX5_put 44 = .ok (.aload_n 0, 1) := by decide +kernel
theorem dX5_put_45 : decode cX5_put 45 = .ok (.getfield 10, 3) := by decide +kernel
theorem dX5_put_48 : decode cX5_put 48 = .ok (.invokevirtual 64, 3) := by decide +kernel
theorem dX5_put_51 : decode cX5_put 51 = .ok (.aload_n 0, 1) := by decide +kernel
theorem dX5_put_52 : decode cX5_put 52 = .ok (.getfield 10, 3) := by decide +kernel
theorem dX5_put_55 : decode cX5_put 55 = .ok (.iload_n 1, 1) := by decide +kernel
theorem dX5_put_56 : decode cX5_put 56 = .ok (.invokevirtual 68, 3) := by decide +kernel
theorem dX5_put_59 : decode cX5_put 59 = .ok (.aload_n 0, 1) := by decide +kernel
theorem dX5_put_60 : decode cX5_put 60 = .ok (.getfield 10, 3) := by decide +kernel
theorem dX5_put_63 : decode cX5_put 63 = .ok (.getfield 55, 3) := by decide +kernel
theorem dX5_put_66 : decode cX5_put 66 = .ok (.ireturn, 1) := by decide +kernel
set_option maxRecDepth 20000 in
theorem ggX5_change_X2_hasPlace : GoodIn wsX5_change wsX2_hasPlace := goodIn_r _ [11, 12, 69, 70, 71, 72, 73, 74, 75, 76] (by decide +kernel) (by decide +kernel)
set_option maxRecDepth 20000 in
theorem gX5_change_X2_hasPlace : GoodIn wsX5_change (wsV RX5 72 RX2 yX2_hasPlace wsX2_hasPlace) := goodIn_app (goodIn_of _ (by decide +kernel)) ggX5_change_X2_hasPlace
set_option maxRecDepth 20000 in
theorem ggX5_change_X5_isSign : GoodIn wsX5_change wsX5_isSign := goodIn_r _ [16, 17, 18, 15, 19] (by decide +kernel) (by decide +kernel)
set_option maxRecDepth 20000 in
theorem gX5_change_X5_isSign : GoodIn wsX5_change (va_wsS RX5 44 yX5_isSign wsX5_isSign) := goodIn_app (goodIn_of _ (by decide +kernel)) ggX5_change_X5_isSign
set_option maxRecDepth 20000 in
theorem ggX5_change_X1_save : GoodIn wsX5_change wsX1_save := goodIn_r _ [24, 25, 26, 27, 28, 29, 30, 31, 32, 33, 23, 34, 35, 36, 37, 38, 10, 39, 40, 41, 42, 12, 43, 44, 45, 46, 47, 15, 48, 49, 50, 51, 52, 53, 77, 78, 79, 69, 70, 71, 72, 73, 74, 75, 76] (by decide +kernel) (by decide +kernel)
set_option maxRecDepth 20000 in
theorem gX5_change_X1_save : GoodIn wsX5_change (wsV RX5 64 RX1 yX1_save wsX1_save) := goodIn_app (goodIn_of _ (by decide +kernel)) ggX5_change_X1_save
set_option maxRecDepth 20000 in
theorem ggX5_change_X2_signAt : GoodIn wsX5_change wsX2_signAt := goodIn_r _ [57, 12, 40, 69, 70, 71, 72, 73, 74, 75, 76] (by decide +kernel) (by decide +kernel)
set_option maxRecDepth 20000 in
theorem gX5_change_X2_signAt : GoodIn wsX5_change (wsV RX5 80 RX2 yX2_signAt wsX2_signAt) := goodIn_app (goodIn_of _ (by decide +kernel)) ggX5_change_X2_signAt
set_option maxRecDepth 20000 in
theorem ggX5_change_X2_changeSign : GoodIn wsX5_change wsX2_changeSign := goodIn_r _ [61, 40, 62, 15, 63, 69, 70, 71, 72, 73, 74, 75, 76] (by decide +kernel) (by decide +kernel)
set_option maxRecDepth 20000 in
theorem gX5_change_X2_changeSign : GoodIn wsX5_change (wsV RX5 84 RX2 yX2_changeSign wsX2_changeSign) := goodIn_app (goodIn_of _ (by decide +kernel)) ggX5_change_X2_changeSign
theorem dX5_change_0 : decode cX5_change 0 = .ok (.aload_n 0, 1) := by decide +kernel
theorem dX5_change_1 : decode cX5_change 1 = .ok (.getfield 10, 3) := by decide +kernel
theorem dX5_change_4 : decode cX5_change 4 = .ok (.iload_n 1, 1) := by decide +kernel
theorem dX5_change_5 : decode cX5_change 5 = .ok (.invokevirtual 72, 3) := by decide +kernel
theorem dX5_change_8 : decode cX5_change 8 = .ok (.ifCond .ne 13, 3) := by decide +kernel
theorem dX5_change_11 : decode cX5_change 11 = .ok (.new 75, 3) := by decide +kernel
theorem dX5_change_14 : decode cX5_change 14 = .ok (.dup, 1) := by decide +kernel
theorem dX5_change_15 : decode cX5_change 15 = .ok (.ldc 77, 2) := by decide +kernel
theorem dX5_change_17 : decode cX5_change 17 = .ok (.invokespecial 79, 3) := by decide +kernel
theorem dX5_change_20 : decode cX5_change 20 = .ok (.athrow, 1) := by decide +kernel
theorem dX5_change_21 : decode cX5_change 21 = .ok (.iload_n 2, 1) := by decide +kernel
theorem dX5_change_22 : decode cX5_change 22 = .ok (.invokestatic 44, 3) := by decide +kernel
theorem dX5_change_25 : decode cX5_change 25 = .ok (.ifCond .ne 13, 3) := by decide +kernel
theorem dX5_change_28 : decode cX5_change 28 = .ok (.new 48, 3) := by decide +kernel
theorem dX5_change_31 : decode cX5_change 31 = .ok (.dup, 1) := by decide +kernel
theorem dX5_change_32 : decode cX5_change 32 = .ok (.ldc 50, 2) := by decide +kernel
theorem dX5_change_34 : decode cX5_change 34 = .ok (.invokespecial 52, 3) := by decide +kernel
theorem dX5_change_37 : decode cX5_change 37 = .ok (.athrow, 1) := by decide +kernel
theorem dX5_change_38 : decode cX5_change 38 = .ok (.aload_n 0, 1) := by decide +kernel
theorem dX5_change_39 : decode cX5_change 39 = .ok (.getfield 19, 3) := by decide +kernel
theorem dX5_change_42 : decode cX5_change 42 = .ok (.aload_n 0, 1) := by decide +kernel
theorem dX5_change_43 : decode cX5_change 43 = .ok (.getfield 10, 3) := by decide +kernel
theorem dX5_change_46 : decode cX5_change 46 = .ok (.invokevirtual 64, 3) := by decide +kernel
theorem dX5_change_49 : decode cX5_change 49 = .ok (.aload_n 0, 1) := by decide +kernel
theorem dX5_change_50 : decode cX5_change 50 = .ok (.getfield 10, 3) := by decide +kernel
theorem dX5_change_53 : decode cX5_change 53 = .ok (.iload_n 1, 1) := by decide +kernel
theorem dX5_change_54 : decode cX5_change 54 = .ok (.invokevirtual 80, 3) := by decide +kernel
theorem dX5_change_57 : decode cX5_change 57 = .ok (.istore_n 3, 1) := by decide +kernel
theorem dX5_change_58 : decode cX5_change 58 = .ok (.aload_n 0, 1) := by decide +kernel
theorem dX5_change_59 : decode cX5_change 59 = .ok (.getfield 10, 3) := by decide +kernel
theorem dX5_change_62 : decode cX5_change 62 = .ok (.iload_n 1, 1) := by decide +kernel
theorem dX5_change_63 : decode cX5_change 63 = .ok (.iload_n 2, 1) := by decide +kernel
theorem dX5_change_64 : decode cX5_change 64 = .ok (.invokevirtual 84, 3) := by decide +kernel
theorem dX5_change_67 : decode cX5_change 67 = .ok (.iload_n 3, 1) := by decide +kernel
theorem dX5_change_68 : decode cX5_change 68 = .ok (.ireturn, 1) := by decide +kernel
set_option maxRecDepth 20000 in
theorem ggX5_cut_X5_isWithin : GoodIn wsX5_cut wsX5_isWithin := goodIn_r _ [12] (by decide +kernel) (by decide +kernel)
set_option maxRecDepth 20000 in
theorem gX5_cut_X5_isWithin : GoodIn wsX5_cut (va_wsS RX5 88 yX5_isWithin wsX5_isWithin) := goodIn_app (goodIn_of _ (by decide +kernel)) ggX5_cut_X5_isWithin
set_option maxRecDepth 20000 in
theorem ggX5_cut_X1_save : GoodIn wsX5_cut wsX1_save := goodIn_r _ [17, 18, 19, 20, 21, 7, 22, 23, 24, 25, 16, 26, 27, 28, 29, 30, 31, 32, 33, 34, 35, 36, 37, 38, 39, 40, 41, 11, 42, 43, 44, 45, 46, 47, 61, 62, 63, 53, 54, 55, 56, 57, 58, 59, 60] (by decide +kernel) (by decide +kernel)
set_option maxRecDepth 20000 in
theorem gX5_cut_X1_save : GoodIn wsX5_cut (wsV RX5 64 RX1 yX1_save wsX1_save) := goodIn_app (goodIn_of _ (by decide +kernel)) ggX5_cut_X1_save
theorem dX5_cut_0 : decode cX5_cut 0 = .ok (.iload_n 1, 1) := by decide +kernel
theorem dX5_cut_1 : decode cX5_cut 1 = .ok (.iconst 1, 1) := by decide +kernel
theorem dX5_cut_2 : decode cX5_cut 2 = .ok (.sipush 240, 3) := by decide +kernel
theorem dX5_cut_5 : decode cX5_cut 5 = .ok (.invokestatic 88, 3) := by decide +kernel
theorem dX5_cut_8 : decode cX5_cut 8 = .ok (.ifCond .ne 13, 3) := by decide +kernel
theorem dX5_cut_11 : decode cX5_cut 11 = .ok (.new 48, 3) := by decide +kernel
theorem dX5_cut_14 : decode cX5_cut 14 = .ok (.dup, 1) := by decide +kernel
theorem dX5_cut_15 : decode cX5_cut 15 = .ok (.ldc 92, 2) := by decide +kernel
theorem dX5_cut_17 : decode cX5_cut 17 = .ok (.invokespecial 52, 3) := by decide +kernel
theorem dX5_cut_20 : decode cX5_cut 20 = .ok (.athrow, 1) := by decide +kernel
theorem dX5_cut_21 : decode cX5_cut 21 = .ok (.aload_n 0, 1) := by decide +kernel
theorem dX5_cut_22 : decode cX5_cut 22 = .ok (.getfield 19, 3) := by decide +kernel
theorem dX5_cut_25 : decode cX5_cut 25 = .ok (.aload_n 0, 1) := by decide +kernel
theorem dX5_cut_26 : decode cX5_cut 26 = .ok (.getfield 10, 3) := by decide +kernel
theorem dX5_cut_29 : decode cX5_cut 29 = .ok (.invokevirtual 64, 3) := by decide +kernel
theorem dX5_cut_32 : decode cX5_cut 32 = .ok (.aload_n 0, 1) := by decide +kernel
theorem dX5_cut_33 : decode cX5_cut 33 = .ok (.getfield 10, 3) := by decide +kernel
theorem dX5_cut_36 : decode cX5_cut 36 = .ok (.iconst 0, 1) := by decide +kernel
theorem dX5_cut_37 : decode cX5_cut 37 = .ok (.aload_n 0, 1) := by decide +kernel
theorem dX5_cut_38 : decode cX5_cut 38 = .ok (.getfield 10, 3) := by decide +kernel
theorem dX5_cut_41 : decode cX5_cut 41 = .ok (.getfield 55, 3) := by decide +kernel
theorem dX5_cut_44 : decode cX5_cut 44 = .ok (.iload_n 1, 1) := by decide +kernel
theorem dX5_cut_45 : decode cX5_cut 45 = .ok (.isub, 1) := by decide +kernel
theorem dX5_cut_46 : decode cX5_cut 46 = .ok (.invokestatic 94, 3) := by decide +kernel
theorem dX5_cut_49 : decode cX5_cut 49 = .ok (.putfield 55, 3) := by decide +kernel
theorem dX5_cut_52 : decode cX5_cut 52 = .ok (.aload_n 0, 1) := by decide +kernel
theorem dX5_cut_53 : decode cX5_cut 53 = .ok (.getfield 10, 3) := by decide +kernel
theorem dX5_cut_56 : decode cX5_cut 56 = .ok (.getfield 55, 3) := by decide +kernel
theorem dX5_cut_59 : decode cX5_cut 59 = .ok (.ireturn, 1) := by decide +kernel
set_option maxRecDepth 20000 in
theorem ggX5_grow_X5_isTenths : GoodIn wsX5_grow wsX5_isTenths := goodIn_r _ [10, 11, 12, 9, 13] (by decide +kernel) (by decide +kernel)
set_option maxRecDepth 20000 in
theorem gX5_grow_X5_isTenths : GoodIn wsX5_grow (va_wsS RX5 100 yX5_isTenths wsX5_isTenths) := goodIn_app (goodIn_of _ (by decide +kernel)) ggX5_grow_X5_isTenths
set_option maxRecDepth 20000 in
theorem ggX5_grow_X5_isWithin : GoodIn wsX5_grow wsX5_isWithin := goodIn_r _ [13] (by decide +kernel) (by decide +kernel)
set_option maxRecDepth 20000 in
theorem gX5_grow_X5_isWithin : GoodIn wsX5_grow (va_wsS RX5 88 yX5_isWithin wsX5_isWithin) := goodIn_app (goodIn_of _ (by decide +kernel)) ggX5_grow_X5_isWithin
set_option maxRecDepth 20000 in
theorem ggX5_grow_X1_save : GoodIn wsX5_grow wsX1_save := goodIn_r _ [18, 19, 20, 21, 22, 23, 24, 25, 26, 27, 17, 28, 29, 30, 31, 32, 33, 34, 35, 36, 37, 38, 39, 40, 41, 42, 43, 9, 44, 45, 46, 47, 48, 49, 75, 76, 77, 67, 68, 69, 70, 71, 72, 73, 74] (by decide +kernel) (by decide +kernel)
set_option maxRecDepth 20000 in
theorem gX5_grow_X1_save : GoodIn wsX5_grow (wsV RX5 64 RX1 yX1_save wsX1_save) := goodIn_app (goodIn_of _ (by decide +kernel)) ggX5_grow_X1_save
set_option maxRecDepth 20000 in
theorem ggX5_grow_X5_grownSign : GoodIn wsX5_grow wsX5_grownSign := goodIn_r _ [52, 53, 54, 9, 55] (by decide +kernel) (by decide +kernel)
set_option maxRecDepth 20000 in
theorem gX5_grow_X5_grownSign : GoodIn wsX5_grow (va_wsS RX5 107 yX5_grownSign wsX5_grownSign) := goodIn_app (goodIn_of _ (by decide +kernel)) ggX5_grow_X5_grownSign
set_option maxRecDepth 20000 in
theorem ggX5_grow_X2_addSign : GoodIn wsX5_grow wsX2_addSign := goodIn_r _ [59, 35, 38, 60, 9, 61, 67, 68, 69, 70, 71, 72, 73, 74] (by decide +kernel) (by decide +kernel)
set_option maxRecDepth 20000 in
theorem gX5_grow_X2_addSign : GoodIn wsX5_grow (wsV RX5 68 RX2 yX2_addSign wsX2_addSign) := goodIn_app (goodIn_of _ (by decide +kernel)) ggX5_grow_X2_addSign
theorem dX5_grow_0 : decode cX5_grow 0 = .ok (.iload_n 1, 1) := by decide +kernel
theorem dX5_grow_1 : decode cX5_grow 1 = .ok (.invokestatic 100, 3) := by decide +kernel
theorem dX5_grow_4 : decode cX5_grow 4 = .ok (.ifCond .eq 25, 3) := by decide +kernel
theorem dX5_grow_7 : decode cX5_grow 7 = .ok (.iload_n 2, 1) := by decide +kernel
theorem dX5_grow_8 : decode cX5_grow 8 = .ok (.iconst 1, 1) := by decide +kernel
theorem dX5_grow_9 : decode cX5_grow 9 = .ok (.sipush 240, 3) := by decide +kernel
theorem dX5_grow_12 : decode cX5_grow 12 = .ok (.invokestatic 88, 3) := by decide +kernel
theorem dX5_grow_15 : decode cX5_grow 15 = .ok (.ifCond .eq 14, 3) := by decide +kernel
theorem dX5_grow_18 : decode cX5_grow 18 = .ok (.iload_n 3, 1) := by decide +kernel
theorem dX5_grow_19 : decode cX5_grow 19 = .ok (.iconst 0, 1) := by decide +kernel
theorem dX5_grow_20 : decode cX5_grow 20 = .ok (.sipush 240, 3) := by decide +kernel
theorem dX5_grow_23 : decode cX5_grow 23 = .ok (.invokestatic 88, 3) := by decide +kernel
theorem dX5_grow_26 : decode cX5_grow 26 = .ok (.ifCond .ne 13, 3) := by decide +kernel
theorem dX5_grow_29 : decode cX5_grow 29 = .ok (.new 48, 3) := by decide +kernel
theorem dX5_grow_32 : decode cX5_grow 32 = .ok (.dup, 1) := by decide +kernel
theorem dX5_grow_33 : decode cX5_grow 33 = .ok (.ldc 103, 2) := by decide +kernel
theorem dX5_grow_35 : decode cX5_grow 35 = .ok (.invokespecial 52, 3) := by decide +kernel
theorem dX5_grow_38 : decode cX5_grow 38 = .ok (.athrow, 1) := by decide +kernel
theorem dX5_grow_39 : decode cX5_grow 39 = .ok (.aload_n 0, 1) := by decide +kernel
theorem dX5_grow_40 : decode cX5_grow 40 = .ok (.getfield 10, 3) := by decide +kernel
theorem dX5_grow_43 : decode cX5_grow 43 = .ok (.getfield 55, 3) := by decide +kernel
theorem dX5_grow_46 : decode cX5_grow 46 = .ok (.iload_n 2, 1) := by decide +kernel
theorem dX5_grow_47 : decode cX5_grow 47 = .ok (.iadd, 1) := by decide +kernel
theorem dX5_grow_48 : decode cX5_grow 48 = .ok (.sipush 240, 3) := by decide +kernel
theorem dX5_grow_51 : decode cX5_grow 51 = .ok (.if_icmp .le 13, 3) := by decide +kernel
theorem dX5_grow_54 : decode cX5_grow 54 = .ok (.new 59, 3) := by decide +kernel
theorem dX5_grow_57 : decode cX5_grow 57 = .ok (.dup, 1) := by decide +kernel
theorem dX5_grow_58 : decode cX5_grow 58 = .ok (.ldc 105, 2) := by decide +kernel
theorem dX5_grow_60 : decode cX5_grow 60 = .ok (.invokespecial 63, 3) := by decide +kernel
theorem dX5_grow_63 : decode cX5_grow 63 = .ok (.athrow, 1) := by decide +kernel
theorem dX5_grow_64 : decode cX5_grow 64 = .ok (.aload_n 0, 1) := by decide +kernel
theorem dX5_grow_65 : decode cX5_grow 65 = .ok (.getfield 19, 3) := by decide +kernel
theorem dX5_grow_68 : decode cX5_grow 68 = .ok (.aload_n 0, 1) := by decide +kernel
theorem dX5_grow_69 : decode cX5_grow 69 = .ok (.getfield 10, 3) := by decide +kernel
theorem dX5_grow_72 : decode cX5_grow 72 = .ok (.invokevirtual 64, 3) := by decide +kernel
theorem dX5_grow_75 : decode cX5_grow 75 = .ok (.iconst 0, 1) := by decide +kernel
theorem dX5_grow_76 : decode cX5_grow 76 = .ok (.istore 4, 2) := by decide +kernel
theorem dX5_grow_78 : decode cX5_grow 78 = .ok (.iload 4, 2) := by decide +kernel
theorem dX5_grow_80 : decode cX5_grow 80 = .ok (.iload_n 2, 1) := by decide +kernel
theorem dX5_grow_81 : decode cX5_grow 81 = .ok (.if_icmp .ge 28, 3) := by decide +kernel
theorem dX5_grow_84 : decode cX5_grow 84 = .ok (.aload_n 0, 1) := by decide +kernel
theorem dX5_grow_85 : decode cX5_grow 85 = .ok (.getfield 10, 3) := by decide +kernel
theorem dX5_grow_88 : decode cX5_grow 88 = .ok (.aload_n 0, 1) := by decide +kernel
theorem dX5_grow_89 : decode cX5_grow 89 = .ok (.getfield 10, 3) := by decide +kernel
theorem dX5_grow_92 : decode cX5_grow 92 = .ok (.getfield 55, 3) := by decide +kernel
theorem dX5_grow_95 : decode cX5_grow 95 = .ok (.iload_n 1, 1) := by decide +kernel
theorem dX5_grow_96 : decode cX5_grow 96 = .ok (.iload_n 3, 1) := by decide +kernel
theorem dX5_grow_97 : decode cX5_grow 97 = .ok (.invokestatic 107, 3) := by decide +kernel
theorem dX5_grow_100 : decode cX5_grow 100 = .ok (.invokevirtual 68, 3) := by decide +kernel
theorem dX5_grow_103 : decode cX5_grow 103 = .ok (.iinc 4 1, 3) := by decide +kernel
theorem dX5_grow_106 : decode cX5_grow 106 = .ok (.goto (-28), 3) := by decide +kernel
theorem dX5_grow_109 : decode cX5_grow 109 = .ok (.aload_n 0, 1) := by decide +kernel
theorem dX5_grow_110 : decode cX5_grow 110 = .ok (.getfield 10, 3) := by decide +kernel
theorem dX5_grow_113 : decode cX5_grow 113 = .ok (.getfield 55, 3) := by decide +kernel
theorem dX5_grow_116 : decode cX5_grow 116 = .ok (.ireturn, 1) := by decide +kernel
set_option maxRecDepth 20000 in
theorem ggX5_keep_X5_isPeriod : GoodIn wsX5_keep wsX5_isPeriod := goodIn_r _ [10, 11, 12, 9, 13, 14, 15, 16] (by decide +kernel) (by decide +kernel)
set_option maxRecDepth 20000 in
theorem gX5_keep_X5_isPeriod : GoodIn wsX5_keep (va_wsS RX5 111 yX5_isPeriod wsX5_isPeriod) := goodIn_app (goodIn_of _ (by decide +kernel)) ggX5_keep_X5_isPeriod
set_option maxRecDepth 20000 in
theorem ggX5_keep_X5_canKeep : GoodIn wsX5_keep wsX5_canKeep := goodIn_r _ [20, 6, 21, 22, 23, 24, 25, 26, 27, 28, 29, 30, 31, 32, 9, 33, 34, 35, 36, 37, 38, 77, 78, 79, 80, 81, 82, 83, 84, 85, 86, 87, 88, 89] (by decide +kernel) (by decide +kernel)
set_option maxRecDepth 20000 in
theorem gX5_keep_X5_canKeep : GoodIn wsX5_keep (wsV RX5 117 RX5 yX5_canKeep wsX5_canKeep) := goodIn_app (goodIn_of _ (by decide +kernel)) ggX5_keep_X5_canKeep
set_option maxRecDepth 20000 in
theorem ggX5_keep_X1_save : GoodIn wsX5_keep wsX1_save := goodIn_r _ [43, 44, 45, 46, 47, 48, 49, 50, 51, 52, 42, 53, 54, 55, 56, 57, 24, 58, 59, 31, 38, 60, 26, 61, 62, 63, 64, 9, 65, 66, 67, 68, 69, 70, 90, 91, 92, 82, 83, 84, 85, 86, 87, 88, 89] (by decide +kernel) (by decide +kernel)
set_option maxRecDepth 20000 in
theorem gX5_keep_X1_save : GoodIn wsX5_keep (wsV RX5 64 RX1 yX1_save wsX1_save) := goodIn_app (goodIn_of _ (by decide +kernel)) ggX5_keep_X1_save
set_option maxRecDepth 20000 in
theorem ggX5_keep_X2_addPeriod : GoodIn wsX5_keep wsX2_addPeriod := goodIn_r _ [74, 31, 26, 38, 75, 9, 76, 82, 83, 84, 85, 86, 87, 88, 89] (by decide +kernel) (by decide +kernel)
set_option maxRecDepth 20000 in
theorem gX5_keep_X2_addPeriod : GoodIn wsX5_keep (wsV RX5 122 RX2 yX2_addPeriod wsX2_addPeriod) := goodIn_app (goodIn_of _ (by decide +kernel)) ggX5_keep_X2_addPeriod
theorem dX5_keep_0 : decode cX5_keep 0 = .ok (.iload_n 1, 1) := by decide +kernel
theorem dX5_keep_1 : decode cX5_keep 1 = .ok (.iload_n 2, 1) := by decide +kernel
theorem dX5_keep_2 : decode cX5_keep 2 = .ok (.invokestatic 111, 3) := by decide +kernel
theorem dX5_keep_5 : decode cX5_keep 5 = .ok (.ifCond .ne 13, 3) := by decide +kernel
theorem dX5_keep_8 : decode cX5_keep 8 = .ok (.new 48, 3) := by decide +kernel
theorem dX5_keep_11 : decode cX5_keep 11 = .ok (.dup, 1) := by decide +kernel
theorem dX5_keep_12 : decode cX5_keep 12 = .ok (.ldc 115, 2) := by decide +kernel
theorem dX5_keep_14 : decode cX5_keep 14 = .ok (.invokespecial 52, 3) := by decide +kernel
theorem dX5_keep_17 : decode cX5_keep 17 = .ok (.athrow, 1) := by decide +kernel
theorem dX5_keep_18 : decode cX5_keep 18 = .ok (.aload_n 0, 1) := by decide +kernel
theorem dX5_keep_19 : decode cX5_keep 19 = .ok (.iload_n 1, 1) := by decide +kernel
theorem dX5_keep_20 : decode cX5_keep 20 = .ok (.iload_n 2, 1) := by decide +kernel
theorem dX5_keep_21 : decode cX5_keep 21 = .ok (.invokevirtual 117, 3) := by decide +kernel
theorem dX5_keep_24 : decode cX5_keep 24 = .ok (.ifCond .ne 13, 3) := by decide +kernel
theorem dX5_keep_27 : decode cX5_keep 27 = .ok (.new 59, 3) := by decide +kernel
theorem dX5_keep_30 : decode cX5_keep 30 = .ok (.dup, 1) := by decide +kernel
theorem dX5_keep_31 : decode cX5_keep 31 = .ok (.ldc 120, 2) := by decide +kernel
theorem dX5_keep_33 : decode cX5_keep 33 = .ok (.invokespecial 63, 3) := by decide +kernel
theorem dX5_keep_36 : decode cX5_keep 36 = .ok (.athrow, 1) := by decide +kernel
theorem dX5_keep_37 : decode cX5_keep 37 = .ok (.aload_n 0, 1) := by decide +kernel
theorem dX5_keep_38 : decode cX5_keep 38 = .ok (.getfield 19, 3) := by decide +kernel
theorem dX5_keep_41 : decode cX5_keep 41 = .ok (.aload_n 0, 1) := by decide +kernel
theorem dX5_keep_42 : decode cX5_keep 42 = .ok (.getfield 10, 3) := by decide +kernel
theorem dX5_keep_45 : decode cX5_keep 45 = .ok (.invokevirtual 64, 3) := by decide +kernel
theorem dX5_keep_48 : decode cX5_keep 48 = .ok (.aload_n 0, 1) := by decide +kernel
theorem dX5_keep_49 : decode cX5_keep 49 = .ok (.getfield 10, 3) := by decide +kernel
theorem dX5_keep_52 : decode cX5_keep 52 = .ok (.iload_n 1, 1) := by decide +kernel
theorem dX5_keep_53 : decode cX5_keep 53 = .ok (.iload_n 2, 1) := by decide +kernel
theorem dX5_keep_54 : decode cX5_keep 54 = .ok (.invokevirtual 122, 3) := by decide +kernel
theorem dX5_keep_57 : decode cX5_keep 57 = .ok (.aload_n 0, 1) := by decide +kernel
theorem dX5_keep_58 : decode cX5_keep 58 = .ok (.getfield 10, 3) := by decide +kernel
theorem dX5_keep_61 : decode cX5_keep 61 = .ok (.getfield 125, 3) := by decide +kernel
theorem dX5_keep_64 : decode cX5_keep 64 = .ok (.iconst 1, 1) := by decide +kernel
theorem dX5_keep_65 : decode cX5_keep 65 = .ok (.isub, 1) := by decide +kernel
theorem dX5_keep_66 : decode cX5_keep 66 = .ok (.ireturn, 1) := by decide +kernel
set_option maxRecDepth 20000 in
theorem ggX5_drop_X2_hasNumber : GoodIn wsX5_drop wsX2_hasNumber := goodIn_r _ [9, 10, 67, 68, 69, 70, 71, 72, 73, 74] (by decide +kernel) (by decide +kernel)
set_option maxRecDepth 20000 in
theorem gX5_drop_X2_hasNumber : GoodIn wsX5_drop (wsV RX5 128 RX2 yX2_hasNumber wsX2_hasNumber) := goodIn_app (goodIn_of _ (by decide +kernel)) ggX5_drop_X2_hasNumber
set_option maxRecDepth 20000 in
theorem ggX5_drop_X1_save : GoodIn wsX5_drop wsX1_save := goodIn_r _ [15, 16, 17, 18, 19, 20, 21, 22, 23, 24, 14, 25, 26, 27, 28, 29, 8, 30, 31, 32, 33, 34, 10, 35, 36, 37, 38, 39, 40, 41, 42, 43, 44, 45, 75, 76, 77, 67, 68, 69, 70, 71, 72, 73, 74] (by decide +kernel) (by decide +kernel)
set_option maxRecDepth 20000 in
theorem gX5_drop_X1_save : GoodIn wsX5_drop (wsV RX5 64 RX1 yX1_save wsX1_save) := goodIn_app (goodIn_of _ (by decide +kernel)) ggX5_drop_X1_save
set_option maxRecDepth 20000 in
theorem ggX5_drop_X2_removePeriod : GoodIn wsX5_drop wsX2_removePeriod := goodIn_r _ [49, 10, 32, 33, 50, 51, 52, 8, 53, 54, 39, 55, 56, 57, 58, 59, 60, 61, 67, 68, 69, 70, 71, 72, 73, 74] (by decide +kernel) (by decide +kernel)
set_option maxRecDepth 20000 in
theorem gX5_drop_X2_removePeriod : GoodIn wsX5_drop (wsV RX5 133 RX2 yX2_removePeriod wsX2_removePeriod) := goodIn_app (goodIn_of _ (by decide +kernel)) ggX5_drop_X2_removePeriod
theorem dX5_drop_0 : decode cX5_drop 0 = .ok (.aload_n 0, 1) := by decide +kernel
theorem dX5_drop_1 : decode cX5_drop 1 = .ok (.getfield 10, 3) := by decide +kernel
theorem dX5_drop_4 : decode cX5_drop 4 = .ok (.iload_n 1, 1) := by decide +kernel
theorem dX5_drop_5 : decode cX5_drop 5 = .ok (.invokevirtual 128, 3) := by decide +kernel
theorem dX5_drop_8 : decode cX5_drop 8 = .ok (.ifCond .ne 13, 3) := by decide +kernel
theorem dX5_drop_11 : decode cX5_drop 11 = .ok (.new 75, 3) := by decide +kernel
theorem dX5_drop_14 : decode cX5_drop 14 = .ok (.dup, 1) := by decide +kernel
theorem dX5_drop_15 : decode cX5_drop 15 = .ok (.ldc 131, 2) := by decide +kernel
theorem dX5_drop_17 : decode cX5_drop 17 = .ok (.invokespecial 79, 3) := by decide +kernel
theorem dX5_drop_20 : decode cX5_drop 20 = .ok (.athrow, 1) := by decide +kernel
theorem dX5_drop_21 : decode cX5_drop 21 = .ok (.aload_n 0, 1) := by decide +kernel
theorem dX5_drop_22 : decode cX5_drop 22 = .ok (.getfield 19, 3) := by decide +kernel
theorem dX5_drop_25 : decode cX5_drop 25 = .ok (.aload_n 0, 1) := by decide +kernel
theorem dX5_drop_26 : decode cX5_drop 26 = .ok (.getfield 10, 3) := by decide +kernel
theorem dX5_drop_29 : decode cX5_drop 29 = .ok (.invokevirtual 64, 3) := by decide +kernel
theorem dX5_drop_32 : decode cX5_drop 32 = .ok (.aload_n 0, 1) := by decide +kernel
theorem dX5_drop_33 : decode cX5_drop 33 = .ok (.getfield 10, 3) := by decide +kernel
theorem dX5_drop_36 : decode cX5_drop 36 = .ok (.iload_n 1, 1) := by decide +kernel
theorem dX5_drop_37 : decode cX5_drop 37 = .ok (.invokevirtual 133, 3) := by decide +kernel
theorem dX5_drop_40 : decode cX5_drop 40 = .ok (.aload_n 0, 1) := by decide +kernel
theorem dX5_drop_41 : decode cX5_drop 41 = .ok (.getfield 10, 3) := by decide +kernel
theorem dX5_drop_44 : decode cX5_drop 44 = .ok (.getfield 125, 3) := by decide +kernel
theorem dX5_drop_47 : decode cX5_drop 47 = .ok (.ireturn, 1) := by decide +kernel
set_option maxRecDepth 20000 in
theorem ggX5_find_X5_isTenthsRange : GoodIn wsX5_find wsX5_isTenthsRange := goodIn_r _ [10, 11, 12, 9, 13, 14, 15, 16] (by decide +kernel) (by decide +kernel)
set_option maxRecDepth 20000 in
theorem gX5_find_X5_isTenthsRange : GoodIn wsX5_find (va_wsS RX5 136 yX5_isTenthsRange wsX5_isTenthsRange) := goodIn_app (goodIn_of _ (by decide +kernel)) ggX5_find_X5_isTenthsRange
set_option maxRecDepth 20000 in
theorem ggX5_find_X5_bestTenths : GoodIn wsX5_find wsX5_bestTenths := goodIn_r _ [20, 21, 6, 22, 23, 24, 25, 26, 27, 28, 29, 30, 31, 32, 33, 34, 35, 36, 37, 38, 39, 40, 41, 42, 43, 44, 45, 46, 47, 48, 49, 50, 51, 52, 53, 54, 55, 56, 9, 57, 58, 59, 60, 61, 62, 63, 64, 65, 66, 67, 68, 69, 70, 71, 72, 73, 74, 75, 76, 77, 130, 131, 132, 133, 134, 135, 136, 137, 138, 139, 140, 141, 142, 143, 144] (by decide +kernel) (by decide +kernel)
set_option maxRecDepth 20000 in
theorem gX5_find_X5_bestTenths : GoodIn wsX5_find (wsV RX5 141 RX5 yX5_bestTenths wsX5_bestTenths) := goodIn_app (goodIn_of _ (by decide +kernel)) ggX5_find_X5_bestTenths
set_option maxRecDepth 20000 in
theorem ggX5_find_X5_canKeep : GoodIn wsX5_find wsX5_canKeep := goodIn_r _ [81, 6, 82, 83, 84, 30, 85, 86, 87, 88, 89, 90, 91, 92, 9, 93, 94, 95, 96, 97, 98, 130, 131, 132, 133, 134, 135, 136, 137, 138, 139, 140, 141, 142] (by decide +kernel) (by decide +kernel)
set_option maxRecDepth 20000 in
theorem gX5_find_X5_canKeep : GoodIn wsX5_find (wsV RX5 117 RX5 yX5_canKeep wsX5_canKeep) := goodIn_app (goodIn_of _ (by decide +kernel)) ggX5_find_X5_canKeep
set_option maxRecDepth 20000 in
theorem ggX5_find_X1_save : GoodIn wsX5_find wsX1_save := goodIn_r _ [103, 104, 105, 106, 40, 41, 42, 107, 108, 109, 102, 110, 111, 112, 113, 114, 30, 115, 64, 91, 98, 38, 86, 33, 32, 116, 117, 9, 118, 119, 120, 121, 122, 123, 145, 146, 147, 135, 136, 137, 138, 139, 140, 141, 142] (by decide +kernel) (by decide +kernel)
set_option maxRecDepth 20000 in
theorem gX5_find_X1_save : GoodIn wsX5_find (wsV RX5 64 RX1 yX1_save wsX1_save) := goodIn_app (goodIn_of _ (by decide +kernel)) ggX5_find_X1_save
set_option maxRecDepth 20000 in
theorem ggX5_find_X2_addPeriod : GoodIn wsX5_find wsX2_addPeriod := goodIn_r _ [127, 91, 86, 98, 128, 9, 129, 135, 136, 137, 138, 139, 140, 141, 142] (by decide +kernel) (by decide +kernel)
set_option maxRecDepth 20000 in
theorem gX5_find_X2_addPeriod : GoodIn wsX5_find (wsV RX5 122 RX2 yX2_addPeriod wsX2_addPeriod) := goodIn_app (goodIn_of _ (by decide +kernel)) ggX5_find_X2_addPeriod
theorem dX5_find_0 : decode cX5_find 0 = .ok (.iload_n 1, 1) := by decide +kernel
theorem dX5_find_1 : decode cX5_find 1 = .ok (.iload_n 2, 1) := by decide +kernel
theorem dX5_find_2 : decode cX5_find 2 = .ok (.invokestatic 136, 3) := by decide +kernel
theorem dX5_find_5 : decode cX5_find 5 = .ok (.ifCond .ne 13, 3) := by decide +kernel
theorem dX5_find_8 : decode cX5_find 8 = .ok (.new 48, 3) := by decide +kernel
theorem dX5_find_11 : decode cX5_find 11 = .ok (.dup, 1) := by decide +kernel
theorem dX5_find_12 : decode cX5_find 12 = .ok (.ldc 139, 2) := by decide +kernel
theorem dX5_find_14 : decode cX5_find 14 = .ok (.invokespecial 52, 3) := by decide +kernel
theorem dX5_find_17 : decode cX5_find 17 = .ok (.athrow, 1) := by decide +kernel
theorem dX5_find_18 : decode cX5_find 18 = .ok (.aload_n 0, 1) := by decide +kernel
theorem dX5_find_19 : decode cX5_find 19 = .ok (.iload_n 1, 1) := by decide +kernel
theorem dX5_find_20 : decode cX5_find 20 = .ok (.iload_n 2, 1) := by decide +kernel
theorem dX5_find_21 : decode cX5_find 21 = .ok (.invokevirtual 141, 3) := by decide +kernel
theorem dX5_find_24 : decode cX5_find 24 = .ok (.istore_n 3, 1) := by decide +kernel
theorem dX5_find_25 : decode cX5_find 25 = .ok (.aload_n 0, 1) := by decide +kernel
theorem dX5_find_26 : decode cX5_find 26 = .ok (.iload_n 3, 1) := by decide +kernel
theorem dX5_find_27 : decode cX5_find 27 = .ok (.iconst 0, 1) := by decide +kernel
theorem dX5_find_28 : decode cX5_find 28 = .ok (.invokevirtual 117, 3) := by decide +kernel
theorem dX5_find_31 : decode cX5_find 31 = .ok (.ifCond .ne 13, 3) := by decide +kernel
theorem dX5_find_34 : decode cX5_find 34 = .ok (.new 59, 3) := by decide +kernel
theorem dX5_find_37 : decode cX5_find 37 = .ok (.dup, 1) := by decide +kernel
theorem dX5_find_38 : decode cX5_find 38 = .ok (.ldc 144, 2) := by decide +kernel
theorem dX5_find_40 : decode cX5_find 40 = .ok (.invokespecial 63, 3) := by decide +kernel
theorem dX5_find_43 : decode cX5_find 43 = .ok (.athrow, 1) := by decide +kernel
theorem dX5_find_44 : decode cX5_find 44 = .ok (.aload_n 0, 1) := by decide +kernel
theorem dX5_find_45 : decode cX5_find 45 = .ok (.getfield 19, 3) := by decide +kernel
theorem dX5_find_48 : decode cX5_find 48 = .ok (.aload_n 0, 1) := by decide +kernel
theorem dX5_find_49 : decode cX5_find 49 = .ok (.getfield 10, 3) := by decide +kernel
theorem dX5_find_52 : decode cX5_find 52 = .ok (.invokevirtual 64, 3) := by decide +kernel
theorem dX5_find_55 : decode cX5_find 55 = .ok (.aload_n 0, 1) := by decide +kernel
theorem dX5_find_56 : decode cX5_find 56 = .ok (.getfield 10, 3) := by decide +kernel
theorem dX5_find_59 : decode cX5_find 59 = .ok (.iload_n 3, 1) := by decide +kernel
theorem dX5_find_60 : decode cX5_find 60 = .ok (.iconst 0, 1) := by decide +kernel
theorem dX5_find_61 : decode cX5_find 61 = .ok (.invokevirtual 122, 3) := by decide +kernel
theorem dX5_find_64 : decode cX5_find 64 = .ok (.iload_n 3, 1) := by decide +kernel
theorem dX5_find_65 : decode cX5_find 65 = .ok (.ireturn, 1) := by decide +kernel
set_option maxRecDepth 20000 in
theorem ggX5_mend_X1_save : GoodIn wsX5_mend wsX1_save := goodIn_r _ [9, 10, 11, 12, 13, 14, 15, 16, 17, 18, 8, 19, 20, 21, 22, 23, 24, 25, 26, 27, 28, 29, 30, 31, 32, 33, 34, 35, 36, 37, 38, 39, 40, 41, 159, 160, 161, 162, 163, 164, 165, 166, 167, 168, 169] (by decide +kernel) (by decide +kernel)
set_option maxRecDepth 20000 in
theorem gX5_mend_X1_save : GoodIn wsX5_mend (wsV RX5 64 RX1 yX1_save wsX1_save) := goodIn_app (goodIn_of _ (by decide +kernel)) ggX5_mend_X1_save
set_option maxRecDepth 20000 in
theorem ggX5_mend_X3_read : GoodIn wsX5_mend wsX3_read := goodIn_r _ [46, 47, 48, 49, 50, 51, 52, 53, 54, 55, 45, 56, 57, 58, 59, 60, 61, 62, 63, 64, 65, 24, 66, 27, 67, 35, 68, 69, 70, 71, 72, 28, 73, 74, 75, 76, 77, 78, 79, 80, 32, 31, 81, 82, 83, 84, 29, 85, 13, 14, 15, 86, 87, 88, 89, 90, 91, 92, 93, 94, 95, 96, 97, 98, 99, 100, 101, 102, 103, 26, 104, 105, 106, 107, 108, 109, 110, 111, 112, 113, 114, 115, 116, 117, 118, 119, 120, 121, 122, 123, 124, 125, 126, 127, 128, 129, 130, 131, 132, 133, 134, 135, 136, 137, 138, 139, 140, 141, 142, 170, 171, 172, 162, 163, 164, 165, 166, 167, 168, 169, 173, 174] (by decide +kernel) (by decide +kernel)
set_option maxRecDepth 20000 in
theorem gX5_mend_X3_read : GoodIn wsX5_mend (wsV RX5 146 RX3 yX3_read wsX3_read) := goodIn_app (goodIn_of _ (by decide +kernel)) ggX5_mend_X3_read
set_option maxRecDepth 20000 in
theorem ggX5_mend_X2_windowEnd : GoodIn wsX5_mend wsX2_windowEnd := goodIn_r _ [135, 136, 78, 79, 24, 80, 32, 31, 137, 82, 83, 84, 29, 85, 13, 14, 15, 86, 87, 88, 162, 163, 164, 165, 166, 167, 168, 169] (by decide +kernel) (by decide +kernel)
set_option maxRecDepth 20000 in
theorem gX5_mend_X2_windowEnd : GoodIn wsX5_mend (wsV RX5 150 RX2 yX2_windowEnd wsX2_windowEnd) := goodIn_app (goodIn_of _ (by decide +kernel)) ggX5_mend_X2_windowEnd
set_option maxRecDepth 20000 in
theorem ggX5_mend_X2_windowStart : GoodIn wsX5_mend wsX2_windowStart := goodIn_r _ [80, 32, 31, 162, 163, 164, 165, 166, 167, 168, 169] (by decide +kernel) (by decide +kernel)
set_option maxRecDepth 20000 in
theorem gX5_mend_X2_windowStart : GoodIn wsX5_mend (wsV RX5 154 RX2 yX2_windowStart wsX2_windowStart) := goodIn_app (goodIn_of _ (by decide +kernel)) ggX5_mend_X2_windowStart
set_option maxRecDepth 20000 in
theorem ggX5_mend_X3_signAt : GoodIn wsX5_mend wsX3_signAt := goodIn_r _ [148, 48, 67, 35, 68, 170, 171, 172] (by decide +kernel) (by decide +kernel)
set_option maxRecDepth 20000 in
theorem gX5_mend_X3_signAt : GoodIn wsX5_mend (wsV RX5 157 RX3 yX3_signAt wsX3_signAt) := goodIn_app (goodIn_of _ (by decide +kernel)) ggX5_mend_X3_signAt
set_option maxRecDepth 20000 in
theorem ggX5_mend_X2_signAt : GoodIn wsX5_mend wsX2_signAt := goodIn_r _ [103, 29, 26, 162, 163, 164, 165, 166, 167, 168, 169] (by decide +kernel) (by decide +kernel)
set_option maxRecDepth 20000 in
theorem gX5_mend_X2_signAt : GoodIn wsX5_mend (wsV RX5 80 RX2 yX2_signAt wsX2_signAt) := goodIn_app (goodIn_of _ (by decide +kernel)) ggX5_mend_X2_signAt
set_option maxRecDepth 20000 in
theorem ggX5_mend_X2_changeSign : GoodIn wsX5_mend wsX2_changeSign := goodIn_r _ [153, 26, 124, 35, 125, 162, 163, 164, 165, 166, 167, 168, 169] (by decide +kernel) (by decide +kernel)
set_option maxRecDepth 20000 in
theorem gX5_mend_X2_changeSign : GoodIn wsX5_mend (wsV RX5 84 RX2 yX2_changeSign wsX2_changeSign) := goodIn_app (goodIn_of _ (by decide +kernel)) ggX5_mend_X2_changeSign
theorem dX5_mend_0 : decode cX5_mend 0 = .ok (.aload_n 0, 1) := by decide +kernel
theorem dX5_mend_1 : decode cX5_mend 1 = .ok (.getfield 19, 3) := by decide +kernel
theorem dX5_mend_4 : decode cX5_mend 4 = .ok (.aload_n 0, 1) := by decide +kernel
theorem dX5_mend_5 : decode cX5_mend 5 = .ok (.getfield 10, 3) := by decide +kernel
theorem dX5_mend_8 : decode cX5_mend 8 = .ok (.invokevirtual 64, 3) := by decide +kernel
theorem dX5_mend_11 : decode cX5_mend 11 = .ok (.aload_n 0, 1) := by decide +kernel
theorem dX5_mend_12 : decode cX5_mend 12 = .ok (.getfield 40, 3) := by decide +kernel
theorem dX5_mend_15 : decode cX5_mend 15 = .ok (.aload_n 0, 1) := by decide +kernel
theorem dX5_mend_16 : decode cX5_mend 16 = .ok (.getfield 10, 3) := by decide +kernel
theorem dX5_mend_19 : decode cX5_mend 19 = .ok (.aload_n 0, 1) := by decide +kernel
theorem dX5_mend_20 : decode cX5_mend 20 = .ok (.getfield 33, 3) := by decide +kernel
theorem dX5_mend_23 : decode cX5_mend 23 = .ok (.invokevirtual 146, 3) := by decide +kernel
theorem dX5_mend_26 : decode cX5_mend 26 = .ok (.aload_n 0, 1) := by decide +kernel
theorem dX5_mend_27 : decode cX5_mend 27 = .ok (.getfield 10, 3) := by decide +kernel
theorem dX5_mend_30 : decode cX5_mend 30 = .ok (.invokevirtual 150, 3) := by decide +kernel
theorem dX5_mend_33 : decode cX5_mend 33 = .ok (.istore_n 1, 1) := by decide +kernel
theorem dX5_mend_34 : decode cX5_mend 34 = .ok (.iconst 0, 1) := by decide +kernel
theorem dX5_mend_35 : decode cX5_mend 35 = .ok (.istore_n 2, 1) := by decide +kernel
theorem dX5_mend_36 : decode cX5_mend 36 = .ok (.aload_n 0, 1) := by decide +kernel
theorem dX5_mend_37 : decode cX5_mend 37 = .ok (.getfield 10, 3) := by decide +kernel
theorem dX5_mend_40 : decode cX5_mend 40 = .ok (.invokevirtual 154, 3) := by decide +kernel
theorem dX5_mend_43 : decode cX5_mend 43 = .ok (.istore_n 3, 1) := by decide +kernel
theorem dX5_mend_44 : decode cX5_mend 44 = .ok (.iload_n 3, 1) := by decide +kernel
theorem dX5_mend_45 : decode cX5_mend 45 = .ok (.iload_n 1, 1) := by decide +kernel
theorem dX5_mend_46 : decode cX5_mend 46 = .ok (.if_icmp .ge 51, 3) := by decide +kernel
theorem dX5_mend_49 : decode cX5_mend 49 = .ok (.aload_n 0, 1) := by decide +kernel
theorem dX5_mend_50 : decode cX5_mend 50 = .ok (.getfield 40, 3) := by decide +kernel
theorem dX5_mend_53 : decode cX5_mend 53 = .ok (.iload_n 3, 1) := by decide +kernel
theorem dX5_mend_54 : decode cX5_mend 54 = .ok (.invokevirtual 157, 3) := by decide +kernel
theorem dX5_mend_57 : decode cX5_mend 57 = .ok (.istore 4, 2) := by decide +kernel
theorem dX5_mend_59 : decode cX5_mend 59 = .ok (.iload 4, 2) := by decide +kernel
theorem dX5_mend_61 : decode cX5_mend 61 = .ok (.iconst (-1), 1) := by decide +kernel
theorem dX5_mend_62 : decode cX5_mend 62 = .ok (.if_icmp .eq 29, 3) := by decide +kernel
theorem dX5_mend_65 : decode cX5_mend 65 = .ok (.iload 4, 2) := by decide +kernel
theorem dX5_mend_67 : decode cX5_mend 67 = .ok (.aload_n 0, 1) := by decide +kernel
theorem dX5_mend_68 : decode cX5_mend 68 = .ok (.getfield 10, 3) := by decide +kernel
theorem dX5_mend_71 : decode cX5_mend 71 = .ok (.iload_n 3, 1) := by decide +kernel
theorem dX5_mend_72 : decode cX5_mend 72 = .ok (.invokevirtual 80, 3) := by decide +kernel
theorem dX5_mend_75 : decode cX5_mend 75 = .ok (.if_icmp .eq 16, 3) := by decide +kernel
theorem dX5_mend_78 : decode cX5_mend 78 = .ok (.aload_n 0, 1) := by decide +kernel
theorem dX5_mend_79 : decode cX5_mend 79 = .ok (.getfield 10, 3) := by decide +kernel
theorem dX5_mend_82 : decode cX5_mend 82 = .ok (.iload_n 3, 1) := by decide +kernel
theorem dX5_mend_83 : decode cX5_mend 83 = .ok (.iload 4, 2) := by decide +kernel
theorem dX5_mend_85 : decode cX5_mend 85 = .ok (.invokevirtual 84, 3) := by decide +kernel
theorem dX5_mend_88 : decode cX5_mend 88 = .ok (.iinc 2 1, 3) := by decide +kernel
theorem dX5_mend_91 : decode cX5_mend 91 = .ok (.iinc 3 1, 3) := by decide +kernel
theorem dX5_mend_94 : decode cX5_mend 94 = .ok (.goto (-50), 3) := by decide +kernel
theorem dX5_mend_97 : decode cX5_mend 97 = .ok (.iload_n 2, 1) := by decide +kernel
theorem dX5_mend_98 : decode cX5_mend 98 = .ok (.ireturn, 1) := by decide +kernel
set_option maxRecDepth 20000 in
theorem ggX5_set_X5_isWithin : GoodIn wsX5_set wsX5_isWithin := goodIn_r _ [10] (by decide +kernel) (by decide +kernel)
set_option maxRecDepth 20000 in
theorem gX5_set_X5_isWithin : GoodIn wsX5_set (va_wsS RX5 88 yX5_isWithin wsX5_isWithin) := goodIn_app (goodIn_of _ (by decide +kernel)) ggX5_set_X5_isWithin
set_option maxRecDepth 20000 in
theorem ggX5_set_X5_isValueOf : GoodIn wsX5_set wsX5_isValueOf := goodIn_r _ [13, 7, 8, 9, 10] (by decide +kernel) (by decide +kernel)
set_option maxRecDepth 20000 in
theorem gX5_set_X5_isValueOf : GoodIn wsX5_set (va_wsS RX5 160 yX5_isValueOf wsX5_isValueOf) := goodIn_app (goodIn_of _ (by decide +kernel)) ggX5_set_X5_isValueOf
set_option maxRecDepth 20000 in
theorem ggX5_set_X1_save : GoodIn wsX5_set wsX1_save := goodIn_r _ [18, 19, 20, 21, 22, 23, 24, 25, 26, 27, 17, 28, 29, 30, 31, 32, 33, 34, 35, 36, 37, 38, 39, 40, 41, 42, 43, 9, 44, 45, 46, 47, 48, 49, 63, 64, 65, 66, 67, 68, 69, 70, 71, 72, 73] (by decide +kernel) (by decide +kernel)
set_option maxRecDepth 20000 in
theorem gX5_set_X1_save : GoodIn wsX5_set (wsV RX5 64 RX1 yX1_save wsX1_save) := goodIn_app (goodIn_of _ (by decide +kernel)) ggX5_set_X1_save
set_option maxRecDepth 20000 in
theorem ggX5_set_X2_settingAt : GoodIn wsX5_set wsX2_settingAt := goodIn_r _ [53, 40, 41, 42, 66, 67, 68, 69, 70, 71, 72, 73] (by decide +kernel) (by decide +kernel)
set_option maxRecDepth 20000 in
theorem gX5_set_X2_settingAt : GoodIn wsX5_set (wsV RX5 165 RX2 yX2_settingAt wsX2_settingAt) := goodIn_app (goodIn_of _ (by decide +kernel)) ggX5_set_X2_settingAt
set_option maxRecDepth 20000 in
theorem ggX5_set_X2_changeSetting : GoodIn wsX5_set wsX2_changeSetting := goodIn_r _ [57, 40, 41, 42, 66, 67, 68, 69, 70, 71, 72, 73] (by decide +kernel) (by decide +kernel)
set_option maxRecDepth 20000 in
theorem gX5_set_X2_changeSetting : GoodIn wsX5_set (wsV RX5 168 RX2 yX2_changeSetting wsX2_changeSetting) := goodIn_app (goodIn_of _ (by decide +kernel)) ggX5_set_X2_changeSetting
theorem dX5_set_0 : decode cX5_set 0 = .ok (.iload_n 1, 1) := by decide +kernel
theorem dX5_set_1 : decode cX5_set 1 = .ok (.iconst 0, 1) := by decide +kernel
theorem dX5_set_2 : decode cX5_set 2 = .ok (.iconst 2, 1) := by decide +kernel
theorem dX5_set_3 : decode cX5_set 3 = .ok (.invokestatic 88, 3) := by decide +kernel
theorem dX5_set_6 : decode cX5_set 6 = .ok (.ifCond .ne 13, 3) := by decide +kernel
theorem dX5_set_9 : decode cX5_set 9 = .ok (.new 75, 3) := by decide +kernel
theorem dX5_set_12 : decode cX5_set 12 = .ok (.dup, 1) := by decide +kernel
theorem dX5_set_13 : decode cX5_set 13 = .ok (.ldc 158, 2) := by decide +kernel
theorem dX5_set_15 : decode cX5_set 15 = .ok (.invokespecial 79, 3) := by decide +kernel
theorem dX5_set_18 : decode cX5_set 18 = .ok (.athrow, 1) := by decide +kernel
theorem dX5_set_19 : decode cX5_set 19 = .ok (.iload_n 1, 1) := by decide +kernel
theorem dX5_set_20 : decode cX5_set 20 = .ok (.iload_n 2, 1) := by decide +kernel
theorem dX5_set_21 : decode cX5_set 21 = .ok (.invokestatic 160, 3) := by decide +kernel
theorem dX5_set_24 : decode cX5_set 24 = .ok (.ifCond .ne 13, 3) := by decide +kernel
theorem dX5_set_27 : decode cX5_set 27 = .ok (.new 48, 3) := by decide +kernel
theorem dX5_set_30 : decode cX5_set 30 = .ok (.dup, 1) := by decide +kernel
theorem dX5_set_31 : decode cX5_set 31 = .ok (.ldc 163, 2) := by decide +kernel
theorem dX5_set_33 : decode cX5_set 33 = .ok (.invokespecial 52, 3) := by decide +kernel
theorem dX5_set_36 : decode cX5_set 36 = .ok (.athrow, 1) := by decide +kernel
theorem dX5_set_37 : decode cX5_set 37 = .ok (.aload_n 0, 1) := by decide +kernel
theorem dX5_set_38 : decode cX5_set 38 = .ok (.getfield 19, 3) := by decide +kernel
theorem dX5_set_41 : decode cX5_set 41 = .ok (.aload_n 0, 1) := by decide +kernel
theorem dX5_set_42 : decode cX5_set 42 = .ok (.getfield 10, 3) := by decide +kernel
theorem dX5_set_45 : decode cX5_set 45 = .ok (.invokevirtual 64, 3) := by decide +kernel
theorem dX5_set_48 : decode cX5_set 48 = .ok (.aload_n 0, 1) := by decide +kernel
theorem dX5_set_49 : decode cX5_set 49 = .ok (.getfield 10, 3) := by decide +kernel
theorem dX5_set_52 : decode cX5_set 52 = .ok (.iload_n 1, 1) := by decide +kernel
theorem dX5_set_53 : decode cX5_set 53 = .ok (.invokevirtual 165, 3) := by decide +kernel
theorem dX5_set_56 : decode cX5_set 56 = .ok (.istore_n 3, 1) := by decide +kernel
theorem dX5_set_57 : decode cX5_set 57 = .ok (.aload_n 0, 1) := by decide +kernel
theorem dX5_set_58 : decode cX5_set 58 = .ok (.getfield 10, 3) := by decide +kernel
theorem dX5_set_61 : decode cX5_set 61 = .ok (.iload_n 1, 1) := by decide +kernel
theorem dX5_set_62 : decode cX5_set 62 = .ok (.iload_n 2, 1) := by decide +kernel
theorem dX5_set_63 : decode cX5_set 63 = .ok (.invokevirtual 168, 3) := by decide +kernel
theorem dX5_set_66 : decode cX5_set 66 = .ok (.iload_n 3, 1) := by decide +kernel
theorem dX5_set_67 : decode cX5_set 67 = .ok (.ireturn, 1) := by decide +kernel
set_option maxRecDepth 20000 in
theorem ggX5_append_X5_isWithin : GoodIn wsX5_append wsX5_isWithin := goodIn_r _ [9] (by decide +kernel) (by decide +kernel)
set_option maxRecDepth 20000 in
theorem gX5_append_X5_isWithin : GoodIn wsX5_append (va_wsS RX5 88 yX5_isWithin wsX5_isWithin) := goodIn_app (goodIn_of _ (by decide +kernel)) ggX5_append_X5_isWithin
set_option maxRecDepth 20000 in
theorem ggX5_append_X4_add : GoodIn wsX5_append wsX4_add := goodIn_r _ [14, 15, 16, 17, 8, 18, 24, 25, 26] (by decide +kernel) (by decide +kernel)
set_option maxRecDepth 20000 in
theorem gX5_append_X4_add : GoodIn wsX5_append (wsV RX5 176 RX4 yX4_add wsX4_add) := goodIn_app (goodIn_of _ (by decide +kernel)) ggX5_append_X4_add
theorem dX5_append_0 : decode cX5_append 0 = .ok (.iload_n 1, 1) := by decide +kernel
theorem dX5_append_1 : decode cX5_append 1 = .ok (.bipush 33, 2) := by decide +kernel
theorem dX5_append_3 : decode cX5_append 3 = .ok (.bipush 126, 2) := by decide +kernel
theorem dX5_append_5 : decode cX5_append 5 = .ok (.invokestatic 88, 3) := by decide +kernel
theorem dX5_append_8 : decode cX5_append 8 = .ok (.ifCond .ne 13, 3) := by decide +kernel
theorem dX5_append_11 : decode cX5_append 11 = .ok (.new 48, 3) := by decide +kernel
theorem dX5_append_14 : decode cX5_append 14 = .ok (.dup, 1) := by decide +kernel
theorem dX5_append_15 : decode cX5_append 15 = .ok (.ldc 171, 2) := by decide +kernel
theorem dX5_append_17 : decode cX5_append 17 = .ok (.invokespecial 52, 3) := by decide +kernel
theorem dX5_append_20 : decode cX5_append 20 = .ok (.athrow, 1) := by decide +kernel
theorem dX5_append_21 : decode cX5_append 21 = .ok (.aload_n 0, 1) := by decide +kernel
theorem dX5_append_22 : decode cX5_append 22 = .ok (.getfield 26, 3) := by decide +kernel
theorem dX5_append_25 : decode cX5_append 25 = .ok (.getfield 173, 3) := by decide +kernel
theorem dX5_append_28 : decode cX5_append 28 = .ok (.bipush 60, 2) := by decide +kernel
theorem dX5_append_30 : decode cX5_append 30 = .ok (.if_icmp .lt 13, 3) := by decide +kernel
theorem dX5_append_33 : decode cX5_append 33 = .ok (.new 59, 3) := by decide +kernel
theorem dX5_append_36 : decode cX5_append 36 = .ok (.dup, 1) := by decide +kernel
theorem dX5_append_37 : decode cX5_append 37 = .ok (.ldc 174, 2) := by decide +kernel
theorem dX5_append_39 : decode cX5_append 39 = .ok (.invokespecial 63, 3) := by decide +kernel
theorem dX5_append_42 : decode cX5_append 42 = .ok (.athrow, 1) := by decide +kernel
theorem dX5_append_43 : decode cX5_append 43 = .ok (.aload_n 0, 1) := by decide +kernel
theorem dX5_append_44 : decode cX5_append 44 = .ok (.getfield 26, 3) := by decide +kernel
theorem dX5_append_47 : decode cX5_append 47 = .ok (.iload_n 1, 1) := by decide +kernel
theorem dX5_append_48 : decode cX5_append 48 = .ok (.invokevirtual 176, 3) := by decide +kernel
theorem dX5_append_51 : decode cX5_append 51 = .ok (.aload_n 0, 1) := by decide +kernel
theorem dX5_append_52 : decode cX5_append 52 = .ok (.getfield 26, 3) := by decide +kernel
theorem dX5_append_55 : decode cX5_append 55 = .ok (.getfield 173, 3) := by decide +kernel
theorem dX5_append_58 : decode cX5_append 58 = .ok (.ireturn, 1) := by decide +kernel
theorem dX5_clearBuffer_0 : decode cX5_clearBuffer 0 = .ok (.aload_n 0, 1) := by decide +kernel
theorem dX5_clearBuffer_1 : decode cX5_clearBuffer 1 = .ok (.getfield 26, 3) := by decide +kernel
theorem dX5_clearBuffer_4 : decode cX5_clearBuffer 4 = .ok (.getfield 173, 3) := by decide +kernel
theorem dX5_clearBuffer_7 : decode cX5_clearBuffer 7 = .ok (.istore_n 1, 1) := by decide +kernel
theorem dX5_clearBuffer_8 : decode cX5_clearBuffer 8 = .ok (.aload_n 0, 1) := by decide +kernel
theorem dX5_clearBuffer_9 : decode cX5_clearBuffer 9 = .ok (.getfield 26, 3) := by decide +kernel
theorem dX5_clearBuffer_12 : decode cX5_clearBuffer 12 = .ok (.iconst 0, 1) := by decide +kernel
theorem dX5_clearBuffer_13 : decode cX5_clearBuffer 13 = .ok (.putfield 173, 3) := by decide +kernel
theorem dX5_clearBuffer_16 : decode cX5_clearBuffer 16 = .ok (.iload_n 1, 1) := by decide +kernel
theorem dX5_clearBuffer_17 : decode cX5_clearBuffer 17 = .ok (.ireturn, 1) := by decide +kernel
set_option maxRecDepth 20000 in
theorem ggX5_firstError_X4_errorIndex : GoodIn wsX5_firstError wsX4_errorIndex := goodIn_r _ [6, 7, 8, 9, 10, 5, 11, 12, 13, 14, 15, 16, 17, 18, 19, 20, 21, 22, 23, 24, 30, 31, 32] (by decide +kernel) (by decide +kernel)
set_option maxRecDepth 20000 in
theorem gX5_firstError_X4_errorIndex : GoodIn wsX5_firstError (wsV RX5 179 RX4 yX4_errorIndex wsX4_errorIndex) := goodIn_app (goodIn_of _ (by decide +kernel)) ggX5_firstError_X4_errorIndex
theorem dX5_firstError_0 : decode cX5_firstError 0 = .ok (.aload_n 0, 1) := by decide +kernel
theorem dX5_firstError_1 : decode cX5_firstError 1 = .ok (.getfield 26, 3) := by decide +kernel
theorem dX5_firstError_4 : decode cX5_firstError 4 = .ok (.invokevirtual 179, 3) := by decide +kernel
theorem dX5_firstError_7 : decode cX5_firstError 7 = .ok (.ireturn, 1) := by decide +kernel
set_option maxRecDepth 20000 in
theorem ggX5_putAll_X4_isComplete : GoodIn wsX5_putAll wsX4_isComplete := goodIn_r _ [12, 13, 14, 15, 16, 11, 17, 18, 19, 20, 21, 22, 23, 24, 25, 26, 27, 28, 29, 30, 100, 101, 102] (by decide +kernel) (by decide +kernel)
set_option maxRecDepth 20000 in
theorem gX5_putAll_X4_isComplete : GoodIn wsX5_putAll (wsV RX5 182 RX4 yX4_isComplete wsX4_isComplete) := goodIn_app (goodIn_of _ (by decide +kernel)) ggX5_putAll_X4_isComplete
set_option maxRecDepth 20000 in
theorem ggX5_putAll_X4_unfold : GoodIn wsX5_putAll wsX4_unfold := goodIn_r _ [34, 13, 35, 14, 15, 16, 11, 17, 18, 19, 20, 21, 25, 26, 27, 36, 37, 28, 29, 30, 38, 39, 40, 41, 42, 43, 44, 45, 100, 101, 102] (by decide +kernel) (by decide +kernel)
set_option maxRecDepth 20000 in
theorem gX5_putAll_X4_unfold : GoodIn wsX5_putAll (wsV RX5 188 RX4 yX4_unfold wsX4_unfold) := goodIn_app (goodIn_of _ (by decide +kernel)) ggX5_putAll_X4_unfold
set_option maxRecDepth 20000 in
theorem ggX5_putAll_X1_save : GoodIn wsX5_putAll wsX1_save := goodIn_r _ [50, 51, 52, 53, 54, 55, 56, 57, 58, 59, 49, 60, 61, 62, 63, 64, 65, 66, 67, 68, 69, 70, 71, 72, 73, 74, 75, 20, 76, 77, 78, 79, 80, 81, 103, 104, 105, 92, 93, 94, 95, 96, 97, 98, 99] (by decide +kernel) (by decide +kernel)
set_option maxRecDepth 20000 in
theorem gX5_putAll_X1_save : GoodIn wsX5_putAll (wsV RX5 64 RX1 yX1_save wsX1_save) := goodIn_app (goodIn_of _ (by decide +kernel)) ggX5_putAll_X1_save
set_option maxRecDepth 20000 in
theorem ggX5_putAll_X4_unfoldedAt : GoodIn wsX5_putAll wsX4_unfoldedAt := goodIn_r _ [45, 35, 19, 20, 21, 100, 101, 102] (by decide +kernel) (by decide +kernel)
set_option maxRecDepth 20000 in
theorem gX5_putAll_X4_unfoldedAt : GoodIn wsX5_putAll (wsV RX5 191 RX4 yX4_unfoldedAt wsX4_unfoldedAt) := goodIn_app (goodIn_of _ (by decide +kernel)) ggX5_putAll_X4_unfoldedAt
set_option maxRecDepth 20000 in
theorem ggX5_putAll_X2_addSign : GoodIn wsX5_putAll wsX2_addSign := goodIn_r _ [86, 67, 70, 36, 20, 37, 92, 93, 94, 95, 96, 97, 98, 99] (by decide +kernel) (by decide +kernel)
set_option maxRecDepth 20000 in
theorem gX5_putAll_X2_addSign : GoodIn wsX5_putAll (wsV RX5 68 RX2 yX2_addSign wsX2_addSign) := goodIn_app (goodIn_of _ (by decide +kernel)) ggX5_putAll_X2_addSign
theorem dX5_putAll_0 : decode cX5_putAll 0 = .ok (.aload_n 0, 1) := by decide +kernel
theorem dX5_putAll_1 : decode cX5_putAll 1 = .ok (.getfield 26, 3) := by decide +kernel
theorem dX5_putAll_4 : decode cX5_putAll 4 = .ok (.invokevirtual 182, 3) := by decide +kernel
theorem dX5_putAll_7 : decode cX5_putAll 7 = .ok (.ifCond .ne 13, 3) := by decide +kernel
theorem dX5_putAll_10 : decode cX5_putAll 10 = .ok (.new 48, 3) := by decide +kernel
theorem dX5_putAll_13 : decode cX5_putAll 13 = .ok (.dup, 1) := by decide +kernel
theorem dX5_putAll_14 : decode cX5_putAll 14 = .ok (.ldc 186, 2) := by decide +kernel
theorem dX5_putAll_16 : decode cX5_putAll 16 = .ok (.invokespecial 52, 3) := by decide +kernel
theorem dX5_putAll_19 : decode cX5_putAll 19 = .ok (.athrow, 1) := by decide +kernel
theorem dX5_putAll_20 : decode cX5_putAll 20 = .ok (.aload_n 0, 1) := by decide +kernel
theorem dX5_putAll_21 : decode cX5_putAll 21 = .ok (.getfield 26, 3) := by decide +kernel
theorem dX5_putAll_24 : decode cX5_putAll 24 = .ok (.invokevirtual 188, 3) := by decide +kernel
theorem dX5_putAll_27 : decode cX5_putAll 27 = .ok (.istore_n 1, 1) := by decide +kernel
theorem dX5_putAll_28 : decode cX5_putAll 28 = .ok (.aload_n 0, 1) := by decide +kernel
theorem dX5_putAll_29 : decode cX5_putAll 29 = .ok (.getfield 10, 3) := by decide +kernel
theorem dX5_putAll_32 : decode cX5_putAll 32 = .ok (.getfield 55, 3) := by decide +kernel
theorem dX5_putAll_35 : decode cX5_putAll 35 = .ok (.iload_n 1, 1) := by decide +kernel
theorem dX5_putAll_36 : decode cX5_putAll 36 = .ok (.iadd, 1) := by decide +kernel
theorem dX5_putAll_37 : decode cX5_putAll 37 = .ok (.sipush 240, 3) := by decide +kernel
theorem dX5_putAll_40 : decode cX5_putAll 40 = .ok (.if_icmp .le 13, 3) := by decide +kernel
theorem dX5_putAll_43 : decode cX5_putAll 43 = .ok (.new 59, 3) := by decide +kernel
theorem dX5_putAll_46 : decode cX5_putAll 46 = .ok (.dup, 1) := by decide +kernel
theorem dX5_putAll_47 : decode cX5_putAll 47 = .ok (.ldc 105, 2) := by decide +kernel
theorem dX5_putAll_49 : decode cX5_putAll 49 = .ok (.invokespecial 63, 3) := by decide +kernel
theorem dX5_putAll_52 : decode cX5_putAll 52 = .ok (.athrow, 1) := by decide +kernel
theorem dX5_putAll_53 : decode cX5_putAll 53 = .ok (.aload_n 0, 1) := by decide +kernel
theorem dX5_putAll_54 : decode cX5_putAll 54 = .ok (.getfield 19, 3) := by decide +kernel
theorem dX5_putAll_57 : decode cX5_putAll 57 = .ok (.aload_n 0, 1) := by decide +kernel
theorem dX5_putAll_58 : decode cX5_putAll 58 = .ok (.getfield 10, 3) := by decide +kernel
theorem dX5_putAll_61 : decode cX5_putAll 61 = .ok (.invokevirtual 64, 3) := by decide +kernel
theorem dX5_putAll_64 : decode cX5_putAll 64 = .ok (.iconst 0, 1) := by decide +kernel
theorem dX5_putAll_65 : decode cX5_putAll 65 = .ok (.istore_n 2, 1) := by decide +kernel
theorem dX5_putAll_66 : decode cX5_putAll 66 = .ok (.iload_n 2, 1) := by decide +kernel
theorem dX5_putAll_67 : decode cX5_putAll 67 = .ok (.iload_n 1, 1) := by decide +kernel
theorem dX5_putAll_68 : decode cX5_putAll 68 = .ok (.if_icmp .ge 24, 3) := by decide +kernel
theorem dX5_putAll_71 : decode cX5_putAll 71 = .ok (.aload_n 0, 1) := by decide +kernel
theorem dX5_putAll_72 : decode cX5_putAll 72 = .ok (.getfield 10, 3) := by decide +kernel
theorem dX5_putAll_75 : decode cX5_putAll 75 = .ok (.aload_n 0, 1) := by decide +kernel
theorem dX5_putAll_76 : decode cX5_putAll 76 = .ok (.getfield 26, 3) := by decide +kernel
theorem dX5_putAll_79 : decode cX5_putAll 79 = .ok (.iload_n 2, 1) := by decide +kernel
theorem dX5_putAll_80 : decode cX5_putAll 80 = .ok (.invokevirtual 191, 3) := by decide +kernel
theorem dX5_putAll_83 : decode cX5_putAll 83 = .ok (.invokevirtual 68, 3) := by decide +kernel
theorem dX5_putAll_86 : decode cX5_putAll 86 = .ok (.iinc 2 1, 3) := by decide +kernel
theorem dX5_putAll_89 : decode cX5_putAll 89 = .ok (.goto (-23), 3) := by decide +kernel
theorem dX5_putAll_92 : decode cX5_putAll 92 = .ok (.aload_n 0, 1) := by decide +kernel
theorem dX5_putAll_93 : decode cX5_putAll 93 = .ok (.getfield 26, 3) := by decide +kernel
theorem dX5_putAll_96 : decode cX5_putAll 96 = .ok (.iconst 0, 1) := by decide +kernel
theorem dX5_putAll_97 : decode cX5_putAll 97 = .ok (.putfield 173, 3) := by decide +kernel
theorem dX5_putAll_100 : decode cX5_putAll 100 = .ok (.aload_n 0, 1) := by decide +kernel
theorem dX5_putAll_101 : decode cX5_putAll 101 = .ok (.getfield 10, 3) := by decide +kernel
theorem dX5_putAll_104 : decode cX5_putAll 104 = .ok (.getfield 55, 3) := by decide +kernel
theorem dX5_putAll_107 : decode cX5_putAll 107 = .ok (.ireturn, 1) := by decide +kernel
set_option maxRecDepth 20000 in
theorem ggX5_undo_X1_restore : GoodIn wsX5_undo wsX1_restore := goodIn_r _ [9, 10, 11, 12, 13, 14, 8, 15, 16, 17, 18, 19, 20, 21, 22, 23, 24, 25, 26, 27, 28, 29, 30, 31, 32, 33, 34, 35, 36, 37, 38, 39, 40, 46, 47, 48, 49, 50, 51, 52, 53, 54, 55, 56] (by decide +kernel) (by decide +kernel)
set_option maxRecDepth 20000 in
theorem gX5_undo_X1_restore : GoodIn wsX5_undo (wsV RX5 199 RX1 yX1_restore wsX1_restore) := goodIn_app (goodIn_of _ (by decide +kernel)) ggX5_undo_X1_restore
theorem dX5_undo_0 : decode cX5_undo 0 = .ok (.aload_n 0, 1) := by decide +kernel
theorem dX5_undo_1 : decode cX5_undo 1 = .ok (.getfield 19, 3) := by decide +kernel
theorem dX5_undo_4 : decode cX5_undo 4 = .ok (.getfield 194, 3) := by decide +kernel
theorem dX5_undo_7 : decode cX5_undo 7 = .ok (.ifCond .ne 13, 3) := by decide +kernel
theorem dX5_undo_10 : decode cX5_undo 10 = .ok (.new 59, 3) := by decide +kernel
theorem dX5_undo_13 : decode cX5_undo 13 = .ok (.dup, 1) := by decide +kernel
theorem dX5_undo_14 : decode cX5_undo 14 = .ok (.ldc 197, 2) := by decide +kernel
theorem dX5_undo_16 : decode cX5_undo 16 = .ok (.invokespecial 63, 3) := by decide +kernel
theorem dX5_undo_19 : decode cX5_undo 19 = .ok (.athrow, 1) := by decide +kernel
theorem dX5_undo_20 : decode cX5_undo 20 = .ok (.aload_n 0, 1) := by decide +kernel
theorem dX5_undo_21 : decode cX5_undo 21 = .ok (.getfield 19, 3) := by decide +kernel
theorem dX5_undo_24 : decode cX5_undo 24 = .ok (.aload_n 0, 1) := by decide +kernel
theorem dX5_undo_25 : decode cX5_undo 25 = .ok (.getfield 10, 3) := by decide +kernel
theorem dX5_undo_28 : decode cX5_undo 28 = .ok (.invokevirtual 199, 3) := by decide +kernel
theorem dX5_undo_31 : decode cX5_undo 31 = .ok (.aload_n 0, 1) := by decide +kernel
theorem dX5_undo_32 : decode cX5_undo 32 = .ok (.getfield 19, 3) := by decide +kernel
theorem dX5_undo_35 : decode cX5_undo 35 = .ok (.getfield 194, 3) := by decide +kernel
theorem dX5_undo_38 : decode cX5_undo 38 = .ok (.ireturn, 1) := by decide +kernel
set_option maxRecDepth 20000 in
theorem ggX5_sign_X2_signAt : GoodIn wsX5_sign wsX2_signAt := goodIn_r _ [8, 9, 10, 16, 17, 18, 19, 20, 21, 22, 23] (by decide +kernel) (by decide +kernel)
set_option maxRecDepth 20000 in
theorem gX5_sign_X2_signAt : GoodIn wsX5_sign (wsV RX5 80 RX2 yX2_signAt wsX2_signAt) := goodIn_app (goodIn_of _ (by decide +kernel)) ggX5_sign_X2_signAt
theorem dX5_sign_0 : decode cX5_sign 0 = .ok (.iload_n 1, 1) := by decide +kernel
theorem dX5_sign_1 : decode cX5_sign 1 = .ok (.ifCond .ge 13, 3) := by decide +kernel
theorem dX5_sign_4 : decode cX5_sign 4 = .ok (.new 48, 3) := by decide +kernel
theorem dX5_sign_7 : decode cX5_sign 7 = .ok (.dup, 1) := by decide +kernel
theorem dX5_sign_8 : decode cX5_sign 8 = .ok (.ldc 202, 2) := by decide +kernel
theorem dX5_sign_10 : decode cX5_sign 10 = .ok (.invokespecial 52, 3) := by decide +kernel
theorem dX5_sign_13 : decode cX5_sign 13 = .ok (.athrow, 1) := by decide +kernel
theorem dX5_sign_14 : decode cX5_sign 14 = .ok (.aload_n 0, 1) := by decide +kernel
theorem dX5_sign_15 : decode cX5_sign 15 = .ok (.getfield 10, 3) := by decide +kernel
theorem dX5_sign_18 : decode cX5_sign 18 = .ok (.iload_n 1, 1) := by decide +kernel
theorem dX5_sign_19 : decode cX5_sign 19 = .ok (.invokevirtual 80, 3) := by decide +kernel
theorem dX5_sign_22 : decode cX5_sign 22 = .ok (.ireturn, 1) := by decide +kernel
set_option maxRecDepth 20000 in
theorem ggX5_period_X2_hasNumber : GoodIn wsX5_period wsX2_hasNumber := goodIn_r _ [12, 13, 165, 166, 167, 168, 169, 170, 171, 172] (by decide +kernel) (by decide +kernel)
set_option maxRecDepth 20000 in
theorem gX5_period_X2_hasNumber : GoodIn wsX5_period (wsV RX5 128 RX2 yX2_hasNumber wsX2_hasNumber) := goodIn_app (goodIn_of _ (by decide +kernel)) ggX5_period_X2_hasNumber
set_option maxRecDepth 20000 in
theorem ggX5_period_X5_isWithin : GoodIn wsX5_period wsX5_isWithin := goodIn_r _ [17] (by decide +kernel) (by decide +kernel)
set_option maxRecDepth 20000 in
theorem gX5_period_X5_isWithin : GoodIn wsX5_period (va_wsS RX5 88 yX5_isWithin wsX5_isWithin) := goodIn_app (goodIn_of _ (by decide +kernel)) ggX5_period_X5_isWithin
set_option maxRecDepth 20000 in
theorem ggX5_period_X3_read : GoodIn wsX5_period wsX3_read := goodIn_r _ [22, 23, 24, 25, 26, 27, 28, 29, 30, 31, 21, 32, 33, 34, 35, 36, 37, 38, 39, 40, 41, 11, 42, 43, 44, 16, 45, 46, 47, 48, 49, 50, 51, 52, 53, 54, 55, 56, 57, 58, 59, 60, 61, 62, 63, 64, 65, 66, 67, 68, 69, 70, 71, 72, 73, 74, 75, 76, 77, 78, 79, 80, 81, 82, 83, 84, 85, 86, 87, 88, 89, 90, 91, 92, 93, 94, 95, 96, 97, 98, 99, 100, 101, 102, 103, 104, 105, 106, 107, 108, 109, 110, 111, 112, 113, 114, 115, 116, 117, 118, 119, 120, 121, 122, 123, 124, 125, 126, 127, 173, 174, 175, 165, 166, 167, 168, 169, 170, 171, 172, 176, 177] (by decide +kernel) (by decide +kernel)
set_option maxRecDepth 20000 in
theorem gX5_period_X3_read : GoodIn wsX5_period (wsV RX5 146 RX3 yX3_read wsX3_read) := goodIn_app (goodIn_of _ (by decide +kernel)) ggX5_period_X3_read
set_option maxRecDepth 20000 in
theorem ggX5_period_X5_periodNumber : GoodIn wsX5_period wsX5_periodNumber := goodIn_r _ [131, 5, 6, 7, 132, 40, 41, 11, 42, 43, 44, 16, 45, 133, 47, 48, 49, 50, 134, 80, 81, 135, 136, 137, 21, 138, 117, 118, 119, 120, 121, 56, 57, 58, 59, 60, 122, 62, 63, 64, 65, 66, 67, 68, 69, 70, 71, 72, 123, 124, 125, 126, 127, 23, 139, 35, 36, 37, 38, 39, 46, 51, 52, 53, 54, 55, 61, 73, 74, 75, 76, 77, 78, 79, 26, 27, 28, 82, 83, 84, 85, 86, 87, 88, 140, 141, 142, 143, 93, 94, 95, 96, 97, 98, 99, 100, 144, 145, 146, 147, 148, 149, 150, 151, 152, 153, 154, 155, 156, 157, 158, 159, 90, 91, 92, 101, 102, 103, 104, 105, 106, 107, 108, 160, 161, 162, 163, 164, 165, 166, 167, 168, 169, 170, 171, 172, 173, 174, 175, 176, 177] (by decide +kernel) (by decide +kernel)
set_option maxRecDepth 20000 in
theorem gX5_period_X5_periodNumber : GoodIn wsX5_period (wsV RX5 206 RX5 yX5_periodNumber wsX5_periodNumber) := goodIn_app (goodIn_of _ (by decide +kernel)) ggX5_period_X5_periodNumber
theorem dX5_period_0 : decode cX5_period 0 = .ok (.aload_n 0, 1) := by decide +kernel
theorem dX5_period_1 : decode cX5_period 1 = .ok (.getfield 10, 3) := by decide +kernel
theorem dX5_period_4 : decode cX5_period 4 = .ok (.iload_n 1, 1) := by decide +kernel
theorem dX5_period_5 : decode cX5_period 5 = .ok (.invokevirtual 128, 3) := by decide +kernel
theorem dX5_period_8 : decode cX5_period 8 = .ok (.ifCond .ne 13, 3) := by decide +kernel
theorem dX5_period_11 : decode cX5_period 11 = .ok (.new 75, 3) := by decide +kernel
theorem dX5_period_14 : decode cX5_period 14 = .ok (.dup, 1) := by decide +kernel
theorem dX5_period_15 : decode cX5_period 15 = .ok (.ldc 131, 2) := by decide +kernel
theorem dX5_period_17 : decode cX5_period 17 = .ok (.invokespecial 79, 3) := by decide +kernel
theorem dX5_period_20 : decode cX5_period 20 = .ok (.athrow, 1) := by decide +kernel
theorem dX5_period_21 : decode cX5_period 21 = .ok (.iload_n 2, 1) := by decide +kernel
theorem dX5_period_22 : decode cX5_period 22 = .ok (.iconst 0, 1) := by decide +kernel
theorem dX5_period_23 : decode cX5_period 23 = .ok (.bipush 6, 2) := by decide +kernel
theorem dX5_period_25 : decode cX5_period 25 = .ok (.invokestatic 88, 3) := by decide +kernel
theorem dX5_period_28 : decode cX5_period 28 = .ok (.ifCond .ne 13, 3) := by decide +kernel
theorem dX5_period_31 : decode cX5_period 31 = .ok (.new 48, 3) := by decide +kernel
theorem dX5_period_34 : decode cX5_period 34 = .ok (.dup, 1) := by decide +kernel
theorem dX5_period_35 : decode cX5_period 35 = .ok (.ldc 204, 2) := by decide +kernel
theorem dX5_period_37 : decode cX5_period 37 = .ok (.invokespecial 52, 3) := by decide +kernel
theorem dX5_period_40 : decode cX5_period 40 = .ok (.athrow, 1) := by decide +kernel
theorem dX5_period_41 : decode cX5_period 41 = .ok (.aload_n 0, 1) := by decide +kernel
theorem dX5_period_42 : decode cX5_period 42 = .ok (.getfield 40, 3) := by decide +kernel
theorem dX5_period_45 : decode cX5_period 45 = .ok (.aload_n 0, 1) := by decide +kernel
theorem dX5_period_46 : decode cX5_period 46 = .ok (.getfield 10, 3) := by decide +kernel
theorem dX5_period_49 : decode cX5_period 49 = .ok (.aload_n 0, 1) := by decide +kernel
theorem dX5_period_50 : decode cX5_period 50 = .ok (.getfield 33, 3) := by decide +kernel
theorem dX5_period_53 : decode cX5_period 53 = .ok (.invokevirtual 146, 3) := by decide +kernel
theorem dX5_period_56 : decode cX5_period 56 = .ok (.aload_n 0, 1) := by decide +kernel
theorem dX5_period_57 : decode cX5_period 57 = .ok (.iload_n 1, 1) := by decide +kernel
theorem dX5_period_58 : decode cX5_period 58 = .ok (.iload_n 2, 1) := by decide +kernel
theorem dX5_period_59 : decode cX5_period 59 = .ok (.invokevirtual 206, 3) := by decide +kernel
theorem dX5_period_62 : decode cX5_period 62 = .ok (.ireturn, 1) := by decide +kernel
set_option maxRecDepth 20000 in
theorem ggX5_remainder_X2_hasNumber : GoodIn wsX5_remainder wsX2_hasNumber := goodIn_r _ [11, 12, 94, 95, 96, 97, 98, 99, 100, 101] (by decide +kernel) (by decide +kernel)
set_option maxRecDepth 20000 in
theorem gX5_remainder_X2_hasNumber : GoodIn wsX5_remainder (wsV RX5 128 RX2 yX2_hasNumber wsX2_hasNumber) := goodIn_app (goodIn_of _ (by decide +kernel)) ggX5_remainder_X2_hasNumber
set_option maxRecDepth 20000 in
theorem ggX5_remainder_X2_tenthsAt : GoodIn wsX5_remainder wsX2_tenthsAt := goodIn_r _ [16, 17, 18, 19, 20, 94, 95, 96, 97, 98, 99, 100, 101] (by decide +kernel) (by decide +kernel)
set_option maxRecDepth 20000 in
theorem gX5_remainder_X2_tenthsAt : GoodIn wsX5_remainder (wsV RX5 209 RX2 yX2_tenthsAt wsX2_tenthsAt) := goodIn_app (goodIn_of _ (by decide +kernel)) ggX5_remainder_X2_tenthsAt
set_option maxRecDepth 20000 in
theorem ggX5_remainder_X5_classesOf : GoodIn wsX5_remainder wsX5_classesOf := goodIn_r _ [23] (by decide +kernel) (by decide +kernel)
set_option maxRecDepth 20000 in
theorem gX5_remainder_X5_classesOf : GoodIn wsX5_remainder (va_wsS RX5 212 yX5_classesOf wsX5_classesOf) := goodIn_app (goodIn_of _ (by decide +kernel)) ggX5_remainder_X5_classesOf
set_option maxRecDepth 20000 in
theorem ggX5_remainder_X5_isWithin : GoodIn wsX5_remainder wsX5_isWithin := goodIn_r _ [26] (by decide +kernel) (by decide +kernel)
set_option maxRecDepth 20000 in
theorem gX5_remainder_X5_isWithin : GoodIn wsX5_remainder (va_wsS RX5 88 yX5_isWithin wsX5_isWithin) := goodIn_app (goodIn_of _ (by decide +kernel)) ggX5_remainder_X5_isWithin
set_option maxRecDepth 20000 in
theorem ggX5_remainder_X0_takeKept : GoodIn wsX5_remainder wsX0_takeKept := goodIn_r _ [31, 32, 14, 15, 10, 16, 17, 18, 19, 20, 33, 34, 35, 36, 37, 38, 39, 40, 30, 41, 42, 43, 44, 45, 46, 47, 48, 49, 50, 51, 52, 53, 54, 55, 56, 57, 58, 59, 60, 61, 62, 63, 64, 65, 66, 67, 68, 69, 22, 23, 70, 71, 72, 73, 74, 75, 76, 94, 95, 96, 97, 98, 99, 100, 101, 102, 103] (by decide +kernel) (by decide +kernel)
set_option maxRecDepth 20000 in
theorem gX5_remainder_X0_takeKept : GoodIn wsX5_remainder (wsV RX5 219 RX0 yX0_takeKept wsX0_takeKept) := goodIn_app (goodIn_of _ (by decide +kernel)) ggX5_remainder_X0_takeKept
set_option maxRecDepth 20000 in
theorem ggX5_remainder_X0_lookedAt : GoodIn wsX5_remainder wsX0_lookedAt := goodIn_r _ [80, 81, 82, 83, 30, 84, 64, 85, 86, 87, 88, 102, 103] (by decide +kernel) (by decide +kernel)
set_option maxRecDepth 20000 in
theorem gX5_remainder_X0_lookedAt : GoodIn wsX5_remainder (wsV RX5 223 RX0 yX0_lookedAt wsX0_lookedAt) := goodIn_app (goodIn_of _ (by decide +kernel)) ggX5_remainder_X0_lookedAt
theorem dX5_remainder_0 : decode cX5_remainder 0 = .ok (.aload_n 0, 1) := by decide +kernel
theorem dX5_remainder_1 : decode cX5_remainder 1 = .ok (.getfield 10, 3) := by decide +kernel
theorem dX5_remainder_4 : decode cX5_remainder 4 = .ok (.iload_n 1, 1) := by decide +kernel
theorem dX5_remainder_5 : decode cX5_remainder 5 = .ok (.invokevirtual 128, 3) := by decide +kernel
theorem dX5_remainder_8 : decode cX5_remainder 8 = .ok (.ifCond .ne 13, 3) := by decide +kernel
theorem dX5_remainder_11 : decode cX5_remainder 11 = .ok (.new 75, 3) := by decide +kernel
theorem dX5_remainder_14 : decode cX5_remainder 14 = .ok (.dup, 1) := by decide +kernel
theorem dX5_remainder_15 : decode cX5_remainder 15 = .ok (.ldc 131, 2) := by decide +kernel
theorem dX5_remainder_17 : decode cX5_remainder 17 = .ok (.invokespecial 79, 3) := by decide +kernel
theorem dX5_remainder_20 : decode cX5_remainder 20 = .ok (.athrow, 1) := by decide +kernel
theorem dX5_remainder_21 : decode cX5_remainder 21 = .ok (.iload_n 2, 1) := by decide +kernel
theorem dX5_remainder_22 : decode cX5_remainder 22 = .ok (.iconst 0, 1) := by decide +kernel
theorem dX5_remainder_23 : decode cX5_remainder 23 = .ok (.aload_n 0, 1) := by decide +kernel
theorem dX5_remainder_24 : decode cX5_remainder 24 = .ok (.getfield 10, 3) := by decide +kernel
theorem dX5_remainder_27 : decode cX5_remainder 27 = .ok (.iload_n 1, 1) := by decide +kernel
theorem dX5_remainder_28 : decode cX5_remainder 28 = .ok (.invokevirtual 209, 3) := by decide +kernel
theorem dX5_remainder_31 : decode cX5_remainder 31 = .ok (.invokestatic 212, 3) := by decide +kernel
theorem dX5_remainder_34 : decode cX5_remainder 34 = .ok (.iconst 1, 1) := by decide +kernel
theorem dX5_remainder_35 : decode cX5_remainder 35 = .ok (.isub, 1) := by decide +kernel
theorem dX5_remainder_36 : decode cX5_remainder 36 = .ok (.invokestatic 88, 3) := by decide +kernel
theorem dX5_remainder_39 : decode cX5_remainder 39 = .ok (.ifCond .ne 13, 3) := by decide +kernel
theorem dX5_remainder_42 : decode cX5_remainder 42 = .ok (.new 75, 3) := by decide +kernel
theorem dX5_remainder_45 : decode cX5_remainder 45 = .ok (.dup, 1) := by decide +kernel
theorem dX5_remainder_46 : decode cX5_remainder 46 = .ok (.ldc 215, 2) := by decide +kernel
theorem dX5_remainder_48 : decode cX5_remainder 48 = .ok (.invokespecial 79, 3) := by decide +kernel
theorem dX5_remainder_51 : decode cX5_remainder 51 = .ok (.athrow, 1) := by decide +kernel
theorem dX5_remainder_52 : decode cX5_remainder 52 = .ok (.iload_n 3, 1) := by decide +kernel
theorem dX5_remainder_53 : decode cX5_remainder 53 = .ok (.iconst 0, 1) := by decide +kernel
theorem dX5_remainder_54 : decode cX5_remainder 54 = .ok (.iconst 4, 1) := by decide +kernel
theorem dX5_remainder_55 : decode cX5_remainder 55 = .ok (.invokestatic 88, 3) := by decide +kernel
theorem dX5_remainder_58 : decode cX5_remainder 58 = .ok (.ifCond .ne 13, 3) := by decide +kernel
theorem dX5_remainder_61 : decode cX5_remainder 61 = .ok (.new 48, 3) := by decide +kernel
theorem dX5_remainder_64 : decode cX5_remainder 64 = .ok (.dup, 1) := by decide +kernel
theorem dX5_remainder_65 : decode cX5_remainder 65 = .ok (.ldc 217, 2) := by decide +kernel
theorem dX5_remainder_67 : decode cX5_remainder 67 = .ok (.invokespecial 52, 3) := by decide +kernel
theorem dX5_remainder_70 : decode cX5_remainder 70 = .ok (.athrow, 1) := by decide +kernel
theorem dX5_remainder_71 : decode cX5_remainder 71 = .ok (.aload_n 0, 1) := by decide +kernel
theorem dX5_remainder_72 : decode cX5_remainder 72 = .ok (.getfield 33, 3) := by decide +kernel
theorem dX5_remainder_75 : decode cX5_remainder 75 = .ok (.aload_n 0, 1) := by decide +kernel
theorem dX5_remainder_76 : decode cX5_remainder 76 = .ok (.getfield 10, 3) := by decide +kernel
theorem dX5_remainder_79 : decode cX5_remainder 79 = .ok (.iload_n 1, 1) := by decide +kernel
theorem dX5_remainder_80 : decode cX5_remainder 80 = .ok (.invokevirtual 219, 3) := by decide +kernel
theorem dX5_remainder_83 : decode cX5_remainder 83 = .ok (.aload_n 0, 1) := by decide +kernel
theorem dX5_remainder_84 : decode cX5_remainder 84 = .ok (.getfield 33, 3) := by decide +kernel
theorem dX5_remainder_87 : decode cX5_remainder 87 = .ok (.iload_n 2, 1) := by decide +kernel
theorem dX5_remainder_88 : decode cX5_remainder 88 = .ok (.iload_n 3, 1) := by decide +kernel
theorem dX5_remainder_89 : decode cX5_remainder 89 = .ok (.invokevirtual 223, 3) := by decide +kernel
theorem dX5_remainder_92 : decode cX5_remainder 92 = .ok (.ireturn, 1) := by decide +kernel
set_option maxRecDepth 20000 in
theorem ggX5_told_X2_hasPlace : GoodIn wsX5_told wsX2_hasPlace := goodIn_r _ [12, 13, 147, 148, 149, 150, 151, 152, 153, 154] (by decide +kernel) (by decide +kernel)
set_option maxRecDepth 20000 in
theorem gX5_told_X2_hasPlace : GoodIn wsX5_told (wsV RX5 72 RX2 yX2_hasPlace wsX2_hasPlace) := goodIn_app (goodIn_of _ (by decide +kernel)) ggX5_told_X2_hasPlace
set_option maxRecDepth 20000 in
theorem ggX5_told_X5_isWithin : GoodIn wsX5_told wsX5_isWithin := goodIn_r _ [17] (by decide +kernel) (by decide +kernel)
set_option maxRecDepth 20000 in
theorem gX5_told_X5_isWithin : GoodIn wsX5_told (va_wsS RX5 88 yX5_isWithin wsX5_isWithin) := goodIn_app (goodIn_of _ (by decide +kernel)) ggX5_told_X5_isWithin
set_option maxRecDepth 20000 in
theorem ggX5_told_X3_read : GoodIn wsX5_told wsX3_read := goodIn_r _ [22, 23, 24, 25, 26, 27, 28, 29, 30, 31, 21, 32, 33, 34, 35, 36, 37, 38, 39, 40, 41, 11, 42, 43, 44, 16, 45, 46, 47, 48, 49, 50, 51, 52, 53, 54, 55, 56, 57, 58, 59, 60, 61, 62, 63, 64, 13, 65, 66, 67, 68, 69, 70, 71, 72, 73, 74, 75, 76, 77, 78, 79, 80, 81, 82, 83, 84, 85, 86, 87, 88, 89, 90, 91, 92, 93, 94, 95, 96, 97, 98, 99, 100, 101, 102, 103, 104, 105, 106, 107, 108, 109, 110, 111, 112, 113, 114, 115, 116, 117, 118, 119, 120, 121, 122, 123, 124, 125, 126, 155, 156, 157, 147, 148, 149, 150, 151, 152, 153, 154, 158, 159] (by decide +kernel) (by decide +kernel)
set_option maxRecDepth 20000 in
theorem gX5_told_X3_read : GoodIn wsX5_told (wsV RX5 146 RX3 yX3_read wsX3_read) := goodIn_app (goodIn_of _ (by decide +kernel)) ggX5_told_X3_read
set_option maxRecDepth 20000 in
theorem ggX5_told_X5_toldNumber : GoodIn wsX5_told wsX5_toldNumber := goodIn_r _ [130, 6, 5, 131, 132, 133, 21, 134, 24, 44, 16, 45, 135, 124, 125, 126, 23, 136, 137, 138, 139, 140, 141, 84, 85, 11, 86, 13, 87, 142, 143, 144, 145, 146, 155, 156, 157, 147, 148, 149, 150, 151, 152, 153, 154] (by decide +kernel) (by decide +kernel)
set_option maxRecDepth 20000 in
theorem gX5_told_X5_toldNumber : GoodIn wsX5_told (wsV RX5 228 RX5 yX5_toldNumber wsX5_toldNumber) := goodIn_app (goodIn_of _ (by decide +kernel)) ggX5_told_X5_toldNumber
theorem dX5_told_0 : decode cX5_told 0 = .ok (.aload_n 0, 1) := by decide +kernel
theorem dX5_told_1 : decode cX5_told 1 = .ok (.getfield 10, 3) := by decide +kernel
theorem dX5_told_4 : decode cX5_told 4 = .ok (.iload_n 1, 1) := by decide +kernel
theorem dX5_told_5 : decode cX5_told 5 = .ok (.invokevirtual 72, 3) := by decide +kernel
theorem dX5_told_8 : decode cX5_told 8 = .ok (.ifCond .ne 13, 3) := by decide +kernel
theorem dX5_told_11 : decode cX5_told 11 = .ok (.new 75, 3) := by decide +kernel
theorem dX5_told_14 : decode cX5_told 14 = .ok (.dup, 1) := by decide +kernel
theorem dX5_told_15 : decode cX5_told 15 = .ok (.ldc 77, 2) := by decide +kernel
theorem dX5_told_17 : decode cX5_told 17 = .ok (.invokespecial 79, 3) := by decide +kernel
theorem dX5_told_20 : decode cX5_told 20 = .ok (.athrow, 1) := by decide +kernel
theorem dX5_told_21 : decode cX5_told 21 = .ok (.iload_n 2, 1) := by decide +kernel
theorem dX5_told_22 : decode cX5_told 22 = .ok (.iconst 0, 1) := by decide +kernel
theorem dX5_told_23 : decode cX5_told 23 = .ok (.iconst 2, 1) := by decide +kernel
theorem dX5_told_24 : decode cX5_told 24 = .ok (.invokestatic 88, 3) := by decide +kernel
theorem dX5_told_27 : decode cX5_told 27 = .ok (.ifCond .ne 13, 3) := by decide +kernel
theorem dX5_told_30 : decode cX5_told 30 = .ok (.new 48, 3) := by decide +kernel
theorem dX5_told_33 : decode cX5_told 33 = .ok (.dup, 1) := by decide +kernel
theorem dX5_told_34 : decode cX5_told 34 = .ok (.ldc 226, 2) := by decide +kernel
theorem dX5_told_36 : decode cX5_told 36 = .ok (.invokespecial 52, 3) := by decide +kernel
theorem dX5_told_39 : decode cX5_told 39 = .ok (.athrow, 1) := by decide +kernel
theorem dX5_told_40 : decode cX5_told 40 = .ok (.aload_n 0, 1) := by decide +kernel
theorem dX5_told_41 : decode cX5_told 41 = .ok (.getfield 40, 3) := by decide +kernel
theorem dX5_told_44 : decode cX5_told 44 = .ok (.aload_n 0, 1) := by decide +kernel
theorem dX5_told_45 : decode cX5_told 45 = .ok (.getfield 10, 3) := by decide +kernel
theorem dX5_told_48 : decode cX5_told 48 = .ok (.aload_n 0, 1) := by decide +kernel
theorem dX5_told_49 : decode cX5_told 49 = .ok (.getfield 33, 3) := by decide +kernel
theorem dX5_told_52 : decode cX5_told 52 = .ok (.invokevirtual 146, 3) := by decide +kernel
theorem dX5_told_55 : decode cX5_told 55 = .ok (.aload_n 0, 1) := by decide +kernel
theorem dX5_told_56 : decode cX5_told 56 = .ok (.iload_n 1, 1) := by decide +kernel
theorem dX5_told_57 : decode cX5_told 57 = .ok (.iload_n 2, 1) := by decide +kernel
theorem dX5_told_58 : decode cX5_told 58 = .ok (.invokevirtual 228, 3) := by decide +kernel
theorem dX5_told_61 : decode cX5_told 61 = .ok (.ireturn, 1) := by decide +kernel
set_option maxRecDepth 20000 in
theorem ggX5_count_X5_isWithin : GoodIn wsX5_count wsX5_isWithin := goodIn_r _ [9] (by decide +kernel) (by decide +kernel)
set_option maxRecDepth 20000 in
theorem gX5_count_X5_isWithin : GoodIn wsX5_count (va_wsS RX5 88 yX5_isWithin wsX5_isWithin) := goodIn_app (goodIn_of _ (by decide +kernel)) ggX5_count_X5_isWithin
set_option maxRecDepth 20000 in
theorem ggX5_count_X3_read : GoodIn wsX5_count wsX3_read := goodIn_r _ [14, 15, 16, 17, 18, 19, 20, 21, 22, 23, 13, 24, 25, 26, 27, 28, 29, 30, 31, 32, 33, 34, 35, 36, 37, 8, 38, 39, 40, 41, 42, 43, 44, 45, 46, 47, 48, 49, 50, 51, 52, 53, 54, 55, 56, 57, 58, 59, 60, 61, 62, 63, 64, 65, 66, 67, 68, 69, 70, 71, 72, 73, 74, 75, 76, 77, 78, 79, 80, 81, 82, 83, 84, 85, 86, 87, 88, 89, 90, 91, 92, 93, 94, 95, 96, 97, 98, 99, 100, 101, 102, 103, 104, 105, 106, 107, 108, 109, 110, 111, 112, 113, 114, 115, 116, 117, 118, 119, 120, 166, 167, 168, 169, 170, 171, 172, 173, 174, 175, 176, 177, 178] (by decide +kernel) (by decide +kernel)
set_option maxRecDepth 20000 in
theorem gX5_count_X3_read : GoodIn wsX5_count (wsV RX5 146 RX3 yX3_read wsX3_read) := goodIn_app (goodIn_of _ (by decide +kernel)) ggX5_count_X3_read
set_option maxRecDepth 20000 in
theorem ggX5_count_X5_number : GoodIn wsX5_count wsX5_number := goodIn_r _ [124, 4, 3, 125, 126, 55, 56, 34, 57, 52, 58, 53, 59, 60, 61, 62, 63, 64, 65, 127, 49, 50, 51, 128, 129, 130, 13, 131, 110, 111, 112, 113, 114, 115, 116, 132, 133, 134, 135, 136, 137, 138, 139, 16, 37, 8, 38, 140, 78, 79, 80, 81, 141, 142, 143, 144, 117, 118, 119, 120, 15, 145, 146, 147, 148, 149, 150, 151, 152, 153, 154, 155, 156, 157, 158, 159, 160, 161, 162, 163, 164, 165, 169, 170, 171, 172, 173, 174, 175, 176, 179, 180, 181, 166, 167, 168] (by decide +kernel) (by decide +kernel)
set_option maxRecDepth 20000 in
theorem gX5_count_X5_number : GoodIn wsX5_count (wsV RX5 233 RX5 yX5_number wsX5_number) := goodIn_app (goodIn_of _ (by decide +kernel)) ggX5_count_X5_number
theorem dX5_count_0 : decode cX5_count 0 = .ok (.iload_n 1, 1) := by decide +kernel
theorem dX5_count_1 : decode cX5_count 1 = .ok (.iconst 0, 1) := by decide +kernel
theorem dX5_count_2 : decode cX5_count 2 = .ok (.bipush 9, 2) := by decide +kernel
theorem dX5_count_4 : decode cX5_count 4 = .ok (.invokestatic 88, 3) := by decide +kernel
theorem dX5_count_7 : decode cX5_count 7 = .ok (.ifCond .ne 13, 3) := by decide +kernel
theorem dX5_count_10 : decode cX5_count 10 = .ok (.new 48, 3) := by decide +kernel
theorem dX5_count_13 : decode cX5_count 13 = .ok (.dup, 1) := by decide +kernel
theorem dX5_count_14 : decode cX5_count 14 = .ok (.ldc 231, 2) := by decide +kernel
theorem dX5_count_16 : decode cX5_count 16 = .ok (.invokespecial 52, 3) := by decide +kernel
theorem dX5_count_19 : decode cX5_count 19 = .ok (.athrow, 1) := by decide +kernel
theorem dX5_count_20 : decode cX5_count 20 = .ok (.aload_n 0, 1) := by decide +kernel
theorem dX5_count_21 : decode cX5_count 21 = .ok (.getfield 40, 3) := by decide +kernel
theorem dX5_count_24 : decode cX5_count 24 = .ok (.aload_n 0, 1) := by decide +kernel
theorem dX5_count_25 : decode cX5_count 25 = .ok (.getfield 10, 3) := by decide +kernel
theorem dX5_count_28 : decode cX5_count 28 = .ok (.aload_n 0, 1) := by decide +kernel
theorem dX5_count_29 : decode cX5_count 29 = .ok (.getfield 33, 3) := by decide +kernel
theorem dX5_count_32 : decode cX5_count 32 = .ok (.invokevirtual 146, 3) := by decide +kernel
theorem dX5_count_35 : decode cX5_count 35 = .ok (.aload_n 0, 1) := by decide +kernel
theorem dX5_count_36 : decode cX5_count 36 = .ok (.iload_n 1, 1) := by decide +kernel
theorem dX5_count_37 : decode cX5_count 37 = .ok (.invokevirtual 233, 3) := by decide +kernel
theorem dX5_count_40 : decode cX5_count 40 = .ok (.ireturn, 1) := by decide +kernel
set_option maxRecDepth 20000 in
theorem ggX5_setting_X5_isWithin : GoodIn wsX5_setting wsX5_isWithin := goodIn_r _ [7] (by decide +kernel) (by decide +kernel)
set_option maxRecDepth 20000 in
theorem gX5_setting_X5_isWithin : GoodIn wsX5_setting (va_wsS RX5 88 yX5_isWithin wsX5_isWithin) := goodIn_app (goodIn_of _ (by decide +kernel)) ggX5_setting_X5_isWithin
set_option maxRecDepth 20000 in
theorem ggX5_setting_X2_settingAt : GoodIn wsX5_setting wsX2_settingAt := goodIn_r _ [12, 13, 14, 15, 21, 22, 23, 24, 25, 26, 27, 28] (by decide +kernel) (by decide +kernel)
set_option maxRecDepth 20000 in
theorem gX5_setting_X2_settingAt : GoodIn wsX5_setting (wsV RX5 165 RX2 yX2_settingAt wsX2_settingAt) := goodIn_app (goodIn_of _ (by decide +kernel)) ggX5_setting_X2_settingAt
theorem dX5_setting_0 : decode cX5_setting 0 = .ok (.iload_n 1, 1) := by decide +kernel
theorem dX5_setting_1 : decode cX5_setting 1 = .ok (.iconst 0, 1) := by decide +kernel
theorem dX5_setting_2 : decode cX5_setting 2 = .ok (.iconst 2, 1) := by decide +kernel
theorem dX5_setting_3 : decode cX5_setting 3 = .ok (.invokestatic 88, 3) := by decide +kernel
theorem dX5_setting_6 : decode cX5_setting 6 = .ok (.ifCond .ne 13, 3) := by decide +kernel
theorem dX5_setting_9 : decode cX5_setting 9 = .ok (.new 75, 3) := by decide +kernel
theorem dX5_setting_12 : decode cX5_setting 12 = .ok (.dup, 1) := by decide +kernel
theorem dX5_setting_13 : decode cX5_setting 13 = .ok (.ldc 158, 2) := by decide +kernel
theorem dX5_setting_15 : decode cX5_setting 15 = .ok (.invokespecial 79, 3) := by decide +kernel
theorem dX5_setting_18 : decode cX5_setting 18 = .ok (.athrow, 1) := by decide +kernel
theorem dX5_setting_19 : decode cX5_setting 19 = .ok (.aload_n 0, 1) := by decide +kernel
theorem dX5_setting_20 : decode cX5_setting 20 = .ok (.getfield 10, 3) := by decide +kernel
theorem dX5_setting_23 : decode cX5_setting 23 = .ok (.iload_n 1, 1) := by decide +kernel
theorem dX5_setting_24 : decode cX5_setting 24 = .ok (.invokevirtual 165, 3) := by decide +kernel
theorem dX5_setting_27 : decode cX5_setting 27 = .ok (.ireturn, 1) := by decide +kernel
set_option maxRecDepth 20000 in
theorem ggX5_explains_X5_isPeriod : GoodIn wsX5_explains wsX5_isPeriod := goodIn_r _ [8, 9, 10, 7, 11, 12, 13, 14] (by decide +kernel) (by decide +kernel)
set_option maxRecDepth 20000 in
theorem gX5_explains_X5_isPeriod : GoodIn wsX5_explains (va_wsS RX5 111 yX5_isPeriod wsX5_isPeriod) := goodIn_app (goodIn_of _ (by decide +kernel)) ggX5_explains_X5_isPeriod
set_option maxRecDepth 20000 in
theorem ggX5_explains_X0_takeWindow : GoodIn wsX5_explains wsX0_takeWindow := goodIn_r _ [19, 20, 21, 22, 23, 24, 25, 26, 27, 28, 29, 30, 31, 32, 33, 34, 35, 36, 37, 38, 39, 40, 41, 18, 42, 43, 44, 45, 46, 47, 48, 49, 7, 50, 51, 52, 53, 54, 55, 56, 57, 75, 76, 77, 78, 79, 80, 81, 82, 83, 84] (by decide +kernel) (by decide +kernel)
set_option maxRecDepth 20000 in
theorem gX5_explains_X0_takeWindow : GoodIn wsX5_explains (wsV RX5 236 RX0 yX0_takeWindow wsX0_takeWindow) := goodIn_app (goodIn_of _ (by decide +kernel)) ggX5_explains_X0_takeWindow
set_option maxRecDepth 20000 in
theorem ggX5_explains_X0_explained : GoodIn wsX5_explains wsX0_explained := goodIn_r _ [61, 44, 62, 63, 64, 18, 65, 66, 67, 68, 69, 43, 83, 84] (by decide +kernel) (by decide +kernel)
set_option maxRecDepth 20000 in
theorem gX5_explains_X0_explained : GoodIn wsX5_explains (wsV RX5 240 RX0 yX0_explained wsX0_explained) := goodIn_app (goodIn_of _ (by decide +kernel)) ggX5_explains_X0_explained
theorem dX5_explains_0 : decode cX5_explains 0 = .ok (.iload_n 1, 1) := by decide +kernel
theorem dX5_explains_1 : decode cX5_explains 1 = .ok (.iload_n 2, 1) := by decide +kernel
theorem dX5_explains_2 : decode cX5_explains 2 = .ok (.invokestatic 111, 3) := by decide +kernel
theorem dX5_explains_5 : decode cX5_explains 5 = .ok (.ifCond .ne 13, 3) := by decide +kernel
theorem dX5_explains_8 : decode cX5_explains 8 = .ok (.new 48, 3) := by decide +kernel
theorem dX5_explains_11 : decode cX5_explains 11 = .ok (.dup, 1) := by decide +kernel
theorem dX5_explains_12 : decode cX5_explains 12 = .ok (.ldc 115, 2) := by decide +kernel
theorem dX5_explains_14 : decode cX5_explains 14 = .ok (.invokespecial 52, 3) := by decide +kernel
theorem dX5_explains_17 : decode cX5_explains 17 = .ok (.athrow, 1) := by decide +kernel
theorem dX5_explains_18 : decode cX5_explains 18 = .ok (.aload_n 0, 1) := by decide +kernel
theorem dX5_explains_19 : decode cX5_explains 19 = .ok (.getfield 33, 3) := by decide +kernel
theorem dX5_explains_22 : decode cX5_explains 22 = .ok (.aload_n 0, 1) := by decide +kernel
theorem dX5_explains_23 : decode cX5_explains 23 = .ok (.getfield 10, 3) := by decide +kernel
theorem dX5_explains_26 : decode cX5_explains 26 = .ok (.iload_n 1, 1) := by decide +kernel
theorem dX5_explains_27 : decode cX5_explains 27 = .ok (.iload_n 2, 1) := by decide +kernel
theorem dX5_explains_28 : decode cX5_explains 28 = .ok (.invokevirtual 236, 3) := by decide +kernel
theorem dX5_explains_31 : decode cX5_explains 31 = .ok (.aload_n 0, 1) := by decide +kernel
theorem dX5_explains_32 : decode cX5_explains 32 = .ok (.getfield 33, 3) := by decide +kernel
theorem dX5_explains_35 : decode cX5_explains 35 = .ok (.invokevirtual 240, 3) := by decide +kernel
theorem dX5_explains_38 : decode cX5_explains 38 = .ok (.ireturn, 1) := by decide +kernel
set_option maxRecDepth 20000 in
theorem ggX5_best_X5_isTenthsRange : GoodIn wsX5_best wsX5_isTenthsRange := goodIn_r _ [6, 7, 8, 5, 9, 10, 11, 12] (by decide +kernel) (by decide +kernel)
set_option maxRecDepth 20000 in
theorem gX5_best_X5_isTenthsRange : GoodIn wsX5_best (va_wsS RX5 136 yX5_isTenthsRange wsX5_isTenthsRange) := goodIn_app (goodIn_of _ (by decide +kernel)) ggX5_best_X5_isTenthsRange
set_option maxRecDepth 20000 in
theorem ggX5_best_X5_bestTenths : GoodIn wsX5_best wsX5_bestTenths := goodIn_r _ [16, 17, 18, 19, 20, 21, 22, 23, 24, 25, 26, 27, 28, 29, 30, 31, 32, 33, 34, 35, 36, 37, 38, 39, 40, 41, 42, 43, 44, 45, 46, 47, 48, 49, 50, 51, 52, 53, 5, 54, 55, 56, 57, 58, 59, 60, 61, 62, 63, 64, 65, 66, 67, 68, 69, 70, 71, 72, 73, 74, 75, 76, 77, 78, 79, 80, 81, 82, 83, 84, 85, 86, 87, 88, 89] (by decide +kernel) (by decide +kernel)
set_option maxRecDepth 20000 in
theorem gX5_best_X5_bestTenths : GoodIn wsX5_best (wsV RX5 141 RX5 yX5_bestTenths wsX5_bestTenths) := goodIn_app (goodIn_of _ (by decide +kernel)) ggX5_best_X5_bestTenths
theorem dX5_best_0 : decode cX5_best 0 = .ok (.iload_n 1, 1) := by decide +kernel
theorem dX5_best_1 : decode cX5_best 1 = .ok (.iload_n 2, 1) := by decide +kernel
theorem dX5_best_2 : decode cX5_best 2 = .ok (.invokestatic 136, 3) := by decide +kernel
theorem dX5_best_5 : decode cX5_best 5 = .ok (.ifCond .ne 13, 3) := by decide +kernel
theorem dX5_best_8 : decode cX5_best 8 = .ok (.new 48, 3) := by decide +kernel
theorem dX5_best_11 : decode cX5_best 11 = .ok (.dup, 1) := by decide +kernel
theorem dX5_best_12 : decode cX5_best 12 = .ok (.ldc 139, 2) := by decide +kernel
theorem dX5_best_14 : decode cX5_best 14 = .ok (.invokespecial 52, 3) := by decide +kernel
theorem dX5_best_17 : decode cX5_best 17 = .ok (.athrow, 1) := by decide +kernel
theorem dX5_best_18 : decode cX5_best 18 = .ok (.aload_n 0, 1) := by decide +kernel
theorem dX5_best_19 : decode cX5_best 19 = .ok (.iload_n 1, 1) := by decide +kernel
theorem dX5_best_20 : decode cX5_best 20 = .ok (.iload_n 2, 1) := by decide +kernel
theorem dX5_best_21 : decode cX5_best 21 = .ok (.invokevirtual 141, 3) := by decide +kernel
theorem dX5_best_24 : decode cX5_best 24 = .ok (.ireturn, 1) := by decide +kernel
set_option maxRecDepth 20000 in
theorem ggX5_bestPhase_X5_isTenths : GoodIn wsX5_bestPhase wsX5_isTenths := goodIn_r _ [8, 9, 10, 7, 11] (by decide +kernel) (by decide +kernel)
set_option maxRecDepth 20000 in
theorem gX5_bestPhase_X5_isTenths : GoodIn wsX5_bestPhase (va_wsS RX5 100 yX5_isTenths wsX5_isTenths) := goodIn_app (goodIn_of _ (by decide +kernel)) ggX5_bestPhase_X5_isTenths
set_option maxRecDepth 20000 in
theorem ggX5_bestPhase_X0_takeWindow : GoodIn wsX5_bestPhase wsX0_takeWindow := goodIn_r _ [16, 17, 18, 19, 20, 21, 22, 23, 24, 25, 26, 27, 28, 29, 30, 31, 32, 33, 34, 35, 36, 37, 38, 15, 39, 40, 41, 42, 43, 44, 45, 46, 7, 47, 48, 49, 50, 51, 52, 53, 54, 72, 73, 74, 75, 76, 77, 78, 79, 80, 81] (by decide +kernel) (by decide +kernel)
set_option maxRecDepth 20000 in
theorem gX5_bestPhase_X0_takeWindow : GoodIn wsX5_bestPhase (wsV RX5 236 RX0 yX0_takeWindow wsX0_takeWindow) := goodIn_app (goodIn_of _ (by decide +kernel)) ggX5_bestPhase_X0_takeWindow
set_option maxRecDepth 20000 in
theorem ggX5_bestPhase_X0_explained : GoodIn wsX5_bestPhase wsX0_explained := goodIn_r _ [58, 41, 59, 60, 61, 15, 62, 63, 64, 65, 66, 40, 80, 81] (by decide +kernel) (by decide +kernel)
set_option maxRecDepth 20000 in
theorem gX5_bestPhase_X0_explained : GoodIn wsX5_bestPhase (wsV RX5 240 RX0 yX0_explained wsX0_explained) := goodIn_app (goodIn_of _ (by decide +kernel)) ggX5_bestPhase_X0_explained
theorem dX5_bestPhase_0 : decode cX5_bestPhase 0 = .ok (.iload_n 1, 1) := by decide +kernel
theorem dX5_bestPhase_1 : decode cX5_bestPhase 1 = .ok (.invokestatic 100, 3) := by decide +kernel
theorem dX5_bestPhase_4 : decode cX5_bestPhase 4 = .ok (.ifCond .ne 13, 3) := by decide +kernel
theorem dX5_bestPhase_7 : decode cX5_bestPhase 7 = .ok (.new 48, 3) := by decide +kernel
theorem dX5_bestPhase_10 : decode cX5_bestPhase 10 = .ok (.dup, 1) := by decide +kernel
theorem dX5_bestPhase_11 : decode cX5_bestPhase 11 = .ok (.ldc 243, 2) := by decide +kernel
theorem dX5_bestPhase_13 : decode cX5_bestPhase 13 = .ok (.invokespecial 52, 3) := by decide +kernel
theorem dX5_bestPhase_16 : decode cX5_bestPhase 16 = .ok (.athrow, 1) := by decide +kernel
theorem dX5_bestPhase_17 : decode cX5_bestPhase 17 = .ok (.iconst 0, 1) := by decide +kernel
theorem dX5_bestPhase_18 : decode cX5_bestPhase 18 = .ok (.istore_n 2, 1) := by decide +kernel
theorem dX5_bestPhase_19 : decode cX5_bestPhase 19 = .ok (.iconst (-1), 1) := by decide +kernel
theorem dX5_bestPhase_20 : decode cX5_bestPhase 20 = .ok (.istore_n 3, 1) := by decide +kernel
theorem dX5_bestPhase_21 : decode cX5_bestPhase 21 = .ok (.iconst 0, 1) := by decide +kernel
theorem dX5_bestPhase_22 : decode cX5_bestPhase 22 = .ok (.istore 4, 2) := by decide +kernel
theorem dX5_bestPhase_24 : decode cX5_bestPhase 24 = .ok (.iload 4, 2) := by decide +kernel
theorem dX5_bestPhase_26 : decode cX5_bestPhase 26 = .ok (.iload_n 1, 1) := by decide +kernel
theorem dX5_bestPhase_27 : decode cX5_bestPhase 27 = .ok (.if_icmp .ge 44, 3) := by decide +kernel
theorem dX5_bestPhase_30 : decode cX5_bestPhase 30 = .ok (.aload_n 0, 1) := by decide +kernel
theorem dX5_bestPhase_31 : decode cX5_bestPhase 31 = .ok (.getfield 33, 3) := by decide +kernel
theorem dX5_bestPhase_34 : decode cX5_bestPhase 34 = .ok (.aload_n 0, 1) := by decide +kernel
theorem dX5_bestPhase_35 : decode cX5_bestPhase 35 = .ok (.getfield 10, 3) := by decide +kernel
theorem dX5_bestPhase_38 : decode cX5_bestPhase 38 = .ok (.iload_n 1, 1) := by decide +kernel
theorem dX5_bestPhase_39 : decode cX5_bestPhase 39 = .ok (.iload 4, 2) := by decide +kernel
theorem dX5_bestPhase_41 : decode cX5_bestPhase 41 = .ok (.invokevirtual 236, 3) := by decide +kernel
theorem dX5_bestPhase_44 : decode cX5_bestPhase 44 = .ok (.aload_n 0, 1) := by decide +kernel
theorem dX5_bestPhase_45 : decode cX5_bestPhase 45 = .ok (.getfield 33, 3) := by decide +kernel
theorem dX5_bestPhase_48 : decode cX5_bestPhase 48 = .ok (.invokevirtual 240, 3) := by decide +kernel
theorem dX5_bestPhase_51 : decode cX5_bestPhase 51 = .ok (.istore 5, 2) := by decide +kernel
theorem dX5_bestPhase_53 : decode cX5_bestPhase 53 = .ok (.iload 5, 2) := by decide +kernel
theorem dX5_bestPhase_55 : decode cX5_bestPhase 55 = .ok (.iload_n 3, 1) := by decide +kernel
theorem dX5_bestPhase_56 : decode cX5_bestPhase 56 = .ok (.if_icmp .le 9, 3) := by decide +kernel
theorem dX5_bestPhase_59 : decode cX5_bestPhase 59 = .ok (.iload 4, 2) := by decide +kernel
theorem dX5_bestPhase_61 : decode cX5_bestPhase 61 = .ok (.istore_n 2, 1) := by decide +kernel
theorem dX5_bestPhase_62 : decode cX5_bestPhase 62 = .ok (.iload 5, 2) := by decide +kernel
theorem dX5_bestPhase_64 : decode cX5_bestPhase 64 = .ok (.istore_n 3, 1) := by decide +kernel
theorem dX5_bestPhase_65 : decode cX5_bestPhase 65 = .ok (.iinc 4 1, 3) := by decide +kernel
theorem dX5_bestPhase_68 : decode cX5_bestPhase 68 = .ok (.goto (-44), 3) := by decide +kernel
theorem dX5_bestPhase_71 : decode cX5_bestPhase 71 = .ok (.iload_n 2, 1) := by decide +kernel
theorem dX5_bestPhase_72 : decode cX5_bestPhase 72 = .ok (.ireturn, 1) := by decide +kernel
set_option maxRecDepth 20000 in
theorem ggX5_bestWindow_X5_isTenths : GoodIn wsX5_bestWindow wsX5_isTenths := goodIn_r _ [8, 9, 10, 7, 11] (by decide +kernel) (by decide +kernel)
set_option maxRecDepth 20000 in
theorem gX5_bestWindow_X5_isTenths : GoodIn wsX5_bestWindow (va_wsS RX5 100 yX5_isTenths wsX5_isTenths) := goodIn_app (goodIn_of _ (by decide +kernel)) ggX5_bestWindow_X5_isTenths
set_option maxRecDepth 20000 in
theorem ggX5_bestWindow_X5_isWithin : GoodIn wsX5_bestWindow wsX5_isWithin := goodIn_r _ [11] (by decide +kernel) (by decide +kernel)
set_option maxRecDepth 20000 in
theorem gX5_bestWindow_X5_isWithin : GoodIn wsX5_bestWindow (va_wsS RX5 88 yX5_isWithin wsX5_isWithin) := goodIn_app (goodIn_of _ (by decide +kernel)) ggX5_bestWindow_X5_isWithin
set_option maxRecDepth 20000 in
theorem ggX5_bestWindow_X0_takeStretch : GoodIn wsX5_bestWindow wsX0_takeStretch := goodIn_r _ [16, 17, 18, 19, 20, 21, 22, 23, 7, 24, 25, 26, 27, 28, 29, 30, 31, 32, 33, 59, 60, 51, 52, 53, 54, 55, 56, 57, 58] (by decide +kernel) (by decide +kernel)
set_option maxRecDepth 20000 in
theorem gX5_bestWindow_X0_takeStretch : GoodIn wsX5_bestWindow (wsV RX5 247 RX0 yX0_takeStretch wsX0_takeStretch) := goodIn_app (goodIn_of _ (by decide +kernel)) ggX5_bestWindow_X0_takeStretch
set_option maxRecDepth 20000 in
theorem ggX5_bestWindow_X0_explained : GoodIn wsX5_bestWindow wsX0_explained := goodIn_r _ [37, 18, 38, 39, 40, 15, 41, 42, 43, 44, 45, 17, 59, 60] (by decide +kernel) (by decide +kernel)
set_option maxRecDepth 20000 in
theorem gX5_bestWindow_X0_explained : GoodIn wsX5_bestWindow (wsV RX5 240 RX0 yX0_explained wsX0_explained) := goodIn_app (goodIn_of _ (by decide +kernel)) ggX5_bestWindow_X0_explained
theorem dX5_bestWindow_0 : decode cX5_bestWindow 0 = .ok (.iload_n 1, 1) := by decide +kernel
theorem dX5_bestWindow_1 : decode cX5_bestWindow 1 = .ok (.invokestatic 100, 3) := by decide +kernel
theorem dX5_bestWindow_4 : decode cX5_bestWindow 4 = .ok (.ifCond .eq 14, 3) := by decide +kernel
theorem dX5_bestWindow_7 : decode cX5_bestWindow 7 = .ok (.iload_n 2, 1) := by decide +kernel
theorem dX5_bestWindow_8 : decode cX5_bestWindow 8 = .ok (.iconst 1, 1) := by decide +kernel
theorem dX5_bestWindow_9 : decode cX5_bestWindow 9 = .ok (.sipush 240, 3) := by decide +kernel
theorem dX5_bestWindow_12 : decode cX5_bestWindow 12 = .ok (.invokestatic 88, 3) := by decide +kernel
theorem dX5_bestWindow_15 : decode cX5_bestWindow 15 = .ok (.ifCond .ne 13, 3) := by decide +kernel
theorem dX5_bestWindow_18 : decode cX5_bestWindow 18 = .ok (.new 48, 3) := by decide +kernel
theorem dX5_bestWindow_21 : decode cX5_bestWindow 21 = .ok (.dup, 1) := by decide +kernel
theorem dX5_bestWindow_22 : decode cX5_bestWindow 22 = .ok (.ldc 245, 2) := by decide +kernel
theorem dX5_bestWindow_24 : decode cX5_bestWindow 24 = .ok (.invokespecial 52, 3) := by decide +kernel
theorem dX5_bestWindow_27 : decode cX5_bestWindow 27 = .ok (.athrow, 1) := by decide +kernel
theorem dX5_bestWindow_28 : decode cX5_bestWindow 28 = .ok (.iconst (-1), 1) := by decide +kernel
theorem dX5_bestWindow_29 : decode cX5_bestWindow 29 = .ok (.istore_n 3, 1) := by decide +kernel
theorem dX5_bestWindow_30 : decode cX5_bestWindow 30 = .ok (.iconst (-1), 1) := by decide +kernel
theorem dX5_bestWindow_31 : decode cX5_bestWindow 31 = .ok (.istore 4, 2) := by decide +kernel
theorem dX5_bestWindow_33 : decode cX5_bestWindow 33 = .ok (.aload_n 0, 1) := by decide +kernel
theorem dX5_bestWindow_34 : decode cX5_bestWindow 34 = .ok (.getfield 10, 3) := by decide +kernel
theorem dX5_bestWindow_37 : decode cX5_bestWindow 37 = .ok (.getfield 55, 3) := by decide +kernel
theorem dX5_bestWindow_40 : decode cX5_bestWindow 40 = .ok (.iload_n 2, 1) := by decide +kernel
theorem dX5_bestWindow_41 : decode cX5_bestWindow 41 = .ok (.isub, 1) := by decide +kernel
theorem dX5_bestWindow_42 : decode cX5_bestWindow 42 = .ok (.istore 5, 2) := by decide +kernel
theorem dX5_bestWindow_44 : decode cX5_bestWindow 44 = .ok (.iconst 0, 1) := by decide +kernel
theorem dX5_bestWindow_45 : decode cX5_bestWindow 45 = .ok (.istore 6, 2) := by decide +kernel
theorem dX5_bestWindow_47 : decode cX5_bestWindow 47 = .ok (.iload 6, 2) := by decide +kernel
theorem dX5_bestWindow_49 : decode cX5_bestWindow 49 = .ok (.iload 5, 2) := by decide +kernel
theorem dX5_bestWindow_51 : decode cX5_bestWindow 51 = .ok (.if_icmp .gt 48, 3) := by decide +kernel
theorem dX5_bestWindow_54 : decode cX5_bestWindow 54 = .ok (.aload_n 0, 1) := by decide +kernel
theorem dX5_bestWindow_55 : decode cX5_bestWindow 55 = .ok (.getfield 33, 3) := by decide +kernel
theorem dX5_bestWindow_58 : decode cX5_bestWindow 58 = .ok (.aload_n 0, 1) := by decide +kernel
theorem dX5_bestWindow_59 : decode cX5_bestWindow 59 = .ok (.getfield 10, 3) := by decide +kernel
theorem dX5_bestWindow_62 : decode cX5_bestWindow 62 = .ok (.iload_n 1, 1) := by decide +kernel
theorem dX5_bestWindow_63 : decode cX5_bestWindow 63 = .ok (.iconst 0, 1) := by decide +kernel
theorem dX5_bestWindow_64 : decode cX5_bestWindow 64 = .ok (.iload 6, 2) := by decide +kernel
theorem dX5_bestWindow_66 : decode cX5_bestWindow 66 = .ok (.iload_n 2, 1) := by decide +kernel
theorem dX5_bestWindow_67 : decode cX5_bestWindow 67 = .ok (.invokevirtual 247, 3) := by decide +kernel
theorem dX5_bestWindow_70 : decode cX5_bestWindow 70 = .ok (.aload_n 0, 1) := by decide +kernel
theorem dX5_bestWindow_71 : decode cX5_bestWindow 71 = .ok (.getfield 33, 3) := by decide +kernel
theorem dX5_bestWindow_74 : decode cX5_bestWindow 74 = .ok (.invokevirtual 240, 3) := by decide +kernel
theorem dX5_bestWindow_77 : decode cX5_bestWindow 77 = .ok (.istore 7, 2) := by decide +kernel
theorem dX5_bestWindow_79 : decode cX5_bestWindow 79 = .ok (.iload 7, 2) := by decide +kernel
theorem dX5_bestWindow_81 : decode cX5_bestWindow 81 = .ok (.iload 4, 2) := by decide +kernel
theorem dX5_bestWindow_83 : decode cX5_bestWindow 83 = .ok (.if_icmp .le 10, 3) := by decide +kernel
theorem dX5_bestWindow_86 : decode cX5_bestWindow 86 = .ok (.iload 6, 2) := by decide +kernel
theorem dX5_bestWindow_88 : decode cX5_bestWindow 88 = .ok (.istore_n 3, 1) := by decide +kernel
theorem dX5_bestWindow_89 : decode cX5_bestWindow 89 = .ok (.iload 7, 2) := by decide +kernel
theorem dX5_bestWindow_91 : decode cX5_bestWindow 91 = .ok (.istore 4, 2) := by decide +kernel
theorem dX5_bestWindow_93 : decode cX5_bestWindow 93 = .ok (.iinc 6 1, 3) := by decide +kernel
theorem dX5_bestWindow_96 : decode cX5_bestWindow 96 = .ok (.goto (-49), 3) := by decide +kernel
theorem dX5_bestWindow_99 : decode cX5_bestWindow 99 = .ok (.iload_n 3, 1) := by decide +kernel
theorem dX5_bestWindow_100 : decode cX5_bestWindow 100 = .ok (.ireturn, 1) := by decide +kernel
set_option maxRecDepth 20000 in
theorem ggX5_share_X3_read : GoodIn wsX5_share wsX3_read := goodIn_r _ [8, 9, 10, 11, 12, 13, 14, 15, 16, 17, 7, 18, 19, 20, 21, 22, 23, 24, 25, 26, 27, 28, 29, 30, 31, 32, 33, 34, 35, 36, 37, 38, 39, 40, 41, 42, 43, 44, 45, 46, 47, 48, 49, 50, 51, 52, 53, 54, 55, 56, 57, 58, 59, 60, 61, 62, 63, 64, 65, 66, 67, 68, 69, 70, 71, 72, 73, 74, 75, 76, 77, 78, 79, 80, 81, 82, 83, 84, 85, 86, 87, 88, 89, 90, 91, 92, 93, 94, 95, 96, 97, 98, 99, 100, 101, 102, 103, 104, 105, 106, 107, 108, 109, 110, 111, 112, 113, 114, 115, 139, 140, 141, 142, 143, 144, 145, 146, 147, 148, 149, 150, 151] (by decide +kernel) (by decide +kernel)
set_option maxRecDepth 20000 in
theorem gX5_share_X3_read : GoodIn wsX5_share (wsV RX5 146 RX3 yX3_read wsX3_read) := goodIn_app (goodIn_of _ (by decide +kernel)) ggX5_share_X3_read
set_option maxRecDepth 20000 in
theorem ggX5_share_X5_shareTold : GoodIn wsX5_share wsX5_shareTold := goodIn_r _ [119, 2, 1, 120, 50, 51, 28, 52, 47, 53, 48, 54, 55, 56, 57, 58, 59, 60, 121, 122, 123, 7, 124, 105, 106, 107, 108, 109, 44, 45, 46, 110, 111, 125, 126, 127, 128, 129, 130, 131, 132, 10, 31, 32, 33, 133, 73, 74, 75, 76, 134, 135, 136, 137, 138, 142, 143, 144, 145, 146, 147, 148, 149, 139, 140, 141] (by decide +kernel) (by decide +kernel)
set_option maxRecDepth 20000 in
theorem gX5_share_X5_shareTold : GoodIn wsX5_share (wsV RX5 251 RX5 yX5_shareTold wsX5_shareTold) := goodIn_app (goodIn_of _ (by decide +kernel)) ggX5_share_X5_shareTold
theorem dX5_share_0 : decode cX5_share 0 = .ok (.aload_n 0, 1) := by decide +kernel
theorem dX5_share_1 : decode cX5_share 1 = .ok (.getfield 40, 3) := by decide +kernel
theorem dX5_share_4 : decode cX5_share 4 = .ok (.aload_n 0, 1) := by decide +kernel
theorem dX5_share_5 : decode cX5_share 5 = .ok (.getfield 10, 3) := by decide +kernel
theorem dX5_share_8 : decode cX5_share 8 = .ok (.aload_n 0, 1) := by decide +kernel
theorem dX5_share_9 : decode cX5_share 9 = .ok (.getfield 33, 3) := by decide +kernel
theorem dX5_share_12 : decode cX5_share 12 = .ok (.invokevirtual 146, 3) := by decide +kernel
theorem dX5_share_15 : decode cX5_share 15 = .ok (.aload_n 0, 1) := by decide +kernel
theorem dX5_share_16 : decode cX5_share 16 = .ok (.invokevirtual 251, 3) := by decide +kernel
theorem dX5_share_19 : decode cX5_share 19 = .ok (.dreturn, 1) := by decide +kernel
set_option maxRecDepth 20000 in
theorem ggX5_digest_X3_read : GoodIn wsX5_digest wsX3_read := goodIn_r _ [9, 10, 11, 12, 13, 14, 15, 16, 17, 18, 8, 19, 20, 21, 22, 23, 24, 25, 26, 27, 28, 29, 30, 31, 32, 33, 34, 35, 36, 37, 38, 39, 40, 41, 42, 43, 44, 45, 46, 47, 48, 49, 50, 51, 52, 53, 54, 55, 56, 57, 58, 59, 60, 61, 62, 63, 64, 65, 66, 67, 68, 69, 70, 71, 72, 73, 74, 75, 76, 77, 78, 79, 80, 81, 82, 83, 84, 85, 86, 87, 88, 89, 90, 91, 92, 93, 94, 95, 96, 97, 98, 99, 100, 101, 102, 103, 104, 105, 106, 107, 108, 109, 110, 111, 112, 113, 114, 115, 116, 270, 271, 272, 273, 274, 275, 276, 277, 278, 279, 280, 281, 282] (by decide +kernel) (by decide +kernel)
set_option maxRecDepth 20000 in
theorem gX5_digest_X3_read : GoodIn wsX5_digest (wsV RX5 146 RX3 yX3_read wsX3_read) := goodIn_app (goodIn_of _ (by decide +kernel)) ggX5_digest_X3_read
set_option maxRecDepth 20000 in
theorem ggX5_digest_X5_withNumbers : GoodIn wsX5_digest wsX5_withNumbers := goodIn_r _ [120, 2, 121, 122, 123, 33, 124, 1, 125, 126, 51, 52, 29, 53, 48, 54, 49, 55, 56, 57, 58, 59, 60, 61, 127, 45, 46, 47, 128, 129, 130, 8, 131, 106, 107, 108, 109, 110, 111, 112, 132, 133, 134, 135, 136, 137, 138, 139, 11, 32, 34, 140, 74, 75, 76, 77, 141, 142, 143, 144, 113, 114, 115, 116, 10, 145, 146, 147, 148, 149, 150, 151, 152, 153, 154, 155, 156, 157, 158, 159, 160, 161, 162, 163, 164, 165, 166, 167, 168, 169, 265, 266, 267, 268, 269, 273, 274, 275, 276, 277, 278, 279, 280, 283, 284, 285, 270, 271, 272] (by decide +kernel) (by decide +kernel)
set_option maxRecDepth 20000 in
theorem gX5_digest_X5_withNumbers : GoodIn wsX5_digest (wsV RX5 257 RX5 yX5_withNumbers wsX5_withNumbers) := goodIn_app (goodIn_of _ (by decide +kernel)) ggX5_digest_X5_withNumbers
set_option maxRecDepth 20000 in
theorem ggX5_digest_X5_withRow : GoodIn wsX5_digest wsX5_withRow := goodIn_r _ [173, 2, 174, 74, 75, 29, 76, 54, 77, 161, 162, 33, 163, 164, 265, 266, 267, 268, 269, 273, 274, 275, 276, 277, 278, 279, 280] (by decide +kernel) (by decide +kernel)
set_option maxRecDepth 20000 in
theorem gX5_digest_X5_withRow : GoodIn wsX5_digest (wsV RX5 261 RX5 yX5_withRow wsX5_withRow) := goodIn_app (goodIn_of _ (by decide +kernel)) ggX5_digest_X5_withRow
set_option maxRecDepth 20000 in
theorem ggX5_digest_X5_withPeriods : GoodIn wsX5_digest wsX5_withPeriods := goodIn_r _ [178, 2, 179, 180, 181, 33, 182, 1, 3, 183, 27, 28, 29, 30, 31, 32, 34, 184, 36, 37, 38, 39, 185, 69, 70, 141, 142, 143, 8, 144, 106, 107, 108, 109, 110, 45, 46, 47, 48, 49, 111, 51, 52, 53, 54, 55, 56, 57, 58, 59, 60, 61, 112, 113, 114, 115, 116, 10, 186, 22, 23, 24, 25, 26, 35, 40, 41, 42, 43, 44, 50, 62, 63, 64, 65, 66, 67, 68, 13, 14, 15, 71, 72, 73, 74, 75, 76, 77, 187, 188, 189, 190, 82, 83, 84, 85, 86, 87, 88, 89, 145, 146, 147, 148, 149, 150, 151, 152, 153, 154, 155, 191, 192, 193, 194, 195, 79, 80, 81, 90, 91, 92, 93, 94, 95, 96, 97, 161, 162, 163, 164, 196, 197, 198, 199, 200, 201, 202, 203, 265, 266, 267, 268, 269, 273, 274, 275, 276, 277, 278, 279, 280, 270, 271, 272, 281, 282] (by decide +kernel) (by decide +kernel)
set_option maxRecDepth 20000 in
theorem gX5_digest_X5_withPeriods : GoodIn wsX5_digest (wsV RX5 264 RX5 yX5_withPeriods wsX5_withPeriods) := goodIn_app (goodIn_of _ (by decide +kernel)) ggX5_digest_X5_withPeriods
set_option maxRecDepth 20000 in
theorem ggX5_digest_X5_withTold : GoodIn wsX5_digest wsX5_withTold := goodIn_r _ [207, 2, 208, 209, 210, 33, 211, 1, 212, 137, 138, 8, 139, 11, 32, 34, 213, 114, 115, 116, 10, 214, 133, 134, 135, 136, 140, 74, 75, 29, 76, 54, 77, 161, 162, 163, 164, 265, 266, 267, 268, 269, 273, 274, 275, 276, 277, 278, 279, 280, 270, 271, 272] (by decide +kernel) (by decide +kernel)
set_option maxRecDepth 20000 in
theorem gX5_digest_X5_withTold : GoodIn wsX5_digest (wsV RX5 267 RX5 yX5_withTold wsX5_withTold) := goodIn_app (goodIn_of _ (by decide +kernel)) ggX5_digest_X5_withTold
set_option maxRecDepth 20000 in
theorem ggX5_digest_X5_best : GoodIn wsX5_digest wsX5_best := goodIn_ca (goodIn_r _ [218, 219, 220, 221, 222, 33, 223, 224, 225, 226, 227, 228, 229, 230, 231, 232, 233, 3, 2, 234, 41, 42, 24, 43, 44, 45, 46, 29, 47, 48, 49, 50, 51, 52, 53, 54, 55, 56, 57, 58, 59, 60, 61, 62, 63, 64, 65, 66, 67, 68, 13, 14, 15, 69, 70, 71, 72, 73, 74, 75, 76, 77, 187, 188, 189, 190, 82, 83, 84, 85, 86, 87, 88, 89, 185, 265, 266, 267, 268, 269, 273, 274, 275, 276, 277, 278, 279, 280, 281, 282] (by decide +kernel) (by decide +kernel)) (goodIn_sub (fun _ h => List.mem_cons_of_mem _ (List.mem_append_right _ h)) (by decide +kernel))
set_option maxRecDepth 20000 in
theorem gX5_digest_X5_best : GoodIn wsX5_digest (wsV RX5 270 RX5 yX5_best wsX5_best) := goodIn_app (goodIn_of _ (by decide +kernel)) ggX5_digest_X5_best
set_option maxRecDepth 20000 in
theorem ggX5_digest_X5_with : GoodIn wsX5_digest wsX5_with := goodIn_r _ [163, 164] (by decide +kernel) (by decide +kernel)
set_option maxRecDepth 20000 in
theorem gX5_digest_X5_with : GoodIn wsX5_digest (va_wsS RX5 273 yX5_with wsX5_with) := goodIn_app (goodIn_of _ (by decide +kernel)) ggX5_digest_X5_with
set_option maxRecDepth 20000 in
theorem ggX5_digest_X5_bestPhase : GoodIn wsX5_digest wsX5_bestPhase := goodIn_ca (goodIn_r _ [238, 219, 220, 3, 2, 224, 225, 33, 226, 227, 228, 229, 234, 41, 42, 24, 43, 44, 45, 46, 29, 47, 48, 49, 50, 51, 52, 53, 54, 55, 56, 57, 58, 59, 60, 61, 62, 63, 64, 65, 66, 67, 68, 13, 14, 15, 69, 70, 71, 72, 73, 74, 75, 76, 77, 187, 188, 189, 190, 82, 83, 84, 85, 86, 87, 88, 89, 265, 266, 267, 268, 269, 273, 274, 275, 276, 277, 278, 279, 280, 281, 282] (by decide +kernel) (by decide +kernel)) (goodIn_sub (fun _ h => List.mem_cons_of_mem _ (List.mem_append_right _ h)) (by decide +kernel))
set_option maxRecDepth 20000 in
theorem gX5_digest_X5_bestPhase : GoodIn wsX5_digest (wsV RX5 277 RX5 yX5_bestPhase wsX5_bestPhase) := goodIn_app (goodIn_of _ (by decide +kernel)) ggX5_digest_X5_bestPhase
set_option maxRecDepth 20000 in
theorem ggX5_digest_X5_bestWindow : GoodIn wsX5_digest wsX5_bestWindow := goodIn_ca (goodIn_r _ [242, 219, 220, 2, 3, 224, 225, 33, 226, 227, 228, 229, 243, 63, 64, 24, 65, 66, 67, 68, 13, 14, 15, 69, 70, 71, 72, 73, 74, 75, 29, 76, 54, 77, 187, 188, 189, 190, 82, 83, 84, 85, 86, 87, 88, 89, 265, 266, 267, 268, 269, 273, 274, 275, 276, 277, 278, 279, 280, 281, 282] (by decide +kernel) (by decide +kernel)) (goodIn_sub (fun _ h => List.mem_cons_of_mem _ (List.mem_append_right _ h)) (by decide +kernel))
set_option maxRecDepth 20000 in
theorem gX5_digest_X5_bestWindow : GoodIn wsX5_digest (wsV RX5 280 RX5 yX5_bestWindow wsX5_bestWindow) := goodIn_app (goodIn_of _ (by decide +kernel)) ggX5_digest_X5_bestWindow
set_option maxRecDepth 20000 in
theorem ggX5_digest_X5_shareTold : GoodIn wsX5_digest wsX5_shareTold := goodIn_r _ [247, 2, 1, 126, 51, 52, 29, 53, 48, 54, 49, 55, 56, 57, 58, 59, 60, 61, 128, 129, 130, 8, 131, 106, 107, 108, 109, 110, 45, 46, 47, 111, 112, 132, 133, 134, 135, 136, 137, 138, 139, 11, 32, 33, 34, 140, 74, 75, 76, 77, 265, 266, 267, 268, 269, 273, 274, 275, 276, 277, 278, 279, 280, 270, 271, 272] (by decide +kernel) (by decide +kernel)
set_option maxRecDepth 20000 in
theorem gX5_digest_X5_shareTold : GoodIn wsX5_digest (wsV RX5 251 RX5 yX5_shareTold wsX5_shareTold) := goodIn_app (goodIn_of _ (by decide +kernel)) ggX5_digest_X5_shareTold
set_option maxRecDepth 20000 in
theorem ggX5_digest_X5_bitsOf : GoodIn wsX5_digest wsX5_bitsOf := goodIn_r _ [250, 251, 252, 253] (by decide +kernel) (by decide +kernel)
set_option maxRecDepth 20000 in
theorem gX5_digest_X5_bitsOf : GoodIn wsX5_digest (va_wsS RX5 283 yX5_bitsOf wsX5_bitsOf) := goodIn_app (goodIn_of _ (by decide +kernel)) ggX5_digest_X5_bitsOf
set_option maxRecDepth 20000 in
theorem ggX5_digest_X5_withText : GoodIn wsX5_digest wsX5_withText := goodIn_r _ [257, 258, 161, 162, 33, 163, 164, 259, 260, 261, 262, 263, 264, 32, 34, 265, 266, 267, 268, 269, 286, 287, 288] (by decide +kernel) (by decide +kernel)
set_option maxRecDepth 20000 in
theorem gX5_digest_X5_withText : GoodIn wsX5_digest (wsV RX5 287 RX5 yX5_withText wsX5_withText) := goodIn_app (goodIn_of _ (by decide +kernel)) ggX5_digest_X5_withText
theorem dX5_digest_0 : decode cX5_digest 0 = .ok (.aload_n 0, 1) := by decide +kernel
theorem dX5_digest_1 : decode cX5_digest 1 = .ok (.getfield 40, 3) := by decide +kernel
theorem dX5_digest_4 : decode cX5_digest 4 = .ok (.aload_n 0, 1) := by decide +kernel
theorem dX5_digest_5 : decode cX5_digest 5 = .ok (.getfield 10, 3) := by decide +kernel
theorem dX5_digest_8 : decode cX5_digest 8 = .ok (.aload_n 0, 1) := by decide +kernel
theorem dX5_digest_9 : decode cX5_digest 9 = .ok (.getfield 33, 3) := by decide +kernel
theorem dX5_digest_12 : decode cX5_digest 12 = .ok (.invokevirtual 146, 3) := by decide +kernel
theorem dX5_digest_15 : decode cX5_digest 15 = .ok (.aload_n 0, 1) := by decide +kernel
theorem dX5_digest_16 : decode cX5_digest 16 = .ok (.ldc2_w 255, 3) := by decide +kernel
theorem dX5_digest_19 : decode cX5_digest 19 = .ok (.invokevirtual 257, 3) := by decide +kernel
theorem dX5_digest_22 : decode cX5_digest 22 = .ok (.lstore_n 1, 1) := by decide +kernel
theorem dX5_digest_23 : decode cX5_digest 23 = .ok (.aload_n 0, 1) := by decide +kernel
theorem dX5_digest_24 : decode cX5_digest 24 = .ok (.lload_n 1, 1) := by decide +kernel
theorem dX5_digest_25 : decode cX5_digest 25 = .ok (.invokevirtual 261, 3) := by decide +kernel
theorem dX5_digest_28 : decode cX5_digest 28 = .ok (.lstore_n 1, 1) := by decide +kernel
theorem dX5_digest_29 : decode cX5_digest 29 = .ok (.aload_n 0, 1) := by decide +kernel
theorem dX5_digest_30 : decode cX5_digest 30 = .ok (.lload_n 1, 1) := by decide +kernel
theorem dX5_digest_31 : decode cX5_digest 31 = .ok (.invokevirtual 264, 3) := by decide +kernel
theorem dX5_digest_34 : decode cX5_digest 34 = .ok (.lstore_n 1, 1) := by decide +kernel
theorem dX5_digest_35 : decode cX5_digest 35 = .ok (.aload_n 0, 1) := by decide +kernel
theorem dX5_digest_36 : decode cX5_digest 36 = .ok (.lload_n 1, 1) := by decide +kernel
theorem dX5_digest_37 : decode cX5_digest 37 = .ok (.invokevirtual 267, 3) := by decide +kernel
theorem dX5_digest_40 : decode cX5_digest 40 = .ok (.lstore_n 1, 1) := by decide +kernel
theorem dX5_digest_41 : decode cX5_digest 41 = .ok (.lload_n 1, 1) := by decide +kernel
theorem dX5_digest_42 : decode cX5_digest 42 = .ok (.aload_n 0, 1) := by decide +kernel
theorem dX5_digest_43 : decode cX5_digest 43 = .ok (.bipush 20, 2) := by decide +kernel
theorem dX5_digest_45 : decode cX5_digest 45 = .ok (.bipush 60, 2) := by decide +kernel
theorem dX5_digest_47 : decode cX5_digest 47 = .ok (.invokevirtual 270, 3) := by decide +kernel
theorem dX5_digest_50 : decode cX5_digest 50 = .ok (.i2l, 1) := by decide +kernel
theorem dX5_digest_51 : decode cX5_digest 51 = .ok (.invokestatic 273, 3) := by decide +kernel
theorem dX5_digest_54 : decode cX5_digest 54 = .ok (.lstore_n 1, 1) := by decide +kernel
theorem dX5_digest_55 : decode cX5_digest 55 = .ok (.lload_n 1, 1) := by decide +kernel
theorem dX5_digest_56 : decode cX5_digest 56 = .ok (.aload_n 0, 1) := by decide +kernel
theorem dX5_digest_57 : decode cX5_digest 57 = .ok (.bipush 35, 2) := by decide +kernel
theorem dX5_digest_59 : decode cX5_digest 59 = .ok (.invokevirtual 277, 3) := by decide +kernel
theorem dX5_digest_62 : decode cX5_digest 62 = .ok (.i2l, 1) := by decide +kernel
theorem dX5_digest_63 : decode cX5_digest 63 = .ok (.invokestatic 273, 3) := by decide +kernel
theorem dX5_digest_66 : decode cX5_digest 66 = .ok (.lstore_n 1, 1) := by decide +kernel
theorem dX5_digest_67 : decode cX5_digest 67 = .ok (.lload_n 1, 1) := by decide +kernel
theorem dX5_digest_68 : decode cX5_digest 68 = .ok (.aload_n 0, 1) := by decide +kernel
theorem dX5_digest_69 : decode cX5_digest 69 = .ok (.bipush 40, 2) := by decide +kernel
theorem dX5_digest_71 : decode cX5_digest 71 = .ok (.bipush 12, 2) := by decide +kernel
theorem dX5_digest_73 : decode cX5_digest 73 = .ok (.invokevirtual 280, 3) := by decide +kernel
theorem dX5_digest_76 : decode cX5_digest 76 = .ok (.i2l, 1) := by decide +kernel
theorem dX5_digest_77 : decode cX5_digest 77 = .ok (.invokestatic 273, 3) := by decide +kernel
theorem dX5_digest_80 : decode cX5_digest 80 = .ok (.lstore_n 1, 1) := by decide +kernel
theorem dX5_digest_81 : decode cX5_digest 81 = .ok (.lload_n 1, 1) := by decide +kernel
theorem dX5_digest_82 : decode cX5_digest 82 = .ok (.aload_n 0, 1) := by decide +kernel
theorem dX5_digest_83 : decode cX5_digest 83 = .ok (.invokevirtual 251, 3) := by decide +kernel
theorem dX5_digest_86 : decode cX5_digest 86 = .ok (.invokestatic 283, 3) := by decide +kernel
theorem dX5_digest_89 : decode cX5_digest 89 = .ok (.invokestatic 273, 3) := by decide +kernel
theorem dX5_digest_92 : decode cX5_digest 92 = .ok (.lstore_n 1, 1) := by decide +kernel
theorem dX5_digest_93 : decode cX5_digest 93 = .ok (.aload_n 0, 1) := by decide +kernel
theorem dX5_digest_94 : decode cX5_digest 94 = .ok (.lload_n 1, 1) := by decide +kernel
theorem dX5_digest_95 : decode cX5_digest 95 = .ok (.invokevirtual 287, 3) := by decide +kernel
theorem dX5_digest_98 : decode cX5_digest 98 = .ok (.lreturn, 1) := by decide +kernel
theorem dX5_with_0 : decode cX5_with 0 = .ok (.ldc2_w 290, 3) := by decide +kernel
theorem dX5_with_3 : decode cX5_with 3 = .ok (.lload_n 0, 1) := by decide +kernel
theorem dX5_with_4 : decode cX5_with 4 = .ok (.lmul, 1) := by decide +kernel
theorem dX5_with_5 : decode cX5_with 5 = .ok (.lload_n 2, 1) := by decide +kernel
theorem dX5_with_6 : decode cX5_with 6 = .ok (.ladd, 1) := by decide +kernel
theorem dX5_with_7 : decode cX5_with 7 = .ok (.lreturn, 1) := by decide +kernel
set_option maxRecDepth 20000 in
theorem ggX5_withNumbers_X5_number : GoodIn wsX5_withNumbers wsX5_number := goodIn_r _ [6, 1, 7, 8, 9, 10, 11, 12, 13, 14, 15, 16, 17, 18, 19, 20, 21, 22, 23, 24, 25, 26, 27, 28, 29, 30, 31, 32, 33, 34, 35, 36, 37, 38, 39, 40, 41, 42, 43, 44, 45, 46, 47, 48, 49, 5, 50, 51, 52, 53, 54, 55, 56, 57, 58, 59, 60, 61, 62, 63, 64, 65, 66, 67, 68, 69, 70, 71, 72, 73, 74, 75, 76, 77, 78, 79, 80, 90, 91, 92, 93, 94, 95, 96, 97, 98, 99, 100, 101, 102, 103, 104, 105, 106, 107, 108] (by decide +kernel) (by decide +kernel)
set_option maxRecDepth 20000 in
theorem gX5_withNumbers_X5_number : GoodIn wsX5_withNumbers (wsV RX5 233 RX5 yX5_number wsX5_number) := goodIn_app (goodIn_of _ (by decide +kernel)) ggX5_withNumbers_X5_number
set_option maxRecDepth 20000 in
theorem ggX5_withNumbers_X5_with : GoodIn wsX5_withNumbers wsX5_with := goodIn_r _ [83, 84] (by decide +kernel) (by decide +kernel)
set_option maxRecDepth 20000 in
theorem gX5_withNumbers_X5_with : GoodIn wsX5_withNumbers (va_wsS RX5 273 yX5_with wsX5_with) := goodIn_app (goodIn_of _ (by decide +kernel)) ggX5_withNumbers_X5_with
set_option maxRecDepth 20000 in
theorem ggX5_withNumbers_X2_settingAt : GoodIn wsX5_withNumbers wsX2_settingAt := goodIn_r _ [88, 16, 14, 89, 95, 96, 97, 98, 99, 100, 101, 102] (by decide +kernel) (by decide +kernel)
set_option maxRecDepth 20000 in
theorem gX5_withNumbers_X2_settingAt : GoodIn wsX5_withNumbers (wsV RX5 165 RX2 yX2_settingAt wsX2_settingAt) := goodIn_app (goodIn_of _ (by decide +kernel)) ggX5_withNumbers_X2_settingAt
theorem dX5_withNumbers_0 : decode cX5_withNumbers 0 = .ok (.lload_n 1, 1) := by decide +kernel
theorem dX5_withNumbers_1 : decode cX5_withNumbers 1 = .ok (.lstore_n 3, 1) := by decide +kernel
theorem dX5_withNumbers_2 : decode cX5_withNumbers 2 = .ok (.iconst 0, 1) := by decide +kernel
theorem dX5_withNumbers_3 : decode cX5_withNumbers 3 = .ok (.istore 5, 2) := by decide +kernel
theorem dX5_withNumbers_5 : decode cX5_withNumbers 5 = .ok (.iload 5, 2) := by decide +kernel
theorem dX5_withNumbers_7 : decode cX5_withNumbers 7 = .ok (.bipush 10, 2) := by decide +kernel
theorem dX5_withNumbers_9 : decode cX5_withNumbers 9 = .ok (.if_icmp .ge 21, 3) := by decide +kernel
theorem dX5_withNumbers_12 : decode cX5_withNumbers 12 = .ok (.lload_n 3, 1) := by decide +kernel
theorem dX5_withNumbers_13 : decode cX5_withNumbers 13 = .ok (.aload_n 0, 1) := by decide +kernel
theorem dX5_withNumbers_14 : decode cX5_withNumbers 14 = .ok (.iload 5, 2) := by decide +kernel
theorem dX5_withNumbers_16 : decode cX5_withNumbers 16 = .ok (.invokevirtual 233, 3) := by decide +kernel
theorem dX5_withNumbers_19 : decode cX5_withNumbers 19 = .ok (.i2l, 1) := by decide +kernel
theorem dX5_withNumbers_20 : decode cX5_withNumbers 20 = .ok (.invokestatic 273, 3) := by decide +kernel
theorem dX5_withNumbers_23 : decode cX5_withNumbers 23 = .ok (.lstore_n 3, 1) := by decide +kernel
theorem dX5_withNumbers_24 : decode cX5_withNumbers 24 = .ok (.iinc 5 1, 3) := by decide +kernel
theorem dX5_withNumbers_27 : decode cX5_withNumbers 27 = .ok (.goto (-22), 3) := by decide +kernel
theorem dX5_withNumbers_30 : decode cX5_withNumbers 30 = .ok (.iconst 0, 1) := by decide +kernel
theorem dX5_withNumbers_31 : decode cX5_withNumbers 31 = .ok (.istore 5, 2) := by decide +kernel
theorem dX5_withNumbers_33 : decode cX5_withNumbers 33 = .ok (.iload 5, 2) := by decide +kernel
theorem dX5_withNumbers_35 : decode cX5_withNumbers 35 = .ok (.iconst 3, 1) := by decide +kernel
theorem dX5_withNumbers_36 : decode cX5_withNumbers 36 = .ok (.if_icmp .ge 24, 3) := by decide +kernel
theorem dX5_withNumbers_39 : decode cX5_withNumbers 39 = .ok (.lload_n 3, 1) := by decide +kernel
theorem dX5_withNumbers_40 : decode cX5_withNumbers 40 = .ok (.aload_n 0, 1) := by decide +kernel
theorem dX5_withNumbers_41 : decode cX5_withNumbers 41 = .ok (.getfield 10, 3) := by decide +kernel
theorem dX5_withNumbers_44 : decode cX5_withNumbers 44 = .ok (.iload 5, 2) := by decide +kernel
theorem dX5_withNumbers_46 : decode cX5_withNumbers 46 = .ok (.invokevirtual 165, 3) := by decide +kernel
theorem dX5_withNumbers_49 : decode cX5_withNumbers 49 = .ok (.i2l, 1) := by decide +kernel
theorem dX5_withNumbers_50 : decode cX5_withNumbers 50 = .ok (.invokestatic 273, 3) := by decide +kernel
theorem dX5_withNumbers_53 : decode cX5_withNumbers 53 = .ok (.lstore_n 3, 1) := by decide +kernel
theorem dX5_withNumbers_54 : decode cX5_withNumbers 54 = .ok (.iinc 5 1, 3) := by decide +kernel
theorem dX5_withNumbers_57 : decode cX5_withNumbers 57 = .ok (.goto (-24), 3) := by decide +kernel
theorem dX5_withNumbers_60 : decode cX5_withNumbers 60 = .ok (.lload_n 3, 1) := by decide +kernel
theorem dX5_withNumbers_61 : decode cX5_withNumbers 61 = .ok (.lreturn, 1) := by decide +kernel
set_option maxRecDepth 20000 in
theorem ggX5_withRow_X2_signAt : GoodIn wsX5_withRow wsX2_signAt := goodIn_r _ [6, 7, 8, 19, 20, 21, 22, 23, 24, 25, 26] (by decide +kernel) (by decide +kernel)
set_option maxRecDepth 20000 in
theorem gX5_withRow_X2_signAt : GoodIn wsX5_withRow (wsV RX5 80 RX2 yX2_signAt wsX2_signAt) := goodIn_app (goodIn_of _ (by decide +kernel)) ggX5_withRow_X2_signAt
set_option maxRecDepth 20000 in
theorem ggX5_withRow_X5_with : GoodIn wsX5_withRow wsX5_with := goodIn_r _ [12, 13] (by decide +kernel) (by decide +kernel)
set_option maxRecDepth 20000 in
theorem gX5_withRow_X5_with : GoodIn wsX5_withRow (va_wsS RX5 273 yX5_with wsX5_with) := goodIn_app (goodIn_of _ (by decide +kernel)) ggX5_withRow_X5_with
theorem dX5_withRow_0 : decode cX5_withRow 0 = .ok (.lload_n 1, 1) := by decide +kernel
theorem dX5_withRow_1 : decode cX5_withRow 1 = .ok (.lstore_n 3, 1) := by decide +kernel
theorem dX5_withRow_2 : decode cX5_withRow 2 = .ok (.iconst 0, 1) := by decide +kernel
theorem dX5_withRow_3 : decode cX5_withRow 3 = .ok (.istore 5, 2) := by decide +kernel
theorem dX5_withRow_5 : decode cX5_withRow 5 = .ok (.iload 5, 2) := by decide +kernel
theorem dX5_withRow_7 : decode cX5_withRow 7 = .ok (.aload_n 0, 1) := by decide +kernel
theorem dX5_withRow_8 : decode cX5_withRow 8 = .ok (.getfield 10, 3) := by decide +kernel
theorem dX5_withRow_11 : decode cX5_withRow 11 = .ok (.getfield 55, 3) := by decide +kernel
theorem dX5_withRow_14 : decode cX5_withRow 14 = .ok (.if_icmp .ge 24, 3) := by decide +kernel
theorem dX5_withRow_17 : decode cX5_withRow 17 = .ok (.lload_n 3, 1) := by decide +kernel
theorem dX5_withRow_18 : decode cX5_withRow 18 = .ok (.aload_n 0, 1) := by decide +kernel
theorem dX5_withRow_19 : decode cX5_withRow 19 = .ok (.getfield 10, 3) := by decide +kernel
theorem dX5_withRow_22 : decode cX5_withRow 22 = .ok (.iload 5, 2) := by decide +kernel
theorem dX5_withRow_24 : decode cX5_withRow 24 = .ok (.invokevirtual 80, 3) := by decide +kernel
theorem dX5_withRow_27 : decode cX5_withRow 27 = .ok (.i2l, 1) := by decide +kernel
theorem dX5_withRow_28 : decode cX5_withRow 28 = .ok (.invokestatic 273, 3) := by decide +kernel
theorem dX5_withRow_31 : decode cX5_withRow 31 = .ok (.lstore_n 3, 1) := by decide +kernel
theorem dX5_withRow_32 : decode cX5_withRow 32 = .ok (.iinc 5 1, 3) := by decide +kernel
theorem dX5_withRow_35 : decode cX5_withRow 35 = .ok (.goto (-30), 3) := by decide +kernel
theorem dX5_withRow_38 : decode cX5_withRow 38 = .ok (.lload_n 3, 1) := by decide +kernel
theorem dX5_withRow_39 : decode cX5_withRow 39 = .ok (.lreturn, 1) := by decide +kernel
set_option maxRecDepth 20000 in
theorem ggX5_withPeriods_X5_periodNumber : GoodIn wsX5_withPeriods wsX5_periodNumber := goodIn_r _ [6, 1, 7, 8, 9, 10, 11, 12, 13, 14, 15, 5, 16, 17, 18, 19, 20, 21, 22, 23, 24, 25, 26, 27, 28, 29, 30, 31, 32, 33, 34, 35, 36, 37, 38, 39, 40, 41, 42, 43, 44, 45, 46, 47, 48, 49, 50, 51, 52, 53, 54, 55, 56, 57, 58, 59, 60, 61, 62, 63, 64, 65, 66, 67, 68, 69, 70, 71, 72, 73, 74, 75, 76, 77, 78, 79, 80, 81, 82, 83, 84, 85, 86, 87, 88, 89, 90, 91, 92, 93, 94, 95, 96, 97, 98, 99, 100, 101, 102, 103, 104, 105, 106, 107, 108, 109, 110, 111, 112, 113, 114, 115, 116, 117, 118, 119, 120, 121, 122, 123, 124, 125, 126, 139, 140, 141, 142, 143, 144, 145, 146, 147, 148, 149, 150, 151, 152, 153, 154, 155, 156] (by decide +kernel) (by decide +kernel)
set_option maxRecDepth 20000 in
theorem gX5_withPeriods_X5_periodNumber : GoodIn wsX5_withPeriods (wsV RX5 206 RX5 yX5_periodNumber wsX5_periodNumber) := goodIn_app (goodIn_of _ (by decide +kernel)) ggX5_withPeriods_X5_periodNumber
set_option maxRecDepth 20000 in
theorem ggX5_withPeriods_X5_with : GoodIn wsX5_withPeriods wsX5_with := goodIn_r _ [129, 130] (by decide +kernel) (by decide +kernel)
set_option maxRecDepth 20000 in
theorem gX5_withPeriods_X5_with : GoodIn wsX5_withPeriods (va_wsS RX5 273 yX5_with wsX5_with) := goodIn_app (goodIn_of _ (by decide +kernel)) ggX5_withPeriods_X5_with
set_option maxRecDepth 20000 in
theorem ggX5_withPeriods_X5_withCounts : GoodIn wsX5_withPeriods wsX5_withCounts := goodIn_r _ [134, 8, 1, 58, 59, 60, 61, 62, 63, 10, 11, 12, 13, 14, 15, 5, 16, 64, 18, 19, 20, 21, 65, 66, 67, 68, 69, 35, 36, 37, 38, 39, 70, 41, 42, 43, 44, 45, 46, 47, 48, 49, 50, 51, 71, 72, 73, 74, 75, 76, 77, 78, 79, 80, 23, 24, 81, 82, 83, 84, 85, 86, 87, 9, 22, 135, 136, 137, 138, 96, 97, 98, 99, 123, 124, 125, 126, 127, 128, 129, 130, 139, 140, 141, 142, 143, 144, 145, 146, 147, 148, 149, 150, 151, 155, 156] (by decide +kernel) (by decide +kernel)
set_option maxRecDepth 20000 in
theorem gX5_withPeriods_X5_withCounts : GoodIn wsX5_withPeriods (wsV RX5 292 RX5 yX5_withCounts wsX5_withCounts) := goodIn_app (goodIn_of _ (by decide +kernel)) ggX5_withPeriods_X5_withCounts
theorem dX5_withPeriods_0 : decode cX5_withPeriods 0 = .ok (.lload_n 1, 1) := by decide +kernel
theorem dX5_withPeriods_1 : decode cX5_withPeriods 1 = .ok (.lstore_n 3, 1) := by decide +kernel
theorem dX5_withPeriods_2 : decode cX5_withPeriods 2 = .ok (.iconst 0, 1) := by decide +kernel
theorem dX5_withPeriods_3 : decode cX5_withPeriods 3 = .ok (.istore 5, 2) := by decide +kernel
theorem dX5_withPeriods_5 : decode cX5_withPeriods 5 = .ok (.iload 5, 2) := by decide +kernel
theorem dX5_withPeriods_7 : decode cX5_withPeriods 7 = .ok (.aload_n 0, 1) := by decide +kernel
theorem dX5_withPeriods_8 : decode cX5_withPeriods 8 = .ok (.getfield 10, 3) := by decide +kernel
theorem dX5_withPeriods_11 : decode cX5_withPeriods 11 = .ok (.getfield 125, 3) := by decide +kernel
theorem dX5_withPeriods_14 : decode cX5_withPeriods 14 = .ok (.if_icmp .ge 47, 3) := by decide +kernel
theorem dX5_withPeriods_17 : decode cX5_withPeriods 17 = .ok (.iconst 0, 1) := by decide +kernel
theorem dX5_withPeriods_18 : decode cX5_withPeriods 18 = .ok (.istore 6, 2) := by decide +kernel
theorem dX5_withPeriods_20 : decode cX5_withPeriods 20 = .ok (.iload 6, 2) := by decide +kernel
theorem dX5_withPeriods_22 : decode cX5_withPeriods 22 = .ok (.bipush 7, 2) := by decide +kernel
theorem dX5_withPeriods_24 : decode cX5_withPeriods 24 = .ok (.if_icmp .ge 23, 3) := by decide +kernel
theorem dX5_withPeriods_27 : decode cX5_withPeriods 27 = .ok (.lload_n 3, 1) := by decide +kernel
theorem dX5_withPeriods_28 : decode cX5_withPeriods 28 = .ok (.aload_n 0, 1) := by decide +kernel
theorem dX5_withPeriods_29 : decode cX5_withPeriods 29 = .ok (.iload 5, 2) := by decide +kernel
theorem dX5_withPeriods_31 : decode cX5_withPeriods 31 = .ok (.iload 6, 2) := by decide +kernel
theorem dX5_withPeriods_33 : decode cX5_withPeriods 33 = .ok (.invokevirtual 206, 3) := by decide +kernel
theorem dX5_withPeriods_36 : decode cX5_withPeriods 36 = .ok (.i2l, 1) := by decide +kernel
theorem dX5_withPeriods_37 : decode cX5_withPeriods 37 = .ok (.invokestatic 273, 3) := by decide +kernel
theorem dX5_withPeriods_40 : decode cX5_withPeriods 40 = .ok (.lstore_n 3, 1) := by decide +kernel
theorem dX5_withPeriods_41 : decode cX5_withPeriods 41 = .ok (.iinc 6 1, 3) := by decide +kernel
theorem dX5_withPeriods_44 : decode cX5_withPeriods 44 = .ok (.goto (-24), 3) := by decide +kernel
theorem dX5_withPeriods_47 : decode cX5_withPeriods 47 = .ok (.aload_n 0, 1) := by decide +kernel
theorem dX5_withPeriods_48 : decode cX5_withPeriods 48 = .ok (.lload_n 3, 1) := by decide +kernel
theorem dX5_withPeriods_49 : decode cX5_withPeriods 49 = .ok (.iload 5, 2) := by decide +kernel
theorem dX5_withPeriods_51 : decode cX5_withPeriods 51 = .ok (.invokevirtual 292, 3) := by decide +kernel
theorem dX5_withPeriods_54 : decode cX5_withPeriods 54 = .ok (.lstore_n 3, 1) := by decide +kernel
theorem dX5_withPeriods_55 : decode cX5_withPeriods 55 = .ok (.iinc 5 1, 3) := by decide +kernel
theorem dX5_withPeriods_58 : decode cX5_withPeriods 58 = .ok (.goto (-53), 3) := by decide +kernel
theorem dX5_withPeriods_61 : decode cX5_withPeriods 61 = .ok (.lload_n 3, 1) := by decide +kernel
theorem dX5_withPeriods_62 : decode cX5_withPeriods 62 = .ok (.lreturn, 1) := by decide +kernel
set_option maxRecDepth 20000 in
theorem ggX5_withCounts_X0_takeKept : GoodIn wsX5_withCounts wsX0_takeKept := goodIn_r _ [7, 8, 9, 10, 11, 12, 13, 14, 15, 16, 17, 18, 19, 20, 21, 22, 23, 24, 6, 25, 26, 27, 28, 29, 30, 31, 32, 33, 34, 35, 36, 37, 38, 39, 40, 41, 42, 43, 44, 45, 46, 47, 48, 49, 50, 51, 52, 53, 54, 55, 56, 57, 58, 59, 60, 61, 62, 86, 87, 88, 89, 90, 91, 92, 93, 94, 95] (by decide +kernel) (by decide +kernel)
set_option maxRecDepth 20000 in
theorem gX5_withCounts_X0_takeKept : GoodIn wsX5_withCounts (wsV RX5 219 RX0 yX0_takeKept wsX0_takeKept) := goodIn_app (goodIn_of _ (by decide +kernel)) ggX5_withCounts_X0_takeKept
set_option maxRecDepth 20000 in
theorem ggX5_withCounts_X2_tenthsAt : GoodIn wsX5_withCounts wsX2_tenthsAt := goodIn_r _ [12, 13, 14, 15, 16, 86, 87, 88, 89, 90, 91, 92, 93] (by decide +kernel) (by decide +kernel)
set_option maxRecDepth 20000 in
theorem gX5_withCounts_X2_tenthsAt : GoodIn wsX5_withCounts (wsV RX5 209 RX2 yX2_tenthsAt wsX2_tenthsAt) := goodIn_app (goodIn_of _ (by decide +kernel)) ggX5_withCounts_X2_tenthsAt
set_option maxRecDepth 20000 in
theorem ggX5_withCounts_X5_classesOf : GoodIn wsX5_withCounts wsX5_classesOf := goodIn_r _ [55] (by decide +kernel) (by decide +kernel)
set_option maxRecDepth 20000 in
theorem gX5_withCounts_X5_classesOf : GoodIn wsX5_withCounts (va_wsS RX5 212 yX5_classesOf wsX5_classesOf) := goodIn_app (goodIn_of _ (by decide +kernel)) ggX5_withCounts_X5_classesOf
set_option maxRecDepth 20000 in
theorem ggX5_withCounts_X0_lookedAt : GoodIn wsX5_withCounts wsX0_lookedAt := goodIn_r _ [68, 69, 70, 71, 6, 72, 48, 73, 74, 75, 76, 94, 95] (by decide +kernel) (by decide +kernel)
set_option maxRecDepth 20000 in
theorem gX5_withCounts_X0_lookedAt : GoodIn wsX5_withCounts (wsV RX5 223 RX0 yX0_lookedAt wsX0_lookedAt) := goodIn_app (goodIn_of _ (by decide +kernel)) ggX5_withCounts_X0_lookedAt
set_option maxRecDepth 20000 in
theorem ggX5_withCounts_X5_with : GoodIn wsX5_withCounts wsX5_with := goodIn_r _ [79, 80] (by decide +kernel) (by decide +kernel)
set_option maxRecDepth 20000 in
theorem gX5_withCounts_X5_with : GoodIn wsX5_withCounts (va_wsS RX5 273 yX5_with wsX5_with) := goodIn_app (goodIn_of _ (by decide +kernel)) ggX5_withCounts_X5_with
theorem dX5_withCounts_0 : decode cX5_withCounts 0 = .ok (.lload_n 1, 1) := by decide +kernel
theorem dX5_withCounts_1 : decode cX5_withCounts 1 = .ok (.lstore 4, 2) := by decide +kernel
theorem dX5_withCounts_3 : decode cX5_withCounts 3 = .ok (.aload_n 0, 1) := by decide +kernel
theorem dX5_withCounts_4 : decode cX5_withCounts 4 = .ok (.getfield 33, 3) := by decide +kernel
theorem dX5_withCounts_7 : decode cX5_withCounts 7 = .ok (.aload_n 0, 1) := by decide +kernel
theorem dX5_withCounts_8 : decode cX5_withCounts 8 = .ok (.getfield 10, 3) := by decide +kernel
theorem dX5_withCounts_11 : decode cX5_withCounts 11 = .ok (.iload_n 3, 1) := by decide +kernel
theorem dX5_withCounts_12 : decode cX5_withCounts 12 = .ok (.invokevirtual 219, 3) := by decide +kernel
theorem dX5_withCounts_15 : decode cX5_withCounts 15 = .ok (.aload_n 0, 1) := by decide +kernel
theorem dX5_withCounts_16 : decode cX5_withCounts 16 = .ok (.getfield 10, 3) := by decide +kernel
theorem dX5_withCounts_19 : decode cX5_withCounts 19 = .ok (.iload_n 3, 1) := by decide +kernel
theorem dX5_withCounts_20 : decode cX5_withCounts 20 = .ok (.invokevirtual 209, 3) := by decide +kernel
theorem dX5_withCounts_23 : decode cX5_withCounts 23 = .ok (.invokestatic 212, 3) := by decide +kernel
theorem dX5_withCounts_26 : decode cX5_withCounts 26 = .ok (.istore 6, 2) := by decide +kernel
theorem dX5_withCounts_28 : decode cX5_withCounts 28 = .ok (.iconst 0, 1) := by decide +kernel
theorem dX5_withCounts_29 : decode cX5_withCounts 29 = .ok (.istore 7, 2) := by decide +kernel
theorem dX5_withCounts_31 : decode cX5_withCounts 31 = .ok (.iload 7, 2) := by decide +kernel
theorem dX5_withCounts_33 : decode cX5_withCounts 33 = .ok (.iload 6, 2) := by decide +kernel
theorem dX5_withCounts_35 : decode cX5_withCounts 35 = .ok (.if_icmp .ge 43, 3) := by decide +kernel
theorem dX5_withCounts_38 : decode cX5_withCounts 38 = .ok (.iconst 0, 1) := by decide +kernel
theorem dX5_withCounts_39 : decode cX5_withCounts 39 = .ok (.istore 8, 2) := by decide +kernel
theorem dX5_withCounts_41 : decode cX5_withCounts 41 = .ok (.iload 8, 2) := by decide +kernel
theorem dX5_withCounts_43 : decode cX5_withCounts 43 = .ok (.iconst 4, 1) := by decide +kernel
theorem dX5_withCounts_44 : decode cX5_withCounts 44 = .ok (.if_icmp .gt 28, 3) := by decide +kernel
theorem dX5_withCounts_47 : decode cX5_withCounts 47 = .ok (.lload 4, 2) := by decide +kernel
theorem dX5_withCounts_49 : decode cX5_withCounts 49 = .ok (.aload_n 0, 1) := by decide +kernel
theorem dX5_withCounts_50 : decode cX5_withCounts 50 = .ok (.getfield 33, 3) := by decide +kernel
theorem dX5_withCounts_53 : decode cX5_withCounts 53 = .ok (.iload 7, 2) := by decide +kernel
theorem dX5_withCounts_55 : decode cX5_withCounts 55 = .ok (.iload 8, 2) := by decide +kernel
theorem dX5_withCounts_57 : decode cX5_withCounts 57 = .ok (.invokevirtual 223, 3) := by decide +kernel
theorem dX5_withCounts_60 : decode cX5_withCounts 60 = .ok (.i2l, 1) := by decide +kernel
theorem dX5_withCounts_61 : decode cX5_withCounts 61 = .ok (.invokestatic 273, 3) := by decide +kernel
theorem dX5_withCounts_64 : decode cX5_withCounts 64 = .ok (.lstore 4, 2) := by decide +kernel
theorem dX5_withCounts_66 : decode cX5_withCounts 66 = .ok (.iinc 8 1, 3) := by decide +kernel
theorem dX5_withCounts_69 : decode cX5_withCounts 69 = .ok (.goto (-28), 3) := by decide +kernel
theorem dX5_withCounts_72 : decode cX5_withCounts 72 = .ok (.iinc 7 1, 3) := by decide +kernel
theorem dX5_withCounts_75 : decode cX5_withCounts 75 = .ok (.goto (-44), 3) := by decide +kernel
theorem dX5_withCounts_78 : decode cX5_withCounts 78 = .ok (.lload 4, 2) := by decide +kernel
theorem dX5_withCounts_80 : decode cX5_withCounts 80 = .ok (.lreturn, 1) := by decide +kernel
set_option maxRecDepth 20000 in
theorem ggX5_withTold_X5_toldNumber : GoodIn wsX5_withTold wsX5_toldNumber := goodIn_r _ [6, 7, 1, 8, 9, 10, 11, 12, 13, 14, 5, 15, 16, 17, 18, 19, 20, 21, 22, 23, 24, 25, 26, 27, 28, 29, 30, 31, 32, 37, 38, 39, 40, 41, 50, 51, 52, 42, 43, 44, 45, 46, 47, 48, 49] (by decide +kernel) (by decide +kernel)
set_option maxRecDepth 20000 in
theorem gX5_withTold_X5_toldNumber : GoodIn wsX5_withTold (wsV RX5 228 RX5 yX5_toldNumber wsX5_toldNumber) := goodIn_app (goodIn_of _ (by decide +kernel)) ggX5_withTold_X5_toldNumber
set_option maxRecDepth 20000 in
theorem ggX5_withTold_X5_with : GoodIn wsX5_withTold wsX5_with := goodIn_r _ [35, 36] (by decide +kernel) (by decide +kernel)
set_option maxRecDepth 20000 in
theorem gX5_withTold_X5_with : GoodIn wsX5_withTold (va_wsS RX5 273 yX5_with wsX5_with) := goodIn_app (goodIn_of _ (by decide +kernel)) ggX5_withTold_X5_with
theorem dX5_withTold_0 : decode cX5_withTold 0 = .ok (.lload_n 1, 1) := by decide +kernel
theorem dX5_withTold_1 : decode cX5_withTold 1 = .ok (.lstore_n 3, 1) := by decide +kernel
theorem dX5_withTold_2 : decode cX5_withTold 2 = .ok (.iconst 0, 1) := by decide +kernel
theorem dX5_withTold_3 : decode cX5_withTold 3 = .ok (.istore 5, 2) := by decide +kernel
theorem dX5_withTold_5 : decode cX5_withTold 5 = .ok (.iload 5, 2) := by decide +kernel
theorem dX5_withTold_7 : decode cX5_withTold 7 = .ok (.bipush 20, 2) := by decide +kernel
theorem dX5_withTold_9 : decode cX5_withTold 9 = .ok (.if_icmp .ge 47, 3) := by decide +kernel
theorem dX5_withTold_12 : decode cX5_withTold 12 = .ok (.iload 5, 2) := by decide +kernel
theorem dX5_withTold_14 : decode cX5_withTold 14 = .ok (.aload_n 0, 1) := by decide +kernel
theorem dX5_withTold_15 : decode cX5_withTold 15 = .ok (.getfield 10, 3) := by decide +kernel
theorem dX5_withTold_18 : decode cX5_withTold 18 = .ok (.getfield 55, 3) := by decide +kernel
theorem dX5_withTold_21 : decode cX5_withTold 21 = .ok (.if_icmp .ge 35, 3) := by decide +kernel
theorem dX5_withTold_24 : decode cX5_withTold 24 = .ok (.lload_n 3, 1) := by decide +kernel
theorem dX5_withTold_25 : decode cX5_withTold 25 = .ok (.aload_n 0, 1) := by decide +kernel
theorem dX5_withTold_26 : decode cX5_withTold 26 = .ok (.iload 5, 2) := by decide +kernel
theorem dX5_withTold_28 : decode cX5_withTold 28 = .ok (.iconst 0, 1) := by decide +kernel
theorem dX5_withTold_29 : decode cX5_withTold 29 = .ok (.invokevirtual 228, 3) := by decide +kernel
theorem dX5_withTold_32 : decode cX5_withTold 32 = .ok (.i2l, 1) := by decide +kernel
theorem dX5_withTold_33 : decode cX5_withTold 33 = .ok (.invokestatic 273, 3) := by decide +kernel
theorem dX5_withTold_36 : decode cX5_withTold 36 = .ok (.lstore_n 3, 1) := by decide +kernel
theorem dX5_withTold_37 : decode cX5_withTold 37 = .ok (.lload_n 3, 1) := by decide +kernel
theorem dX5_withTold_38 : decode cX5_withTold 38 = .ok (.aload_n 0, 1) := by decide +kernel
theorem dX5_withTold_39 : decode cX5_withTold 39 = .ok (.iload 5, 2) := by decide +kernel
theorem dX5_withTold_41 : decode cX5_withTold 41 = .ok (.iconst 1, 1) := by decide +kernel
theorem dX5_withTold_42 : decode cX5_withTold 42 = .ok (.invokevirtual 228, 3) := by decide +kernel
theorem dX5_withTold_45 : decode cX5_withTold 45 = .ok (.i2l, 1) := by decide +kernel
theorem dX5_withTold_46 : decode cX5_withTold 46 = .ok (.invokestatic 273, 3) := by decide +kernel
theorem dX5_withTold_49 : decode cX5_withTold 49 = .ok (.lstore_n 3, 1) := by decide +kernel
theorem dX5_withTold_50 : decode cX5_withTold 50 = .ok (.iinc 5 1, 3) := by decide +kernel
theorem dX5_withTold_53 : decode cX5_withTold 53 = .ok (.goto (-48), 3) := by decide +kernel
theorem dX5_withTold_56 : decode cX5_withTold 56 = .ok (.lload_n 3, 1) := by decide +kernel
theorem dX5_withTold_57 : decode cX5_withTold 57 = .ok (.lreturn, 1) := by decide +kernel
set_option maxRecDepth 20000 in
theorem ggX5_withText_X5_with : GoodIn wsX5_withText wsX5_with := goodIn_r _ [5, 6] (by decide +kernel) (by decide +kernel)
set_option maxRecDepth 20000 in
theorem gX5_withText_X5_with : GoodIn wsX5_withText (va_wsS RX5 273 yX5_with wsX5_with) := goodIn_app (goodIn_of _ (by decide +kernel)) ggX5_withText_X5_with
set_option maxRecDepth 20000 in
theorem ggX5_withText_X4_codeAt : GoodIn wsX5_withText wsX4_codeAt := goodIn_r _ [11, 12, 13, 4, 14, 20, 21, 22] (by decide +kernel) (by decide +kernel)
set_option maxRecDepth 20000 in
theorem gX5_withText_X4_codeAt : GoodIn wsX5_withText (wsV RX5 296 RX4 yX4_codeAt wsX4_codeAt) := goodIn_app (goodIn_of _ (by decide +kernel)) ggX5_withText_X4_codeAt
theorem dX5_withText_0 : decode cX5_withText 0 = .ok (.lload_n 1, 1) := by decide +kernel
theorem dX5_withText_1 : decode cX5_withText 1 = .ok (.aload_n 0, 1) := by decide +kernel
theorem dX5_withText_2 : decode cX5_withText 2 = .ok (.getfield 26, 3) := by decide +kernel
theorem dX5_withText_5 : decode cX5_withText 5 = .ok (.getfield 173, 3) := by decide +kernel
theorem dX5_withText_8 : decode cX5_withText 8 = .ok (.i2l, 1) := by decide +kernel
theorem dX5_withText_9 : decode cX5_withText 9 = .ok (.invokestatic 273, 3) := by decide +kernel
theorem dX5_withText_12 : decode cX5_withText 12 = .ok (.lstore_n 3, 1) := by decide +kernel
theorem dX5_withText_13 : decode cX5_withText 13 = .ok (.iconst 0, 1) := by decide +kernel
theorem dX5_withText_14 : decode cX5_withText 14 = .ok (.istore 5, 2) := by decide +kernel
theorem dX5_withText_16 : decode cX5_withText 16 = .ok (.iload 5, 2) := by decide +kernel
theorem dX5_withText_18 : decode cX5_withText 18 = .ok (.aload_n 0, 1) := by decide +kernel
theorem dX5_withText_19 : decode cX5_withText 19 = .ok (.getfield 26, 3) := by decide +kernel
theorem dX5_withText_22 : decode cX5_withText 22 = .ok (.getfield 173, 3) := by decide +kernel
theorem dX5_withText_25 : decode cX5_withText 25 = .ok (.if_icmp .ge 24, 3) := by decide +kernel
theorem dX5_withText_28 : decode cX5_withText 28 = .ok (.lload_n 3, 1) := by decide +kernel
theorem dX5_withText_29 : decode cX5_withText 29 = .ok (.aload_n 0, 1) := by decide +kernel
theorem dX5_withText_30 : decode cX5_withText 30 = .ok (.getfield 26, 3) := by decide +kernel
theorem dX5_withText_33 : decode cX5_withText 33 = .ok (.iload 5, 2) := by decide +kernel
theorem dX5_withText_35 : decode cX5_withText 35 = .ok (.invokevirtual 296, 3) := by decide +kernel
theorem dX5_withText_38 : decode cX5_withText 38 = .ok (.i2l, 1) := by decide +kernel
theorem dX5_withText_39 : decode cX5_withText 39 = .ok (.invokestatic 273, 3) := by decide +kernel
theorem dX5_withText_42 : decode cX5_withText 42 = .ok (.lstore_n 3, 1) := by decide +kernel
theorem dX5_withText_43 : decode cX5_withText 43 = .ok (.iinc 5 1, 3) := by decide +kernel
theorem dX5_withText_46 : decode cX5_withText 46 = .ok (.goto (-30), 3) := by decide +kernel
theorem dX5_withText_49 : decode cX5_withText 49 = .ok (.lload_n 3, 1) := by decide +kernel
theorem dX5_withText_50 : decode cX5_withText 50 = .ok (.lreturn, 1) := by decide +kernel
theorem dX5_bitsOf_0 : decode cX5_bitsOf 0 = .ok (.dload_n 0, 1) := by decide +kernel
theorem dX5_bitsOf_1 : decode cX5_bitsOf 1 = .ok (.dconst 0, 1) := by decide +kernel
theorem dX5_bitsOf_2 : decode cX5_bitsOf 2 = .ok (.dcmp .g, 1) := by decide +kernel
theorem dX5_bitsOf_3 : decode cX5_bitsOf 3 = .ok (.ifCond .gt 5, 3) := by decide +kernel
theorem dX5_bitsOf_6 : decode cX5_bitsOf 6 = .ok (.lconst 0, 1) := by decide +kernel
theorem dX5_bitsOf_7 : decode cX5_bitsOf 7 = .ok (.lreturn, 1) := by decide +kernel
theorem dX5_bitsOf_8 : decode cX5_bitsOf 8 = .ok (.dload_n 0, 1) := by decide +kernel
theorem dX5_bitsOf_9 : decode cX5_bitsOf 9 = .ok (.dstore_n 2, 1) := by decide +kernel
theorem dX5_bitsOf_10 : decode cX5_bitsOf 10 = .ok (.ldc2_w 299, 3) := by decide +kernel
theorem dX5_bitsOf_13 : decode cX5_bitsOf 13 = .ok (.lstore 4, 2) := by decide +kernel
theorem dX5_bitsOf_15 : decode cX5_bitsOf 15 = .ok (.iconst 0, 1) := by decide +kernel
theorem dX5_bitsOf_16 : decode cX5_bitsOf 16 = .ok (.istore 6, 2) := by decide +kernel
theorem dX5_bitsOf_18 : decode cX5_bitsOf 18 = .ok (.iload 6, 2) := by decide +kernel
theorem dX5_bitsOf_20 : decode cX5_bitsOf 20 = .ok (.sipush 1000, 3) := by decide +kernel
theorem dX5_bitsOf_23 : decode cX5_bitsOf 23 = .ok (.if_icmp .ge 27, 3) := by decide +kernel
theorem dX5_bitsOf_26 : decode cX5_bitsOf 26 = .ok (.dload_n 2, 1) := by decide +kernel
theorem dX5_bitsOf_27 : decode cX5_bitsOf 27 = .ok (.dconst 1, 1) := by decide +kernel
theorem dX5_bitsOf_28 : decode cX5_bitsOf 28 = .ok (.dcmp .g, 1) := by decide +kernel
theorem dX5_bitsOf_29 : decode cX5_bitsOf 29 = .ok (.ifCond .ge 21, 3) := by decide +kernel
theorem dX5_bitsOf_32 : decode cX5_bitsOf 32 = .ok (.dload_n 2, 1) := by decide +kernel
theorem dX5_bitsOf_33 : decode cX5_bitsOf 33 = .ok (.ldc2_w 301, 3) := by decide +kernel
theorem dX5_bitsOf_36 : decode cX5_bitsOf 36 = .ok (.dmul, 1) := by decide +kernel
theorem dX5_bitsOf_37 : decode cX5_bitsOf 37 = .ok (.dstore_n 2, 1) := by decide +kernel
theorem dX5_bitsOf_38 : decode cX5_bitsOf 38 = .ok (.lload 4, 2) := by decide +kernel
theorem dX5_bitsOf_40 : decode cX5_bitsOf 40 = .ok (.lconst 1, 1) := by decide +kernel
theorem dX5_bitsOf_41 : decode cX5_bitsOf 41 = .ok (.lsub, 1) := by decide +kernel
theorem dX5_bitsOf_42 : decode cX5_bitsOf 42 = .ok (.lstore 4, 2) := by decide +kernel
theorem dX5_bitsOf_44 : decode cX5_bitsOf 44 = .ok (.iinc 6 1, 3) := by decide +kernel
theorem dX5_bitsOf_47 : decode cX5_bitsOf 47 = .ok (.goto (-29), 3) := by decide +kernel
theorem dX5_bitsOf_50 : decode cX5_bitsOf 50 = .ok (.lload 4, 2) := by decide +kernel
theorem dX5_bitsOf_52 : decode cX5_bitsOf 52 = .ok (.bipush 52, 2) := by decide +kernel
theorem dX5_bitsOf_54 : decode cX5_bitsOf 54 = .ok (.lshl, 1) := by decide +kernel
theorem dX5_bitsOf_55 : decode cX5_bitsOf 55 = .ok (.dload_n 2, 1) := by decide +kernel
theorem dX5_bitsOf_56 : decode cX5_bitsOf 56 = .ok (.dconst 1, 1) := by decide +kernel
theorem dX5_bitsOf_57 : decode cX5_bitsOf 57 = .ok (.dsub, 1) := by decide +kernel
theorem dX5_bitsOf_58 : decode cX5_bitsOf 58 = .ok (.ldc2_w 303, 3) := by decide +kernel
theorem dX5_bitsOf_61 : decode cX5_bitsOf 61 = .ok (.dmul, 1) := by decide +kernel
theorem dX5_bitsOf_62 : decode cX5_bitsOf 62 = .ok (.d2l, 1) := by decide +kernel
theorem dX5_bitsOf_63 : decode cX5_bitsOf 63 = .ok (.ladd, 1) := by decide +kernel
theorem dX5_bitsOf_64 : decode cX5_bitsOf 64 = .ok (.lreturn, 1) := by decide +kernel
set_option maxRecDepth 20000 in
theorem ggX5_number_X2_windowPlaces : GoodIn wsX5_number wsX2_windowPlaces := goodIn_r _ [8, 9, 10, 11, 12, 13, 14, 15, 16, 17, 18, 82, 83, 84, 85, 86, 87, 88, 89] (by decide +kernel) (by decide +kernel)
set_option maxRecDepth 20000 in
theorem gX5_number_X2_windowPlaces : GoodIn wsX5_number (wsV RX5 305 RX2 yX2_windowPlaces wsX2_windowPlaces) := goodIn_app (goodIn_of _ (by decide +kernel)) ggX5_number_X2_windowPlaces
set_option maxRecDepth 20000 in
theorem ggX5_number_X2_windowStart : GoodIn wsX5_number wsX2_windowStart := goodIn_r _ [22, 9, 11, 82, 83, 84, 85, 86, 87, 88, 89] (by decide +kernel) (by decide +kernel)
set_option maxRecDepth 20000 in
theorem gX5_number_X2_windowStart : GoodIn wsX5_number (wsV RX5 154 RX2 yX2_windowStart wsX2_windowStart) := goodIn_app (goodIn_of _ (by decide +kernel)) ggX5_number_X2_windowStart
set_option maxRecDepth 20000 in
theorem ggX5_number_X3_explained : GoodIn wsX5_number wsX3_explained := goodIn_r _ [27, 28, 29, 30, 7, 31, 32, 20, 21, 22, 9, 11, 33, 5, 6, 8, 10, 12, 13, 14, 15, 16, 17, 18, 34, 35, 36, 37, 26, 38, 39, 40, 41, 42, 43, 44, 45, 46, 47, 48, 49, 50, 51, 82, 83, 84, 85, 86, 87, 88, 89, 93, 94, 95] (by decide +kernel) (by decide +kernel)
set_option maxRecDepth 20000 in
theorem gX5_number_X3_explained : GoodIn wsX5_number (wsV RX5 308 RX3 yX3_explained wsX3_explained) := goodIn_app (goodIn_of _ (by decide +kernel)) ggX5_number_X3_explained
set_option maxRecDepth 20000 in
theorem ggX5_number_X3_placesToldBy : GoodIn wsX5_number wsX3_placesToldBy := goodIn_r _ [55, 28, 29, 30, 7, 31, 32, 20, 21, 22, 9, 11, 33, 5, 6, 8, 10, 12, 13, 14, 15, 16, 17, 18, 34, 56, 57, 58, 26, 59, 60, 44, 45, 46, 82, 83, 84, 85, 86, 87, 88, 89, 93, 94, 95] (by decide +kernel) (by decide +kernel)
set_option maxRecDepth 20000 in
theorem gX5_number_X3_placesToldBy : GoodIn wsX5_number (wsV RX5 311 RX3 yX3_placesToldBy wsX3_placesToldBy) := goodIn_app (goodIn_of _ (by decide +kernel)) ggX5_number_X3_placesToldBy
set_option maxRecDepth 20000 in
theorem ggX5_number_X2_commonSign : GoodIn wsX5_number wsX2_commonSign := goodIn_r _ [64, 65, 66, 67, 7, 68, 69, 29, 30, 31, 32, 20, 21, 22, 9, 11, 33, 5, 6, 8, 10, 12, 13, 14, 15, 16, 17, 18, 70, 48, 49, 50, 51, 82, 83, 84, 85, 86, 87, 88, 89] (by decide +kernel) (by decide +kernel)
set_option maxRecDepth 20000 in
theorem gX5_number_X2_commonSign : GoodIn wsX5_number (wsV RX5 315 RX2 yX2_commonSign wsX2_commonSign) := goodIn_app (goodIn_of _ (by decide +kernel)) ggX5_number_X2_commonSign
set_option maxRecDepth 20000 in
theorem ggX5_number_X2_timesInWindow : GoodIn wsX5_number wsX2_timesInWindow := goodIn_r _ [68, 69, 29, 30, 7, 31, 32, 20, 21, 22, 9, 11, 33, 5, 6, 8, 10, 12, 13, 14, 15, 16, 17, 18, 70, 48, 49, 50, 51, 82, 83, 84, 85, 86, 87, 88, 89] (by decide +kernel) (by decide +kernel)
set_option maxRecDepth 20000 in
theorem gX5_number_X2_timesInWindow : GoodIn wsX5_number (wsV RX5 318 RX2 yX2_timesInWindow wsX2_timesInWindow) := goodIn_app (goodIn_of _ (by decide +kernel)) ggX5_number_X2_timesInWindow
set_option maxRecDepth 20000 in
theorem ggX5_number_X3_longestStretch : GoodIn wsX5_number wsX3_longestStretch := goodIn_r _ [75, 76, 17, 14, 18, 28, 29, 30, 7, 31, 32, 20, 21, 22, 9, 11, 33, 5, 6, 8, 10, 12, 13, 15, 16, 34, 35, 36, 37, 26, 38, 39, 40, 41, 42, 43, 44, 45, 46, 47, 48, 49, 50, 51, 82, 83, 84, 85, 86, 87, 88, 89, 93, 94, 95] (by decide +kernel) (by decide +kernel)
set_option maxRecDepth 20000 in
theorem gX5_number_X3_longestStretch : GoodIn wsX5_number (wsV RX5 321 RX3 yX3_longestStretch wsX3_longestStretch) := goodIn_app (goodIn_of _ (by decide +kernel)) ggX5_number_X3_longestStretch
theorem dX5_number_0 : decode cX5_number 0 = .ok (.iload_n 1, 1) := by decide +kernel
theorem dX5_number_1 : decode cX5_number 1 = .ok (.tableswitch 143 0 8 #[51, 59, 67, 75, 83, 95, 108, 116, 131], 51) := by decide +kernel
theorem dX5_number_52 : decode cX5_number 52 = .ok (.aload_n 0, 1) := by decide +kernel
theorem dX5_number_53 : decode cX5_number 53 = .ok (.getfield 10, 3) := by decide +kernel
theorem dX5_number_56 : decode cX5_number 56 = .ok (.getfield 55, 3) := by decide +kernel
theorem dX5_number_59 : decode cX5_number 59 = .ok (.ireturn, 1) := by decide +kernel
theorem dX5_number_60 : decode cX5_number 60 = .ok (.aload_n 0, 1) := by decide +kernel
theorem dX5_number_61 : decode cX5_number 61 = .ok (.getfield 10, 3) := by decide +kernel
theorem dX5_number_64 : decode cX5_number 64 = .ok (.invokevirtual 305, 3) := by decide +kernel
theorem dX5_number_67 : decode cX5_number 67 = .ok (.ireturn, 1) := by decide +kernel
theorem dX5_number_68 : decode cX5_number 68 = .ok (.aload_n 0, 1) := by decide +kernel
theorem dX5_number_69 : decode cX5_number 69 = .ok (.getfield 10, 3) := by decide +kernel
theorem dX5_number_72 : decode cX5_number 72 = .ok (.invokevirtual 154, 3) := by decide +kernel
theorem dX5_number_75 : decode cX5_number 75 = .ok (.ireturn, 1) := by decide +kernel
theorem dX5_number_76 : decode cX5_number 76 = .ok (.aload_n 0, 1) := by decide +kernel
theorem dX5_number_77 : decode cX5_number 77 = .ok (.getfield 10, 3) := by decide +kernel
theorem dX5_number_80 : decode cX5_number 80 = .ok (.getfield 125, 3) := by decide +kernel
theorem dX5_number_83 : decode cX5_number 83 = .ok (.ireturn, 1) := by decide +kernel
theorem dX5_number_84 : decode cX5_number 84 = .ok (.aload_n 0, 1) := by decide +kernel
theorem dX5_number_85 : decode cX5_number 85 = .ok (.getfield 40, 3) := by decide +kernel
theorem dX5_number_88 : decode cX5_number 88 = .ok (.aload_n 0, 1) := by decide +kernel
theorem dX5_number_89 : decode cX5_number 89 = .ok (.getfield 10, 3) := by decide +kernel
theorem dX5_number_92 : decode cX5_number 92 = .ok (.invokevirtual 308, 3) := by decide +kernel
theorem dX5_number_95 : decode cX5_number 95 = .ok (.ireturn, 1) := by decide +kernel
theorem dX5_number_96 : decode cX5_number 96 = .ok (.aload_n 0, 1) := by decide +kernel
theorem dX5_number_97 : decode cX5_number 97 = .ok (.getfield 40, 3) := by decide +kernel
theorem dX5_number_100 : decode cX5_number 100 = .ok (.aload_n 0, 1) := by decide +kernel
theorem dX5_number_101 : decode cX5_number 101 = .ok (.getfield 10, 3) := by decide +kernel
theorem dX5_number_104 : decode cX5_number 104 = .ok (.iconst (-1), 1) := by decide +kernel
theorem dX5_number_105 : decode cX5_number 105 = .ok (.invokevirtual 311, 3) := by decide +kernel
theorem dX5_number_108 : decode cX5_number 108 = .ok (.ireturn, 1) := by decide +kernel
theorem dX5_number_109 : decode cX5_number 109 = .ok (.aload_n 0, 1) := by decide +kernel
theorem dX5_number_110 : decode cX5_number 110 = .ok (.getfield 10, 3) := by decide +kernel
theorem dX5_number_113 : decode cX5_number 113 = .ok (.invokevirtual 315, 3) := by decide +kernel
theorem dX5_number_116 : decode cX5_number 116 = .ok (.ireturn, 1) := by decide +kernel
theorem dX5_number_117 : decode cX5_number 117 = .ok (.aload_n 0, 1) := by decide +kernel
theorem dX5_number_118 : decode cX5_number 118 = .ok (.getfield 10, 3) := by decide +kernel
theorem dX5_number_121 : decode cX5_number 121 = .ok (.aload_n 0, 1) := by decide +kernel
theorem dX5_number_122 : decode cX5_number 122 = .ok (.getfield 10, 3) := by decide +kernel
theorem dX5_number_125 : decode cX5_number 125 = .ok (.invokevirtual 315, 3) := by decide +kernel
theorem dX5_number_128 : decode cX5_number 128 = .ok (.invokevirtual 318, 3) := by decide +kernel
theorem dX5_number_131 : decode cX5_number 131 = .ok (.ireturn, 1) := by decide +kernel
theorem dX5_number_132 : decode cX5_number 132 = .ok (.aload_n 0, 1) := by decide +kernel
theorem dX5_number_133 : decode cX5_number 133 = .ok (.getfield 40, 3) := by decide +kernel
theorem dX5_number_136 : decode cX5_number 136 = .ok (.aload_n 0, 1) := by decide +kernel
theorem dX5_number_137 : decode cX5_number 137 = .ok (.getfield 10, 3) := by decide +kernel
theorem dX5_number_140 : decode cX5_number 140 = .ok (.invokevirtual 321, 3) := by decide +kernel
theorem dX5_number_143 : decode cX5_number 143 = .ok (.ireturn, 1) := by decide +kernel
theorem dX5_number_144 : decode cX5_number 144 = .ok (.aload_n 0, 1) := by decide +kernel
theorem dX5_number_145 : decode cX5_number 145 = .ok (.getfield 19, 3) := by decide +kernel
theorem dX5_number_148 : decode cX5_number 148 = .ok (.getfield 194, 3) := by decide +kernel
theorem dX5_number_151 : decode cX5_number 151 = .ok (.ireturn, 1) := by decide +kernel
set_option maxRecDepth 20000 in
theorem ggX5_periodNumber_X2_tenthsAt : GoodIn wsX5_periodNumber wsX2_tenthsAt := goodIn_r _ [8, 9, 10, 11, 12, 128, 129, 130, 131, 132, 133, 134, 135] (by decide +kernel) (by decide +kernel)
set_option maxRecDepth 20000 in
theorem gX5_periodNumber_X2_tenthsAt : GoodIn wsX5_periodNumber (wsV RX5 209 RX2 yX2_tenthsAt wsX2_tenthsAt) := goodIn_app (goodIn_of _ (by decide +kernel)) ggX5_periodNumber_X2_tenthsAt
set_option maxRecDepth 20000 in
theorem ggX5_periodNumber_X2_phaseAt : GoodIn wsX5_periodNumber wsX2_phaseAt := goodIn_r _ [16, 17, 10, 11, 12, 128, 129, 130, 131, 132, 133, 134, 135] (by decide +kernel) (by decide +kernel)
set_option maxRecDepth 20000 in
theorem gX5_periodNumber_X2_phaseAt : GoodIn wsX5_periodNumber (wsV RX5 324 RX2 yX2_phaseAt wsX2_phaseAt) := goodIn_app (goodIn_of _ (by decide +kernel)) ggX5_periodNumber_X2_phaseAt
set_option maxRecDepth 20000 in
theorem ggX5_periodNumber_X5_classesOf : GoodIn wsX5_periodNumber wsX5_classesOf := goodIn_r _ [20] (by decide +kernel) (by decide +kernel)
set_option maxRecDepth 20000 in
theorem gX5_periodNumber_X5_classesOf : GoodIn wsX5_periodNumber (va_wsS RX5 212 yX5_classesOf wsX5_classesOf) := goodIn_app (goodIn_of _ (by decide +kernel)) ggX5_periodNumber_X5_classesOf
set_option maxRecDepth 20000 in
theorem ggX5_periodNumber_X3_placesToldBy : GoodIn wsX5_periodNumber wsX3_placesToldBy := goodIn_r _ [25, 26, 27, 28, 7, 29, 30, 31, 32, 33, 34, 35, 36, 37, 38, 39, 40, 41, 42, 43, 44, 45, 46, 47, 48, 49, 50, 51, 24, 52, 53, 10, 11, 12, 128, 129, 130, 131, 132, 133, 134, 135, 136, 137, 138] (by decide +kernel) (by decide +kernel)
set_option maxRecDepth 20000 in
theorem gX5_periodNumber_X3_placesToldBy : GoodIn wsX5_periodNumber (wsV RX5 311 RX3 yX3_placesToldBy wsX3_placesToldBy) := goodIn_app (goodIn_of _ (by decide +kernel)) ggX5_periodNumber_X3_placesToldBy
set_option maxRecDepth 20000 in
theorem ggX5_periodNumber_X0_takeKept : GoodIn wsX5_periodNumber wsX0_takeKept := goodIn_r _ [58, 59, 5, 6, 7, 8, 9, 10, 11, 12, 60, 14, 15, 16, 17, 61, 62, 63, 57, 64, 65, 31, 32, 33, 34, 35, 66, 37, 38, 39, 40, 41, 42, 43, 44, 45, 46, 47, 67, 68, 69, 70, 71, 72, 73, 74, 75, 76, 19, 20, 77, 78, 79, 80, 81, 82, 83, 128, 129, 130, 131, 132, 133, 134, 135, 139, 140] (by decide +kernel) (by decide +kernel)
set_option maxRecDepth 20000 in
theorem gX5_periodNumber_X0_takeKept : GoodIn wsX5_periodNumber (wsV RX5 219 RX0 yX0_takeKept wsX0_takeKept) := goodIn_app (goodIn_of _ (by decide +kernel)) ggX5_periodNumber_X0_takeKept
set_option maxRecDepth 20000 in
theorem ggX5_periodNumber_X0_explained : GoodIn wsX5_periodNumber wsX0_explained := goodIn_r _ [87, 72, 88, 89, 90, 57, 91, 92, 93, 94, 95, 71, 139, 140] (by decide +kernel) (by decide +kernel)
set_option maxRecDepth 20000 in
theorem gX5_periodNumber_X0_explained : GoodIn wsX5_periodNumber (wsV RX5 240 RX0 yX0_explained wsX0_explained) := goodIn_app (goodIn_of _ (by decide +kernel)) ggX5_periodNumber_X0_explained
set_option maxRecDepth 20000 in
theorem ggX5_periodNumber_X2_commonSign : GoodIn wsX5_periodNumber wsX2_commonSign := goodIn_r _ [99, 100, 101, 102, 7, 103, 104, 27, 28, 29, 30, 31, 32, 33, 34, 35, 36, 37, 38, 39, 40, 41, 42, 43, 44, 45, 46, 47, 105, 80, 81, 82, 83, 128, 129, 130, 131, 132, 133, 134, 135] (by decide +kernel) (by decide +kernel)
set_option maxRecDepth 20000 in
theorem gX5_periodNumber_X2_commonSign : GoodIn wsX5_periodNumber (wsV RX5 315 RX2 yX2_commonSign wsX2_commonSign) := goodIn_app (goodIn_of _ (by decide +kernel)) ggX5_periodNumber_X2_commonSign
set_option maxRecDepth 20000 in
theorem ggX5_periodNumber_X2_timesInWindow : GoodIn wsX5_periodNumber wsX2_timesInWindow := goodIn_r _ [103, 104, 27, 28, 7, 29, 30, 31, 32, 33, 34, 35, 36, 37, 38, 39, 40, 41, 42, 43, 44, 45, 46, 47, 105, 80, 81, 82, 83, 128, 129, 130, 131, 132, 133, 134, 135] (by decide +kernel) (by decide +kernel)
set_option maxRecDepth 20000 in
theorem gX5_periodNumber_X2_timesInWindow : GoodIn wsX5_periodNumber (wsV RX5 318 RX2 yX2_timesInWindow wsX2_timesInWindow) := goodIn_app (goodIn_of _ (by decide +kernel)) ggX5_periodNumber_X2_timesInWindow
set_option maxRecDepth 20000 in
theorem ggX5_periodNumber_X0_strongClasses : GoodIn wsX5_periodNumber wsX0_strongClasses := goodIn_r _ [110, 72, 111, 112, 113, 57, 114, 88, 89, 90, 91, 92, 93, 94, 95, 71, 115, 116, 117, 118, 119, 120, 121, 122, 139, 140] (by decide +kernel) (by decide +kernel)
set_option maxRecDepth 20000 in
theorem gX5_periodNumber_X0_strongClasses : GoodIn wsX5_periodNumber (wsV RX5 330 RX0 yX0_strongClasses wsX0_strongClasses) := goodIn_app (goodIn_of _ (by decide +kernel)) ggX5_periodNumber_X0_strongClasses
theorem dX5_periodNumber_0 : decode cX5_periodNumber 0 = .ok (.iload_n 2, 1) := by decide +kernel
theorem dX5_periodNumber_1 : decode cX5_periodNumber 1 = .ok (.ifCond .ne 12, 3) := by decide +kernel
theorem dX5_periodNumber_4 : decode cX5_periodNumber 4 = .ok (.aload_n 0, 1) := by decide +kernel
theorem dX5_periodNumber_5 : decode cX5_periodNumber 5 = .ok (.getfield 10, 3) := by decide +kernel
theorem dX5_periodNumber_8 : decode cX5_periodNumber 8 = .ok (.iload_n 1, 1) := by decide +kernel
theorem dX5_periodNumber_9 : decode cX5_periodNumber 9 = .ok (.invokevirtual 209, 3) := by decide +kernel
theorem dX5_periodNumber_12 : decode cX5_periodNumber 12 = .ok (.ireturn, 1) := by decide +kernel
theorem dX5_periodNumber_13 : decode cX5_periodNumber 13 = .ok (.iload_n 2, 1) := by decide +kernel
theorem dX5_periodNumber_14 : decode cX5_periodNumber 14 = .ok (.iconst 1, 1) := by decide +kernel
theorem dX5_periodNumber_15 : decode cX5_periodNumber 15 = .ok (.if_icmp .ne 12, 3) := by decide +kernel
theorem dX5_periodNumber_18 : decode cX5_periodNumber 18 = .ok (.aload_n 0, 1) := by decide +kernel
theorem dX5_periodNumber_19 : decode cX5_periodNumber 19 = .ok (.getfield 10, 3) := by decide +kernel
theorem dX5_periodNumber_22 : decode cX5_periodNumber 22 = .ok (.iload_n 1, 1) := by decide +kernel
theorem dX5_periodNumber_23 : decode cX5_periodNumber 23 = .ok (.invokevirtual 324, 3) := by decide +kernel
theorem dX5_periodNumber_26 : decode cX5_periodNumber 26 = .ok (.ireturn, 1) := by decide +kernel
theorem dX5_periodNumber_27 : decode cX5_periodNumber 27 = .ok (.iload_n 2, 1) := by decide +kernel
theorem dX5_periodNumber_28 : decode cX5_periodNumber 28 = .ok (.iconst 2, 1) := by decide +kernel
theorem dX5_periodNumber_29 : decode cX5_periodNumber 29 = .ok (.if_icmp .ne 15, 3) := by decide +kernel
theorem dX5_periodNumber_32 : decode cX5_periodNumber 32 = .ok (.aload_n 0, 1) := by decide +kernel
theorem dX5_periodNumber_33 : decode cX5_periodNumber 33 = .ok (.getfield 10, 3) := by decide +kernel
theorem dX5_periodNumber_36 : decode cX5_periodNumber 36 = .ok (.iload_n 1, 1) := by decide +kernel
theorem dX5_periodNumber_37 : decode cX5_periodNumber 37 = .ok (.invokevirtual 209, 3) := by decide +kernel
theorem dX5_periodNumber_40 : decode cX5_periodNumber 40 = .ok (.invokestatic 212, 3) := by decide +kernel
theorem dX5_periodNumber_43 : decode cX5_periodNumber 43 = .ok (.ireturn, 1) := by decide +kernel
theorem dX5_periodNumber_44 : decode cX5_periodNumber 44 = .ok (.iload_n 2, 1) := by decide +kernel
theorem dX5_periodNumber_45 : decode cX5_periodNumber 45 = .ok (.bipush 6, 2) := by decide +kernel
theorem dX5_periodNumber_47 : decode cX5_periodNumber 47 = .ok (.if_icmp .ne 16, 3) := by decide +kernel
theorem dX5_periodNumber_50 : decode cX5_periodNumber 50 = .ok (.aload_n 0, 1) := by decide +kernel
theorem dX5_periodNumber_51 : decode cX5_periodNumber 51 = .ok (.getfield 40, 3) := by decide +kernel
theorem dX5_periodNumber_54 : decode cX5_periodNumber 54 = .ok (.aload_n 0, 1) := by decide +kernel
theorem dX5_periodNumber_55 : decode cX5_periodNumber 55 = .ok (.getfield 10, 3) := by decide +kernel
theorem dX5_periodNumber_58 : decode cX5_periodNumber 58 = .ok (.iload_n 1, 1) := by decide +kernel
theorem dX5_periodNumber_59 : decode cX5_periodNumber 59 = .ok (.invokevirtual 311, 3) := by decide +kernel
theorem dX5_periodNumber_62 : decode cX5_periodNumber 62 = .ok (.ireturn, 1) := by decide +kernel
theorem dX5_periodNumber_63 : decode cX5_periodNumber 63 = .ok (.aload_n 0, 1) := by decide +kernel
theorem dX5_periodNumber_64 : decode cX5_periodNumber 64 = .ok (.getfield 33, 3) := by decide +kernel
theorem dX5_periodNumber_67 : decode cX5_periodNumber 67 = .ok (.aload_n 0, 1) := by decide +kernel
theorem dX5_periodNumber_68 : decode cX5_periodNumber 68 = .ok (.getfield 10, 3) := by decide +kernel
theorem dX5_periodNumber_71 : decode cX5_periodNumber 71 = .ok (.iload_n 1, 1) := by decide +kernel
theorem dX5_periodNumber_72 : decode cX5_periodNumber 72 = .ok (.invokevirtual 219, 3) := by decide +kernel
theorem dX5_periodNumber_75 : decode cX5_periodNumber 75 = .ok (.iload_n 2, 1) := by decide +kernel
theorem dX5_periodNumber_76 : decode cX5_periodNumber 76 = .ok (.iconst 3, 1) := by decide +kernel
theorem dX5_periodNumber_77 : decode cX5_periodNumber 77 = .ok (.if_icmp .ne 11, 3) := by decide +kernel
theorem dX5_periodNumber_80 : decode cX5_periodNumber 80 = .ok (.aload_n 0, 1) := by decide +kernel
theorem dX5_periodNumber_81 : decode cX5_periodNumber 81 = .ok (.getfield 33, 3) := by decide +kernel
theorem dX5_periodNumber_84 : decode cX5_periodNumber 84 = .ok (.invokevirtual 240, 3) := by decide +kernel
theorem dX5_periodNumber_87 : decode cX5_periodNumber 87 = .ok (.ireturn, 1) := by decide +kernel
theorem dX5_periodNumber_88 : decode cX5_periodNumber 88 = .ok (.iload_n 2, 1) := by decide +kernel
theorem dX5_periodNumber_89 : decode cX5_periodNumber 89 = .ok (.iconst 4, 1) := by decide +kernel
theorem dX5_periodNumber_90 : decode cX5_periodNumber 90 = .ok (.if_icmp .ne 26, 3) := by decide +kernel
theorem dX5_periodNumber_93 : decode cX5_periodNumber 93 = .ok (.aload_n 0, 1) := by decide +kernel
theorem dX5_periodNumber_94 : decode cX5_periodNumber 94 = .ok (.getfield 33, 3) := by decide +kernel
theorem dX5_periodNumber_97 : decode cX5_periodNumber 97 = .ok (.invokevirtual 240, 3) := by decide +kernel
theorem dX5_periodNumber_100 : decode cX5_periodNumber 100 = .ok (.aload_n 0, 1) := by decide +kernel
theorem dX5_periodNumber_101 : decode cX5_periodNumber 101 = .ok (.getfield 10, 3) := by decide +kernel
theorem dX5_periodNumber_104 : decode cX5_periodNumber 104 = .ok (.aload_n 0, 1) := by decide +kernel
theorem dX5_periodNumber_105 : decode cX5_periodNumber 105 = .ok (.getfield 10, 3) := by decide +kernel
theorem dX5_periodNumber_108 : decode cX5_periodNumber 108 = .ok (.invokevirtual 315, 3) := by decide +kernel
theorem dX5_periodNumber_111 : decode cX5_periodNumber 111 = .ok (.invokevirtual 318, 3) := by decide +kernel
theorem dX5_periodNumber_114 : decode cX5_periodNumber 114 = .ok (.isub, 1) := by decide +kernel
theorem dX5_periodNumber_115 : decode cX5_periodNumber 115 = .ok (.ireturn, 1) := by decide +kernel
theorem dX5_periodNumber_116 : decode cX5_periodNumber 116 = .ok (.aload_n 0, 1) := by decide +kernel
theorem dX5_periodNumber_117 : decode cX5_periodNumber 117 = .ok (.getfield 33, 3) := by decide +kernel
theorem dX5_periodNumber_120 : decode cX5_periodNumber 120 = .ok (.aload_n 0, 1) := by decide +kernel
theorem dX5_periodNumber_121 : decode cX5_periodNumber 121 = .ok (.getfield 10, 3) := by decide +kernel
theorem dX5_periodNumber_124 : decode cX5_periodNumber 124 = .ok (.getfield 327, 3) := by decide +kernel
theorem dX5_periodNumber_127 : decode cX5_periodNumber 127 = .ok (.invokevirtual 330, 3) := by decide +kernel
theorem dX5_periodNumber_130 : decode cX5_periodNumber 130 = .ok (.ireturn, 1) := by decide +kernel
set_option maxRecDepth 20000 in
theorem ggX5_toldNumber_X3_signAt : GoodIn wsX5_toldNumber wsX3_signAt := goodIn_r _ [7, 8, 9, 10, 11, 34, 35, 36] (by decide +kernel) (by decide +kernel)
set_option maxRecDepth 20000 in
theorem gX5_toldNumber_X3_signAt : GoodIn wsX5_toldNumber (wsV RX5 157 RX3 yX3_signAt wsX3_signAt) := goodIn_app (goodIn_of _ (by decide +kernel)) ggX5_toldNumber_X3_signAt
set_option maxRecDepth 20000 in
theorem ggX5_toldNumber_X3_tellerAt : GoodIn wsX5_toldNumber wsX3_tellerAt := goodIn_r _ [15, 16, 9, 10, 11, 34, 35, 36] (by decide +kernel) (by decide +kernel)
set_option maxRecDepth 20000 in
theorem gX5_toldNumber_X3_tellerAt : GoodIn wsX5_toldNumber (wsV RX5 333 RX3 yX3_tellerAt wsX3_tellerAt) := goodIn_app (goodIn_of _ (by decide +kernel)) ggX5_toldNumber_X3_tellerAt
set_option maxRecDepth 20000 in
theorem ggX5_toldNumber_X3_isExplained : GoodIn wsX5_toldNumber wsX3_isExplained := goodIn_r _ [20, 21, 4, 5, 6, 7, 8, 9, 10, 11, 22, 23, 24, 25, 26, 27, 28, 34, 35, 36, 37, 38, 39, 40, 41, 42, 43, 44] (by decide +kernel) (by decide +kernel)
set_option maxRecDepth 20000 in
theorem gX5_toldNumber_X3_isExplained : GoodIn wsX5_toldNumber (wsV RX5 336 RX3 yX3_isExplained wsX3_isExplained) := goodIn_app (goodIn_of _ (by decide +kernel)) ggX5_toldNumber_X3_isExplained
theorem dX5_toldNumber_0 : decode cX5_toldNumber 0 = .ok (.iload_n 2, 1) := by decide +kernel
theorem dX5_toldNumber_1 : decode cX5_toldNumber 1 = .ok (.ifCond .ne 12, 3) := by decide +kernel
theorem dX5_toldNumber_4 : decode cX5_toldNumber 4 = .ok (.aload_n 0, 1) := by decide +kernel
theorem dX5_toldNumber_5 : decode cX5_toldNumber 5 = .ok (.getfield 40, 3) := by decide +kernel
theorem dX5_toldNumber_8 : decode cX5_toldNumber 8 = .ok (.iload_n 1, 1) := by decide +kernel
theorem dX5_toldNumber_9 : decode cX5_toldNumber 9 = .ok (.invokevirtual 157, 3) := by decide +kernel
theorem dX5_toldNumber_12 : decode cX5_toldNumber 12 = .ok (.ireturn, 1) := by decide +kernel
theorem dX5_toldNumber_13 : decode cX5_toldNumber 13 = .ok (.iload_n 2, 1) := by decide +kernel
theorem dX5_toldNumber_14 : decode cX5_toldNumber 14 = .ok (.iconst 1, 1) := by decide +kernel
theorem dX5_toldNumber_15 : decode cX5_toldNumber 15 = .ok (.if_icmp .ne 12, 3) := by decide +kernel
theorem dX5_toldNumber_18 : decode cX5_toldNumber 18 = .ok (.aload_n 0, 1) := by decide +kernel
theorem dX5_toldNumber_19 : decode cX5_toldNumber 19 = .ok (.getfield 40, 3) := by decide +kernel
theorem dX5_toldNumber_22 : decode cX5_toldNumber 22 = .ok (.iload_n 1, 1) := by decide +kernel
theorem dX5_toldNumber_23 : decode cX5_toldNumber 23 = .ok (.invokevirtual 333, 3) := by decide +kernel
theorem dX5_toldNumber_26 : decode cX5_toldNumber 26 = .ok (.ireturn, 1) := by decide +kernel
theorem dX5_toldNumber_27 : decode cX5_toldNumber 27 = .ok (.aload_n 0, 1) := by decide +kernel
theorem dX5_toldNumber_28 : decode cX5_toldNumber 28 = .ok (.getfield 40, 3) := by decide +kernel
theorem dX5_toldNumber_31 : decode cX5_toldNumber 31 = .ok (.aload_n 0, 1) := by decide +kernel
theorem dX5_toldNumber_32 : decode cX5_toldNumber 32 = .ok (.getfield 10, 3) := by decide +kernel
theorem dX5_toldNumber_35 : decode cX5_toldNumber 35 = .ok (.iload_n 1, 1) := by decide +kernel
theorem dX5_toldNumber_36 : decode cX5_toldNumber 36 = .ok (.invokevirtual 336, 3) := by decide +kernel
theorem dX5_toldNumber_39 : decode cX5_toldNumber 39 = .ok (.ifCond .eq 7, 3) := by decide +kernel
theorem dX5_toldNumber_42 : decode cX5_toldNumber 42 = .ok (.iconst 1, 1) := by decide +kernel
theorem dX5_toldNumber_43 : decode cX5_toldNumber 43 = .ok (.goto 4, 3) := by decide +kernel
theorem dX5_toldNumber_46 : decode cX5_toldNumber 46 = .ok (.iconst 0, 1) := by decide +kernel
theorem dX5_toldNumber_47 : decode cX5_toldNumber 47 = .ok (.ireturn, 1) := by decide +kernel
set_option maxRecDepth 20000 in
theorem ggX5_shareTold_X2_windowPlaces : GoodIn wsX5_shareTold wsX2_windowPlaces := goodIn_r _ [7, 8, 9, 10, 11, 12, 13, 14, 15, 16, 17, 55, 56, 57, 58, 59, 60, 61, 62] (by decide +kernel) (by decide +kernel)
set_option maxRecDepth 20000 in
theorem gX5_shareTold_X2_windowPlaces : GoodIn wsX5_shareTold (wsV RX5 305 RX2 yX2_windowPlaces wsX2_windowPlaces) := goodIn_app (goodIn_of _ (by decide +kernel)) ggX5_shareTold_X2_windowPlaces
set_option maxRecDepth 20000 in
theorem ggX5_shareTold_X3_explained : GoodIn wsX5_shareTold wsX3_explained := goodIn_r _ [22, 23, 24, 25, 6, 26, 27, 28, 29, 30, 8, 10, 31, 4, 5, 7, 9, 11, 12, 13, 14, 15, 16, 17, 32, 33, 34, 35, 21, 36, 37, 38, 39, 40, 41, 42, 43, 44, 45, 46, 47, 48, 49, 55, 56, 57, 58, 59, 60, 61, 62, 63, 64, 65] (by decide +kernel) (by decide +kernel)
set_option maxRecDepth 20000 in
theorem gX5_shareTold_X3_explained : GoodIn wsX5_shareTold (wsV RX5 308 RX3 yX3_explained wsX3_explained) := goodIn_app (goodIn_of _ (by decide +kernel)) ggX5_shareTold_X3_explained
theorem dX5_shareTold_0 : decode cX5_shareTold 0 = .ok (.aload_n 0, 1) := by decide +kernel
theorem dX5_shareTold_1 : decode cX5_shareTold 1 = .ok (.getfield 10, 3) := by decide +kernel
theorem dX5_shareTold_4 : decode cX5_shareTold 4 = .ok (.invokevirtual 305, 3) := by decide +kernel
theorem dX5_shareTold_7 : decode cX5_shareTold 7 = .ok (.istore_n 1, 1) := by decide +kernel
theorem dX5_shareTold_8 : decode cX5_shareTold 8 = .ok (.iload_n 1, 1) := by decide +kernel
theorem dX5_shareTold_9 : decode cX5_shareTold 9 = .ok (.ifCond .gt 5, 3) := by decide +kernel
theorem dX5_shareTold_12 : decode cX5_shareTold 12 = .ok (.dconst 1, 1) := by decide +kernel
theorem dX5_shareTold_13 : decode cX5_shareTold 13 = .ok (.dreturn, 1) := by decide +kernel
theorem dX5_shareTold_14 : decode cX5_shareTold 14 = .ok (.aload_n 0, 1) := by decide +kernel
theorem dX5_shareTold_15 : decode cX5_shareTold 15 = .ok (.getfield 40, 3) := by decide +kernel
theorem dX5_shareTold_18 : decode cX5_shareTold 18 = .ok (.aload_n 0, 1) := by decide +kernel
theorem dX5_shareTold_19 : decode cX5_shareTold 19 = .ok (.getfield 10, 3) := by decide +kernel
theorem dX5_shareTold_22 : decode cX5_shareTold 22 = .ok (.invokevirtual 308, 3) := by decide +kernel
theorem dX5_shareTold_25 : decode cX5_shareTold 25 = .ok (.i2d, 1) := by decide +kernel
theorem dX5_shareTold_26 : decode cX5_shareTold 26 = .ok (.iload_n 1, 1) := by decide +kernel
theorem dX5_shareTold_27 : decode cX5_shareTold 27 = .ok (.i2d, 1) := by decide +kernel
theorem dX5_shareTold_28 : decode cX5_shareTold 28 = .ok (.ddiv, 1) := by decide +kernel
theorem dX5_shareTold_29 : decode cX5_shareTold 29 = .ok (.dreturn, 1) := by decide +kernel
set_option maxRecDepth 20000 in
theorem ggX5_bestTenths_X0_takeWindow : GoodIn wsX5_bestTenths wsX0_takeWindow := goodIn_r _ [7, 8, 9, 10, 11, 12, 13, 14, 15, 16, 17, 18, 19, 20, 21, 22, 23, 24, 25, 26, 27, 28, 29, 6, 30, 31, 32, 33, 34, 35, 36, 37, 38, 39, 40, 41, 42, 43, 44, 45, 46, 65, 66, 67, 68, 69, 70, 71, 72, 73, 74] (by decide +kernel) (by decide +kernel)
set_option maxRecDepth 20000 in
theorem gX5_bestTenths_X0_takeWindow : GoodIn wsX5_bestTenths (wsV RX5 236 RX0 yX0_takeWindow wsX0_takeWindow) := goodIn_app (goodIn_of _ (by decide +kernel)) ggX5_bestTenths_X0_takeWindow
set_option maxRecDepth 20000 in
theorem ggX5_bestTenths_X0_explained : GoodIn wsX5_bestTenths wsX0_explained := goodIn_r _ [50, 32, 51, 52, 53, 6, 54, 55, 56, 57, 58, 31, 73, 74] (by decide +kernel) (by decide +kernel)
set_option maxRecDepth 20000 in
theorem gX5_bestTenths_X0_explained : GoodIn wsX5_bestTenths (wsV RX5 240 RX0 yX0_explained wsX0_explained) := goodIn_app (goodIn_of _ (by decide +kernel)) ggX5_bestTenths_X0_explained
set_option maxRecDepth 20000 in
theorem ggX5_bestTenths_X5_classesOf : GoodIn wsX5_bestTenths wsX5_classesOf := goodIn_r _ [39] (by decide +kernel) (by decide +kernel)
set_option maxRecDepth 20000 in
theorem gX5_bestTenths_X5_classesOf : GoodIn wsX5_bestTenths (va_wsS RX5 212 yX5_classesOf wsX5_classesOf) := goodIn_app (goodIn_of _ (by decide +kernel)) ggX5_bestTenths_X5_classesOf
