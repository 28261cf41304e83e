theorem dX5_bestTenths_0 : decode cX5_bestTenths 0 = .ok (.iload_n 1, 1) := by decide +kernel
theorem dX5_bestTenths_1 : decode cX5_bestTenths 1 = .ok (.istore_n 3, 1) := by decide +kernel
theorem dX5_bestTenths_2 : decode cX5_bestTenths 2 = .ok (.bipush (-41), 2) := by decide +kernel
theorem dX5_bestTenths_4 : decode cX5_bestTenths 4 = .ok (.istore 4, 2) := by decide +kernel
theorem dX5_bestTenths_6 : decode cX5_bestTenths 6 = .ok (.iload_n 1, 1) := by decide +kernel
theorem dX5_bestTenths_7 : decode cX5_bestTenths 7 = .ok (.istore 5, 2) := by decide +kernel
theorem dX5_bestTenths_9 : decode cX5_bestTenths 9 = .ok (.iload 5, 2) := by decide +kernel
theorem dX5_bestTenths_11 : decode cX5_bestTenths 11 = .ok (.iload_n 2, 1) := by decide +kernel
theorem dX5_bestTenths_12 : decode cX5_bestTenths 12 = .ok (.if_icmp .gt 54, 3) := by decide +kernel
theorem dX5_bestTenths_15 : decode cX5_bestTenths 15 = .ok (.aload_n 0, 1) := by decide +kernel
theorem dX5_bestTenths_16 : decode cX5_bestTenths 16 = .ok (.getfield 33, 3) := by decide +kernel
theorem dX5_bestTenths_19 : decode cX5_bestTenths 19 = .ok (.aload_n 0, 1) := by decide +kernel
theorem dX5_bestTenths_20 : decode cX5_bestTenths 20 = .ok (.getfield 10, 3) := by decide +kernel
theorem dX5_bestTenths_23 : decode cX5_bestTenths 23 = .ok (.iload 5, 2) := by decide +kernel
theorem dX5_bestTenths_25 : decode cX5_bestTenths 25 = .ok (.iconst 0, 1) := by decide +kernel
theorem dX5_bestTenths_26 : decode cX5_bestTenths 26 = .ok (.invokevirtual 236, 3) := by decide +kernel
theorem dX5_bestTenths_29 : decode cX5_bestTenths 29 = .ok (.iconst 4, 1) := by decide +kernel
theorem dX5_bestTenths_30 : decode cX5_bestTenths 30 = .ok (.aload_n 0, 1) := by decide +kernel
theorem dX5_bestTenths_31 : decode cX5_bestTenths 31 = .ok (.getfield 33, 3) := by decide +kernel
theorem dX5_bestTenths_34 : decode cX5_bestTenths 34 = .ok (.invokevirtual 240, 3) := by decide +kernel
theorem dX5_bestTenths_37 : decode cX5_bestTenths 37 = .ok (.imul, 1) := by decide +kernel
theorem dX5_bestTenths_38 : decode cX5_bestTenths 38 = .ok (.iload 5, 2) := by decide +kernel
theorem dX5_bestTenths_40 : decode cX5_bestTenths 40 = .ok (.invokestatic 212, 3) := by decide +kernel
theorem dX5_bestTenths_43 : decode cX5_bestTenths 43 = .ok (.isub, 1) := by decide +kernel
theorem dX5_bestTenths_44 : decode cX5_bestTenths 44 = .ok (.istore 6, 2) := by decide +kernel
theorem dX5_bestTenths_46 : decode cX5_bestTenths 46 = .ok (.iload 6, 2) := by decide +kernel
theorem dX5_bestTenths_48 : decode cX5_bestTenths 48 = .ok (.iload 4, 2) := by decide +kernel
theorem dX5_bestTenths_50 : decode cX5_bestTenths 50 = .ok (.if_icmp .le 10, 3) := by decide +kernel
theorem dX5_bestTenths_53 : decode cX5_bestTenths 53 = .ok (.iload 5, 2) := by decide +kernel
theorem dX5_bestTenths_55 : decode cX5_bestTenths 55 = .ok (.istore_n 3, 1) := by decide +kernel
theorem dX5_bestTenths_56 : decode cX5_bestTenths 56 = .ok (.iload 6, 2) := by decide +kernel
theorem dX5_bestTenths_58 : decode cX5_bestTenths 58 = .ok (.istore 4, 2) := by decide +kernel
theorem dX5_bestTenths_60 : decode cX5_bestTenths 60 = .ok (.iinc 5 1, 3) := by decide +kernel
theorem dX5_bestTenths_63 : decode cX5_bestTenths 63 = .ok (.goto (-54), 3) := by decide +kernel
theorem dX5_bestTenths_66 : decode cX5_bestTenths 66 = .ok (.iload_n 3, 1) := by decide +kernel
theorem dX5_bestTenths_67 : decode cX5_bestTenths 67 = .ok (.ireturn, 1) := by decide +kernel
set_option maxRecDepth 20000 in
theorem ggX5_canKeep_X2_hasPeriod : GoodIn wsX5_canKeep wsX2_hasPeriod := goodIn_r _ [6, 7, 8, 9, 10, 5, 11, 12, 13, 14, 15, 16, 17, 18, 19, 20, 26, 27, 28, 29, 30, 31, 32, 33] (by decide +kernel) (by decide +kernel)
set_option maxRecDepth 20000 in
theorem gX5_canKeep_X2_hasPeriod : GoodIn wsX5_canKeep (wsV RX5 340 RX2 yX2_hasPeriod wsX2_hasPeriod) := goodIn_app (goodIn_of _ (by decide +kernel)) ggX5_canKeep_X2_hasPeriod
theorem dX5_canKeep_0 : decode cX5_canKeep 0 = .ok (.aload_n 0, 1) := by decide +kernel
theorem dX5_canKeep_1 : decode cX5_canKeep 1 = .ok (.getfield 10, 3) := by decide +kernel
theorem dX5_canKeep_4 : decode cX5_canKeep 4 = .ok (.getfield 125, 3) := by decide +kernel
theorem dX5_canKeep_7 : decode cX5_canKeep 7 = .ok (.iconst 4, 1) := by decide +kernel
theorem dX5_canKeep_8 : decode cX5_canKeep 8 = .ok (.if_icmp .ge 19, 3) := by decide +kernel
theorem dX5_canKeep_11 : decode cX5_canKeep 11 = .ok (.aload_n 0, 1) := by decide +kernel
theorem dX5_canKeep_12 : decode cX5_canKeep 12 = .ok (.getfield 10, 3) := by decide +kernel
theorem dX5_canKeep_15 : decode cX5_canKeep 15 = .ok (.iload_n 1, 1) := by decide +kernel
theorem dX5_canKeep_16 : decode cX5_canKeep 16 = .ok (.iload_n 2, 1) := by decide +kernel
theorem dX5_canKeep_17 : decode cX5_canKeep 17 = .ok (.invokevirtual 340, 3) := by decide +kernel
theorem dX5_canKeep_20 : decode cX5_canKeep 20 = .ok (.ifCond .ne 7, 3) := by decide +kernel
theorem dX5_canKeep_23 : decode cX5_canKeep 23 = .ok (.iconst 1, 1) := by decide +kernel
theorem dX5_canKeep_24 : decode cX5_canKeep 24 = .ok (.goto 4, 3) := by decide +kernel
theorem dX5_canKeep_27 : decode cX5_canKeep 27 = .ok (.iconst 0, 1) := by decide +kernel
theorem dX5_canKeep_28 : decode cX5_canKeep 28 = .ok (.ireturn, 1) := by decide +kernel
set_option maxRecDepth 20000 in
theorem ggX5_grownSign_X5_classOf : GoodIn wsX5_grownSign wsX5_classOf := goodIn_r _ [4] (by decide +kernel) (by decide +kernel)
set_option maxRecDepth 20000 in
theorem gX5_grownSign_X5_classOf : GoodIn wsX5_grownSign (va_wsS RX5 343 yX5_classOf wsX5_classOf) := goodIn_app (goodIn_of _ (by decide +kernel)) ggX5_grownSign_X5_classOf
theorem dX5_grownSign_0 : decode cX5_grownSign 0 = .ok (.iload_n 0, 1) := by decide +kernel
theorem dX5_grownSign_1 : decode cX5_grownSign 1 = .ok (.iload_n 1, 1) := by decide +kernel
theorem dX5_grownSign_2 : decode cX5_grownSign 2 = .ok (.iconst 0, 1) := by decide +kernel
theorem dX5_grownSign_3 : decode cX5_grownSign 3 = .ok (.invokestatic 343, 3) := by decide +kernel
theorem dX5_grownSign_6 : decode cX5_grownSign 6 = .ok (.iconst 4, 1) := by decide +kernel
theorem dX5_grownSign_7 : decode cX5_grownSign 7 = .ok (.irem, 1) := by decide +kernel
theorem dX5_grownSign_8 : decode cX5_grownSign 8 = .ok (.istore_n 3, 1) := by decide +kernel
theorem dX5_grownSign_9 : decode cX5_grownSign 9 = .ok (.iload_n 2, 1) := by decide +kernel
theorem dX5_grownSign_10 : decode cX5_grownSign 10 = .ok (.ifCond .le 15, 3) := by decide +kernel
theorem dX5_grownSign_13 : decode cX5_grownSign 13 = .ok (.iload_n 0, 1) := by decide +kernel
theorem dX5_grownSign_14 : decode cX5_grownSign 14 = .ok (.iload_n 2, 1) := by decide +kernel
theorem dX5_grownSign_15 : decode cX5_grownSign 15 = .ok (.irem, 1) := by decide +kernel
theorem dX5_grownSign_16 : decode cX5_grownSign 16 = .ok (.ifCond .ne 9, 3) := by decide +kernel
theorem dX5_grownSign_19 : decode cX5_grownSign 19 = .ok (.iload_n 3, 1) := by decide +kernel
theorem dX5_grownSign_20 : decode cX5_grownSign 20 = .ok (.iconst 1, 1) := by decide +kernel
theorem dX5_grownSign_21 : decode cX5_grownSign 21 = .ok (.iadd, 1) := by decide +kernel
theorem dX5_grownSign_22 : decode cX5_grownSign 22 = .ok (.iconst 4, 1) := by decide +kernel
theorem dX5_grownSign_23 : decode cX5_grownSign 23 = .ok (.irem, 1) := by decide +kernel
theorem dX5_grownSign_24 : decode cX5_grownSign 24 = .ok (.ireturn, 1) := by decide +kernel
theorem dX5_grownSign_25 : decode cX5_grownSign 25 = .ok (.iload_n 3, 1) := by decide +kernel
theorem dX5_grownSign_26 : decode cX5_grownSign 26 = .ok (.ireturn, 1) := by decide +kernel
theorem dX5_isWithin_0 : decode cX5_isWithin 0 = .ok (.iload_n 0, 1) := by decide +kernel
theorem dX5_isWithin_1 : decode cX5_isWithin 1 = .ok (.iload_n 1, 1) := by decide +kernel
theorem dX5_isWithin_2 : decode cX5_isWithin 2 = .ok (.if_icmp .lt 12, 3) := by decide +kernel
theorem dX5_isWithin_5 : decode cX5_isWithin 5 = .ok (.iload_n 0, 1) := by decide +kernel
theorem dX5_isWithin_6 : decode cX5_isWithin 6 = .ok (.iload_n 2, 1) := by decide +kernel
theorem dX5_isWithin_7 : decode cX5_isWithin 7 = .ok (.if_icmp .gt 7, 3) := by decide +kernel
theorem dX5_isWithin_10 : decode cX5_isWithin 10 = .ok (.iconst 1, 1) := by decide +kernel
theorem dX5_isWithin_11 : decode cX5_isWithin 11 = .ok (.goto 4, 3) := by decide +kernel
theorem dX5_isWithin_14 : decode cX5_isWithin 14 = .ok (.iconst 0, 1) := by decide +kernel
theorem dX5_isWithin_15 : decode cX5_isWithin 15 = .ok (.ireturn, 1) := by decide +kernel
set_option maxRecDepth 20000 in
theorem ggX5_isSign_X5_isWithin : GoodIn wsX5_isSign wsX5_isWithin := goodIn_r _ [4] (by decide +kernel) (by decide +kernel)
set_option maxRecDepth 20000 in
theorem gX5_isSign_X5_isWithin : GoodIn wsX5_isSign (va_wsS RX5 88 yX5_isWithin wsX5_isWithin) := goodIn_app (goodIn_of _ (by decide +kernel)) ggX5_isSign_X5_isWithin
theorem dX5_isSign_0 : decode cX5_isSign 0 = .ok (.iload_n 0, 1) := by decide +kernel
theorem dX5_isSign_1 : decode cX5_isSign 1 = .ok (.iconst 0, 1) := by decide +kernel
theorem dX5_isSign_2 : decode cX5_isSign 2 = .ok (.iconst 3, 1) := by decide +kernel
theorem dX5_isSign_3 : decode cX5_isSign 3 = .ok (.invokestatic 88, 3) := by decide +kernel
theorem dX5_isSign_6 : decode cX5_isSign 6 = .ok (.ireturn, 1) := by decide +kernel
set_option maxRecDepth 20000 in
theorem ggX5_isTenths_X5_isWithin : GoodIn wsX5_isTenths wsX5_isWithin := goodIn_r _ [4] (by decide +kernel) (by decide +kernel)
set_option maxRecDepth 20000 in
theorem gX5_isTenths_X5_isWithin : GoodIn wsX5_isTenths (va_wsS RX5 88 yX5_isWithin wsX5_isWithin) := goodIn_app (goodIn_of _ (by decide +kernel)) ggX5_isTenths_X5_isWithin
theorem dX5_isTenths_0 : decode cX5_isTenths 0 = .ok (.iload_n 0, 1) := by decide +kernel
theorem dX5_isTenths_1 : decode cX5_isTenths 1 = .ok (.bipush 10, 2) := by decide +kernel
theorem dX5_isTenths_3 : decode cX5_isTenths 3 = .ok (.sipush 400, 3) := by decide +kernel
theorem dX5_isTenths_6 : decode cX5_isTenths 6 = .ok (.invokestatic 88, 3) := by decide +kernel
theorem dX5_isTenths_9 : decode cX5_isTenths 9 = .ok (.ireturn, 1) := by decide +kernel
set_option maxRecDepth 20000 in
theorem ggX5_isPeriod_X5_isTenths : GoodIn wsX5_isPeriod wsX5_isTenths := goodIn_r _ [4, 5, 6, 3, 7] (by decide +kernel) (by decide +kernel)
set_option maxRecDepth 20000 in
theorem gX5_isPeriod_X5_isTenths : GoodIn wsX5_isPeriod (va_wsS RX5 100 yX5_isTenths wsX5_isTenths) := goodIn_app (goodIn_of _ (by decide +kernel)) ggX5_isPeriod_X5_isTenths
set_option maxRecDepth 20000 in
theorem ggX5_isPeriod_X5_isWithin : GoodIn wsX5_isPeriod wsX5_isWithin := goodIn_r _ [7] (by decide +kernel) (by decide +kernel)
set_option maxRecDepth 20000 in
theorem gX5_isPeriod_X5_isWithin : GoodIn wsX5_isPeriod (va_wsS RX5 88 yX5_isWithin wsX5_isWithin) := goodIn_app (goodIn_of _ (by decide +kernel)) ggX5_isPeriod_X5_isWithin
theorem dX5_isPeriod_0 : decode cX5_isPeriod 0 = .ok (.iload_n 0, 1) := by decide +kernel
theorem dX5_isPeriod_1 : decode cX5_isPeriod 1 = .ok (.invokestatic 100, 3) := by decide +kernel
theorem dX5_isPeriod_4 : decode cX5_isPeriod 4 = .ok (.ifCond .eq 18, 3) := by decide +kernel
theorem dX5_isPeriod_7 : decode cX5_isPeriod 7 = .ok (.iload_n 1, 1) := by decide +kernel
theorem dX5_isPeriod_8 : decode cX5_isPeriod 8 = .ok (.iconst 0, 1) := by decide +kernel
theorem dX5_isPeriod_9 : decode cX5_isPeriod 9 = .ok (.iload_n 0, 1) := by decide +kernel
theorem dX5_isPeriod_10 : decode cX5_isPeriod 10 = .ok (.iconst 1, 1) := by decide +kernel
theorem dX5_isPeriod_11 : decode cX5_isPeriod 11 = .ok (.isub, 1) := by decide +kernel
theorem dX5_isPeriod_12 : decode cX5_isPeriod 12 = .ok (.invokestatic 88, 3) := by decide +kernel
theorem dX5_isPeriod_15 : decode cX5_isPeriod 15 = .ok (.ifCond .eq 7, 3) := by decide +kernel
theorem dX5_isPeriod_18 : decode cX5_isPeriod 18 = .ok (.iconst 1, 1) := by decide +kernel
theorem dX5_isPeriod_19 : decode cX5_isPeriod 19 = .ok (.goto 4, 3) := by decide +kernel
theorem dX5_isPeriod_22 : decode cX5_isPeriod 22 = .ok (.iconst 0, 1) := by decide +kernel
theorem dX5_isPeriod_23 : decode cX5_isPeriod 23 = .ok (.ireturn, 1) := by decide +kernel
set_option maxRecDepth 20000 in
theorem ggX5_isTenthsRange_X5_isTenths : GoodIn wsX5_isTenthsRange wsX5_isTenths := goodIn_r _ [4, 5, 6, 3, 7] (by decide +kernel) (by decide +kernel)
set_option maxRecDepth 20000 in
theorem gX5_isTenthsRange_X5_isTenths : GoodIn wsX5_isTenthsRange (va_wsS RX5 100 yX5_isTenths wsX5_isTenths) := goodIn_app (goodIn_of _ (by decide +kernel)) ggX5_isTenthsRange_X5_isTenths
set_option maxRecDepth 20000 in
theorem ggX5_isTenthsRange_X5_isWithin : GoodIn wsX5_isTenthsRange wsX5_isWithin := goodIn_r _ [7] (by decide +kernel) (by decide +kernel)
set_option maxRecDepth 20000 in
theorem gX5_isTenthsRange_X5_isWithin : GoodIn wsX5_isTenthsRange (va_wsS RX5 88 yX5_isWithin wsX5_isWithin) := goodIn_app (goodIn_of _ (by decide +kernel)) ggX5_isTenthsRange_X5_isWithin
theorem dX5_isTenthsRange_0 : decode cX5_isTenthsRange 0 = .ok (.iload_n 0, 1) := by decide +kernel
theorem dX5_isTenthsRange_1 : decode cX5_isTenthsRange 1 = .ok (.invokestatic 100, 3) := by decide +kernel
theorem dX5_isTenthsRange_4 : decode cX5_isTenthsRange 4 = .ok (.ifCond .eq 18, 3) := by decide +kernel
theorem dX5_isTenthsRange_7 : decode cX5_isTenthsRange 7 = .ok (.iload_n 1, 1) := by decide +kernel
theorem dX5_isTenthsRange_8 : decode cX5_isTenthsRange 8 = .ok (.iload_n 0, 1) := by decide +kernel
theorem dX5_isTenthsRange_9 : decode cX5_isTenthsRange 9 = .ok (.sipush 400, 3) := by decide +kernel
theorem dX5_isTenthsRange_12 : decode cX5_isTenthsRange 12 = .ok (.invokestatic 88, 3) := by decide +kernel
theorem dX5_isTenthsRange_15 : decode cX5_isTenthsRange 15 = .ok (.ifCond .eq 7, 3) := by decide +kernel
theorem dX5_isTenthsRange_18 : decode cX5_isTenthsRange 18 = .ok (.iconst 1, 1) := by decide +kernel
theorem dX5_isTenthsRange_19 : decode cX5_isTenthsRange 19 = .ok (.goto 4, 3) := by decide +kernel
theorem dX5_isTenthsRange_22 : decode cX5_isTenthsRange 22 = .ok (.iconst 0, 1) := by decide +kernel
theorem dX5_isTenthsRange_23 : decode cX5_isTenthsRange 23 = .ok (.ireturn, 1) := by decide +kernel
set_option maxRecDepth 20000 in
theorem ggX5_isValueOf_X5_isWithin : GoodIn wsX5_isValueOf wsX5_isWithin := goodIn_r _ [4] (by decide +kernel) (by decide +kernel)
set_option maxRecDepth 20000 in
theorem gX5_isValueOf_X5_isWithin : GoodIn wsX5_isValueOf (va_wsS RX5 88 yX5_isWithin wsX5_isWithin) := goodIn_app (goodIn_of _ (by decide +kernel)) ggX5_isValueOf_X5_isWithin
theorem dX5_isValueOf_0 : decode cX5_isValueOf 0 = .ok (.iload_n 0, 1) := by decide +kernel
theorem dX5_isValueOf_1 : decode cX5_isValueOf 1 = .ok (.ifCond .ne 12, 3) := by decide +kernel
theorem dX5_isValueOf_4 : decode cX5_isValueOf 4 = .ok (.iload_n 1, 1) := by decide +kernel
theorem dX5_isValueOf_5 : decode cX5_isValueOf 5 = .ok (.iconst 0, 1) := by decide +kernel
theorem dX5_isValueOf_6 : decode cX5_isValueOf 6 = .ok (.sipush 239, 3) := by decide +kernel
theorem dX5_isValueOf_9 : decode cX5_isValueOf 9 = .ok (.invokestatic 88, 3) := by decide +kernel
theorem dX5_isValueOf_12 : decode cX5_isValueOf 12 = .ok (.ireturn, 1) := by decide +kernel
theorem dX5_isValueOf_13 : decode cX5_isValueOf 13 = .ok (.iload_n 0, 1) := by decide +kernel
theorem dX5_isValueOf_14 : decode cX5_isValueOf 14 = .ok (.iconst 1, 1) := by decide +kernel
theorem dX5_isValueOf_15 : decode cX5_isValueOf 15 = .ok (.if_icmp .ne 12, 3) := by decide +kernel
theorem dX5_isValueOf_18 : decode cX5_isValueOf 18 = .ok (.iload_n 1, 1) := by decide +kernel
theorem dX5_isValueOf_19 : decode cX5_isValueOf 19 = .ok (.iconst 0, 1) := by decide +kernel
theorem dX5_isValueOf_20 : decode cX5_isValueOf 20 = .ok (.sipush 240, 3) := by decide +kernel
theorem dX5_isValueOf_23 : decode cX5_isValueOf 23 = .ok (.invokestatic 88, 3) := by decide +kernel
theorem dX5_isValueOf_26 : decode cX5_isValueOf 26 = .ok (.ireturn, 1) := by decide +kernel
theorem dX5_isValueOf_27 : decode cX5_isValueOf 27 = .ok (.iload_n 1, 1) := by decide +kernel
theorem dX5_isValueOf_28 : decode cX5_isValueOf 28 = .ok (.iconst 1, 1) := by decide +kernel
theorem dX5_isValueOf_29 : decode cX5_isValueOf 29 = .ok (.bipush 100, 2) := by decide +kernel
theorem dX5_isValueOf_31 : decode cX5_isValueOf 31 = .ok (.invokestatic 88, 3) := by decide +kernel
theorem dX5_isValueOf_34 : decode cX5_isValueOf 34 = .ok (.ireturn, 1) := by decide +kernel
theorem dX5_classOf_0 : decode cX5_classOf 0 = .ok (.iload_n 1, 1) := by decide +kernel
theorem dX5_classOf_1 : decode cX5_classOf 1 = .ok (.bipush 10, 2) := by decide +kernel
theorem dX5_classOf_3 : decode cX5_classOf 3 = .ok (.if_icmp .ge 5, 3) := by decide +kernel
theorem dX5_classOf_6 : decode cX5_classOf 6 = .ok (.iconst (-1), 1) := by decide +kernel
theorem dX5_classOf_7 : decode cX5_classOf 7 = .ok (.ireturn, 1) := by decide +kernel
theorem dX5_classOf_8 : decode cX5_classOf 8 = .ok (.bipush 10, 2) := by decide +kernel
theorem dX5_classOf_10 : decode cX5_classOf 10 = .ok (.iload_n 0, 1) := by decide +kernel
theorem dX5_classOf_11 : decode cX5_classOf 11 = .ok (.imul, 1) := by decide +kernel
theorem dX5_classOf_12 : decode cX5_classOf 12 = .ok (.iload_n 2, 1) := by decide +kernel
theorem dX5_classOf_13 : decode cX5_classOf 13 = .ok (.iadd, 1) := by decide +kernel
theorem dX5_classOf_14 : decode cX5_classOf 14 = .ok (.iload_n 1, 1) := by decide +kernel
theorem dX5_classOf_15 : decode cX5_classOf 15 = .ok (.irem, 1) := by decide +kernel
theorem dX5_classOf_16 : decode cX5_classOf 16 = .ok (.bipush 10, 2) := by decide +kernel
theorem dX5_classOf_18 : decode cX5_classOf 18 = .ok (.idiv, 1) := by decide +kernel
theorem dX5_classOf_19 : decode cX5_classOf 19 = .ok (.ireturn, 1) := by decide +kernel
theorem dX5_classesOf_0 : decode cX5_classesOf 0 = .ok (.iload_n 0, 1) := by decide +kernel
theorem dX5_classesOf_1 : decode cX5_classesOf 1 = .ok (.bipush 10, 2) := by decide +kernel
theorem dX5_classesOf_3 : decode cX5_classesOf 3 = .ok (.iadd, 1) := by decide +kernel
theorem dX5_classesOf_4 : decode cX5_classesOf 4 = .ok (.iconst 1, 1) := by decide +kernel
theorem dX5_classesOf_5 : decode cX5_classesOf 5 = .ok (.isub, 1) := by decide +kernel
theorem dX5_classesOf_6 : decode cX5_classesOf 6 = .ok (.bipush 10, 2) := by decide +kernel
theorem dX5_classesOf_8 : decode cX5_classesOf 8 = .ok (.idiv, 1) := by decide +kernel
theorem dX5_classesOf_9 : decode cX5_classesOf 9 = .ok (.ireturn, 1) := by decide +kernel
theorem dX5_cellAt_0 : decode cX5_cellAt 0 = .ok (.iload_n 1, 1) := by decide +kernel
theorem dX5_cellAt_1 : decode cX5_cellAt 1 = .ok (.ifCond .lt 15, 3) := by decide +kernel
theorem dX5_cellAt_4 : decode cX5_cellAt 4 = .ok (.iload_n 1, 1) := by decide +kernel
theorem dX5_cellAt_5 : decode cX5_cellAt 5 = .ok (.aload_n 0, 1) := by decide +kernel
theorem dX5_cellAt_6 : decode cX5_cellAt 6 = .ok (.arraylength, 1) := by decide +kernel
theorem dX5_cellAt_7 : decode cX5_cellAt 7 = .ok (.if_icmp .ge 9, 3) := by decide +kernel
theorem dX5_cellAt_10 : decode cX5_cellAt 10 = .ok (.aload_n 0, 1) := by decide +kernel
theorem dX5_cellAt_11 : decode cX5_cellAt 11 = .ok (.iload_n 1, 1) := by decide +kernel
theorem dX5_cellAt_12 : decode cX5_cellAt 12 = .ok (.iaload, 1) := by decide +kernel
theorem dX5_cellAt_13 : decode cX5_cellAt 13 = .ok (.goto 4, 3) := by decide +kernel
theorem dX5_cellAt_16 : decode cX5_cellAt 16 = .ok (.iconst (-1), 1) := by decide +kernel
theorem dX5_cellAt_17 : decode cX5_cellAt 17 = .ok (.ireturn, 1) := by decide +kernel
theorem dX5_lay_0 : decode cX5_lay 0 = .ok (.iload_n 1, 1) := by decide +kernel
theorem dX5_lay_1 : decode cX5_lay 1 = .ok (.ifCond .lt 13, 3) := by decide +kernel
theorem dX5_lay_4 : decode cX5_lay 4 = .ok (.iload_n 1, 1) := by decide +kernel
theorem dX5_lay_5 : decode cX5_lay 5 = .ok (.aload_n 0, 1) := by decide +kernel
theorem dX5_lay_6 : decode cX5_lay 6 = .ok (.arraylength, 1) := by decide +kernel
theorem dX5_lay_7 : decode cX5_lay 7 = .ok (.if_icmp .ge 7, 3) := by decide +kernel
theorem dX5_lay_10 : decode cX5_lay 10 = .ok (.aload_n 0, 1) := by decide +kernel
theorem dX5_lay_11 : decode cX5_lay 11 = .ok (.iload_n 1, 1) := by decide +kernel
theorem dX5_lay_12 : decode cX5_lay 12 = .ok (.iload_n 2, 1) := by decide +kernel
theorem dX5_lay_13 : decode cX5_lay 13 = .ok (.iastore, 1) := by decide +kernel
theorem dX5_lay_14 : decode cX5_lay 14 = .ok (.return_, 1) := by decide +kernel
theorem dX5_copyCells_0 : decode cX5_copyCells 0 = .ok (.aload_n 0, 1) := by decide +kernel
theorem dX5_copyCells_1 : decode cX5_copyCells 1 = .ok (.iconst 0, 1) := by decide +kernel
theorem dX5_copyCells_2 : decode cX5_copyCells 2 = .ok (.aload_n 1, 1) := by decide +kernel
theorem dX5_copyCells_3 : decode cX5_copyCells 3 = .ok (.iconst 0, 1) := by decide +kernel
theorem dX5_copyCells_4 : decode cX5_copyCells 4 = .ok (.aload_n 0, 1) := by decide +kernel
theorem dX5_copyCells_5 : decode cX5_copyCells 5 = .ok (.arraylength, 1) := by decide +kernel
theorem dX5_copyCells_6 : decode cX5_copyCells 6 = .ok (.aload_n 1, 1) := by decide +kernel
theorem dX5_copyCells_7 : decode cX5_copyCells 7 = .ok (.arraylength, 1) := by decide +kernel
theorem dX5_copyCells_8 : decode cX5_copyCells 8 = .ok (.invokestatic 346, 3) := by decide +kernel
theorem dX5_copyCells_11 : decode cX5_copyCells 11 = .ok (.invokestatic 349, 3) := by decide +kernel
theorem dX5_copyCells_14 : decode cX5_copyCells 14 = .ok (.return_, 1) := by decide +kernel
theorem dX6_init_0 : decode cX6_init 0 = .ok (.aload_n 0, 1) := by decide +kernel
theorem dX6_init_1 : decode cX6_init 1 = .ok (.invokespecial 1, 3) := by decide +kernel
theorem dX6_init_4 : decode cX6_init 4 = .ok (.aload_n 0, 1) := by decide +kernel
theorem dX6_init_5 : decode cX6_init 5 = .ok (.sipush 253, 3) := by decide +kernel
theorem dX6_init_8 : decode cX6_init 8 = .ok (.newarray .int, 2) := by decide +kernel
theorem dX6_init_10 : decode cX6_init 10 = .ok (.putfield 7, 3) := by decide +kernel
theorem dX6_init_13 : decode cX6_init 13 = .ok (.aload_n 0, 1) := by decide +kernel
theorem dX6_init_14 : decode cX6_init 14 = .ok (.sipush 1518, 3) := by decide +kernel
theorem dX6_init_17 : decode cX6_init 17 = .ok (.newarray .int, 2) := by decide +kernel
theorem dX6_init_19 : decode cX6_init 19 = .ok (.putfield 13, 3) := by decide +kernel
theorem dX6_init_22 : decode cX6_init 22 = .ok (.aload_n 0, 1) := by decide +kernel
theorem dX6_init_23 : decode cX6_init 23 = .ok (.bipush 60, 2) := by decide +kernel
theorem dX6_init_25 : decode cX6_init 25 = .ok (.newarray .int, 2) := by decide +kernel
theorem dX6_init_27 : decode cX6_init 27 = .ok (.putfield 16, 3) := by decide +kernel
theorem dX6_init_30 : decode cX6_init 30 = .ok (.aload_n 0, 1) := by decide +kernel
theorem dX6_init_31 : decode cX6_init 31 = .ok (.sipush 160, 3) := by decide +kernel
theorem dX6_init_34 : decode cX6_init 34 = .ok (.newarray .int, 2) := by decide +kernel
theorem dX6_init_36 : decode cX6_init 36 = .ok (.putfield 19, 3) := by decide +kernel
theorem dX6_init_39 : decode cX6_init 39 = .ok (.aload_n 0, 1) := by decide +kernel
theorem dX6_init_40 : decode cX6_init 40 = .ok (.sipush 160, 3) := by decide +kernel
theorem dX6_init_43 : decode cX6_init 43 = .ok (.newarray .int, 2) := by decide +kernel
theorem dX6_init_45 : decode cX6_init 45 = .ok (.putfield 22, 3) := by decide +kernel
theorem dX6_init_48 : decode cX6_init 48 = .ok (.aload_n 0, 1) := by decide +kernel
theorem dX6_init_49 : decode cX6_init 49 = .ok (.sipush 240, 3) := by decide +kernel
theorem dX6_init_52 : decode cX6_init 52 = .ok (.newarray .int, 2) := by decide +kernel
theorem dX6_init_54 : decode cX6_init 54 = .ok (.putfield 25, 3) := by decide +kernel
theorem dX6_init_57 : decode cX6_init 57 = .ok (.aload_n 0, 1) := by decide +kernel
theorem dX6_init_58 : decode cX6_init 58 = .ok (.sipush 240, 3) := by decide +kernel
theorem dX6_init_61 : decode cX6_init 61 = .ok (.newarray .int, 2) := by decide +kernel
theorem dX6_init_63 : decode cX6_init 63 = .ok (.putfield 28, 3) := by decide +kernel
theorem dX6_init_66 : decode cX6_init 66 = .ok (.aload_n 0, 1) := by decide +kernel
theorem dX6_init_67 : decode cX6_init 67 = .ok (.sipush 600, 3) := by decide +kernel
theorem dX6_init_70 : decode cX6_init 70 = .ok (.newarray .int, 2) := by decide +kernel
theorem dX6_init_72 : decode cX6_init 72 = .ok (.putfield 31, 3) := by decide +kernel
theorem dX6_init_75 : decode cX6_init 75 = .ok (.aload_n 0, 1) := by decide +kernel
theorem dX6_init_76 : decode cX6_init 76 = .ok (.iconst 0, 1) := by decide +kernel
theorem dX6_init_77 : decode cX6_init 77 = .ok (.putfield 34, 3) := by decide +kernel
theorem dX6_init_80 : decode cX6_init 80 = .ok (.aload_n 0, 1) := by decide +kernel
theorem dX6_init_81 : decode cX6_init 81 = .ok (.getfield 7, 3) := by decide +kernel
theorem dX6_init_84 : decode cX6_init 84 = .ok (.iconst 3, 1) := by decide +kernel
theorem dX6_init_85 : decode cX6_init 85 = .ok (.bipush 75, 2) := by decide +kernel
theorem dX6_init_87 : decode cX6_init 87 = .ok (.iastore, 1) := by decide +kernel
theorem dX6_init_88 : decode cX6_init 88 = .ok (.return_, 1) := by decide +kernel
theorem dX6_thrown_0 : decode cX6_thrown 0 = .ok (.aload_n 0, 1) := by decide +kernel
theorem dX6_thrown_1 : decode cX6_thrown 1 = .ok (.getfield 34, 3) := by decide +kernel
theorem dX6_thrown_4 : decode cX6_thrown 4 = .ok (.ireturn, 1) := by decide +kernel
theorem dX6_in_0 : decode cX6_in 0 = .ok (.iload_n 0, 1) := by decide +kernel
theorem dX6_in_1 : decode cX6_in 1 = .ok (.iload_n 1, 1) := by decide +kernel
theorem dX6_in_2 : decode cX6_in 2 = .ok (.if_icmp .lt 12, 3) := by decide +kernel
theorem dX6_in_5 : decode cX6_in 5 = .ok (.iload_n 0, 1) := by decide +kernel
theorem dX6_in_6 : decode cX6_in 6 = .ok (.iload_n 2, 1) := by decide +kernel
theorem dX6_in_7 : decode cX6_in 7 = .ok (.if_icmp .gt 7, 3) := by decide +kernel
theorem dX6_in_10 : decode cX6_in 10 = .ok (.iconst 1, 1) := by decide +kernel
theorem dX6_in_11 : decode cX6_in 11 = .ok (.goto 4, 3) := by decide +kernel
theorem dX6_in_14 : decode cX6_in 14 = .ok (.iconst 0, 1) := by decide +kernel
theorem dX6_in_15 : decode cX6_in 15 = .ok (.ireturn, 1) := by decide +kernel
theorem dX6_fails_0 : decode cX6_fails 0 = .ok (.aload_n 0, 1) := by decide +kernel
theorem dX6_fails_1 : decode cX6_fails 1 = .ok (.iload_n 1, 1) := by decide +kernel
theorem dX6_fails_2 : decode cX6_fails 2 = .ok (.putfield 34, 3) := by decide +kernel
theorem dX6_fails_5 : decode cX6_fails 5 = .ok (.iconst 0, 1) := by decide +kernel
theorem dX6_fails_6 : decode cX6_fails 6 = .ok (.ireturn, 1) := by decide +kernel
theorem dX6_saves_0 : decode cX6_saves 0 = .ok (.aload_n 0, 1) := by decide +kernel
theorem dX6_saves_1 : decode cX6_saves 1 = .ok (.getfield 38, 3) := by decide +kernel
theorem dX6_saves_4 : decode cX6_saves 4 = .ok (.bipush 6, 2) := by decide +kernel
theorem dX6_saves_6 : decode cX6_saves 6 = .ok (.if_icmp .ne 44, 3) := by decide +kernel
theorem dX6_saves_9 : decode cX6_saves 9 = .ok (.iconst 0, 1) := by decide +kernel
theorem dX6_saves_10 : decode cX6_saves 10 = .ok (.istore_n 1, 1) := by decide +kernel
theorem dX6_saves_11 : decode cX6_saves 11 = .ok (.iload_n 1, 1) := by decide +kernel
theorem dX6_saves_12 : decode cX6_saves 12 = .ok (.sipush 1265, 3) := by decide +kernel
theorem dX6_saves_15 : decode cX6_saves 15 = .ok (.if_icmp .ge 25, 3) := by decide +kernel
theorem dX6_saves_18 : decode cX6_saves 18 = .ok (.aload_n 0, 1) := by decide +kernel
theorem dX6_saves_19 : decode cX6_saves 19 = .ok (.getfield 13, 3) := by decide +kernel
theorem dX6_saves_22 : decode cX6_saves 22 = .ok (.iload_n 1, 1) := by decide +kernel
theorem dX6_saves_23 : decode cX6_saves 23 = .ok (.aload_n 0, 1) := by decide +kernel
theorem dX6_saves_24 : decode cX6_saves 24 = .ok (.getfield 13, 3) := by decide +kernel
theorem dX6_saves_27 : decode cX6_saves 27 = .ok (.iload_n 1, 1) := by decide +kernel
theorem dX6_saves_28 : decode cX6_saves 28 = .ok (.sipush 253, 3) := by decide +kernel
theorem dX6_saves_31 : decode cX6_saves 31 = .ok (.iadd, 1) := by decide +kernel
theorem dX6_saves_32 : decode cX6_saves 32 = .ok (.iaload, 1) := by decide +kernel
theorem dX6_saves_33 : decode cX6_saves 33 = .ok (.iastore, 1) := by decide +kernel
theorem dX6_saves_34 : decode cX6_saves 34 = .ok (.iinc 1 1, 3) := by decide +kernel
theorem dX6_saves_37 : decode cX6_saves 37 = .ok (.goto (-26), 3) := by decide +kernel
theorem dX6_saves_40 : decode cX6_saves 40 = .ok (.aload_n 0, 1) := by decide +kernel
theorem dX6_saves_41 : decode cX6_saves 41 = .ok (.dup, 1) := by decide +kernel
theorem dX6_saves_42 : decode cX6_saves 42 = .ok (.getfield 38, 3) := by decide +kernel
theorem dX6_saves_45 : decode cX6_saves 45 = .ok (.iconst 1, 1) := by decide +kernel
theorem dX6_saves_46 : decode cX6_saves 46 = .ok (.isub, 1) := by decide +kernel
theorem dX6_saves_47 : decode cX6_saves 47 = .ok (.putfield 38, 3) := by decide +kernel
theorem dX6_saves_50 : decode cX6_saves 50 = .ok (.iconst 0, 1) := by decide +kernel
theorem dX6_saves_51 : decode cX6_saves 51 = .ok (.istore_n 1, 1) := by decide +kernel
theorem dX6_saves_52 : decode cX6_saves 52 = .ok (.iload_n 1, 1) := by decide +kernel
theorem dX6_saves_53 : decode cX6_saves 53 = .ok (.sipush 253, 3) := by decide +kernel
theorem dX6_saves_56 : decode cX6_saves 56 = .ok (.if_icmp .ge 30, 3) := by decide +kernel
theorem dX6_saves_59 : decode cX6_saves 59 = .ok (.aload_n 0, 1) := by decide +kernel
theorem dX6_saves_60 : decode cX6_saves 60 = .ok (.getfield 13, 3) := by decide +kernel
theorem dX6_saves_63 : decode cX6_saves 63 = .ok (.sipush 253, 3) := by decide +kernel
theorem dX6_saves_66 : decode cX6_saves 66 = .ok (.aload_n 0, 1) := by decide +kernel
theorem dX6_saves_67 : decode cX6_saves 67 = .ok (.getfield 38, 3) := by decide +kernel
theorem dX6_saves_70 : decode cX6_saves 70 = .ok (.imul, 1) := by decide +kernel
theorem dX6_saves_71 : decode cX6_saves 71 = .ok (.iload_n 1, 1) := by decide +kernel
theorem dX6_saves_72 : decode cX6_saves 72 = .ok (.iadd, 1) := by decide +kernel
theorem dX6_saves_73 : decode cX6_saves 73 = .ok (.aload_n 0, 1) := by decide +kernel
theorem dX6_saves_74 : decode cX6_saves 74 = .ok (.getfield 7, 3) := by decide +kernel
theorem dX6_saves_77 : decode cX6_saves 77 = .ok (.iload_n 1, 1) := by decide +kernel
theorem dX6_saves_78 : decode cX6_saves 78 = .ok (.iaload, 1) := by decide +kernel
theorem dX6_saves_79 : decode cX6_saves 79 = .ok (.iastore, 1) := by decide +kernel
theorem dX6_saves_80 : decode cX6_saves 80 = .ok (.iinc 1 1, 3) := by decide +kernel
theorem dX6_saves_83 : decode cX6_saves 83 = .ok (.goto (-31), 3) := by decide +kernel
theorem dX6_saves_86 : decode cX6_saves 86 = .ok (.aload_n 0, 1) := by decide +kernel
theorem dX6_saves_87 : decode cX6_saves 87 = .ok (.dup, 1) := by decide +kernel
theorem dX6_saves_88 : decode cX6_saves 88 = .ok (.getfield 38, 3) := by decide +kernel
theorem dX6_saves_91 : decode cX6_saves 91 = .ok (.iconst 1, 1) := by decide +kernel
theorem dX6_saves_92 : decode cX6_saves 92 = .ok (.iadd, 1) := by decide +kernel
theorem dX6_saves_93 : decode cX6_saves 93 = .ok (.putfield 38, 3) := by decide +kernel
theorem dX6_saves_96 : decode cX6_saves 96 = .ok (.return_, 1) := by decide +kernel
theorem dX6_firstPlace_0 : decode cX6_firstPlace 0 = .ok (.aload_n 0, 1) := by decide +kernel
theorem dX6_firstPlace_1 : decode cX6_firstPlace 1 = .ok (.getfield 7, 3) := by decide +kernel
theorem dX6_firstPlace_4 : decode cX6_firstPlace 4 = .ok (.iconst 2, 1) := by decide +kernel
theorem dX6_firstPlace_5 : decode cX6_firstPlace 5 = .ok (.iaload, 1) := by decide +kernel
theorem dX6_firstPlace_6 : decode cX6_firstPlace 6 = .ok (.ifCond .ne 7, 3) := by decide +kernel
theorem dX6_firstPlace_9 : decode cX6_firstPlace 9 = .ok (.iconst 0, 1) := by decide +kernel
theorem dX6_firstPlace_10 : decode cX6_firstPlace 10 = .ok (.goto 9, 3) := by decide +kernel
theorem dX6_firstPlace_13 : decode cX6_firstPlace 13 = .ok (.aload_n 0, 1) := by decide +kernel
theorem dX6_firstPlace_14 : decode cX6_firstPlace 14 = .ok (.getfield 7, 3) := by decide +kernel
theorem dX6_firstPlace_17 : decode cX6_firstPlace 17 = .ok (.iconst 1, 1) := by decide +kernel
theorem dX6_firstPlace_18 : decode cX6_firstPlace 18 = .ok (.iaload, 1) := by decide +kernel
theorem dX6_firstPlace_19 : decode cX6_firstPlace 19 = .ok (.ireturn, 1) := by decide +kernel
set_option maxRecDepth 20000 in
theorem ggX6_lastPlace_X6_firstPlace : GoodIn wsX6_lastPlace wsX6_firstPlace := goodIn_r _ [6, 1, 7, 8, 9, 10, 11, 12, 13, 14, 15, 16, 17, 18, 19, 20, 21] (by decide +kernel) (by decide +kernel)
set_option maxRecDepth 20000 in
theorem gX6_lastPlace_X6_firstPlace : GoodIn wsX6_lastPlace (wsV RX6 41 RX6 yX6_firstPlace wsX6_firstPlace) := goodIn_app (goodIn_of _ (by decide +kernel)) ggX6_lastPlace_X6_firstPlace
theorem dX6_lastPlace_0 : decode cX6_lastPlace 0 = .ok (.aload_n 0, 1) := by decide +kernel
theorem dX6_lastPlace_1 : decode cX6_lastPlace 1 = .ok (.getfield 7, 3) := by decide +kernel
theorem dX6_lastPlace_4 : decode cX6_lastPlace 4 = .ok (.iconst 2, 1) := by decide +kernel
theorem dX6_lastPlace_5 : decode cX6_lastPlace 5 = .ok (.iaload, 1) := by decide +kernel
theorem dX6_lastPlace_6 : decode cX6_lastPlace 6 = .ok (.ifCond .ne 12, 3) := by decide +kernel
theorem dX6_lastPlace_9 : decode cX6_lastPlace 9 = .ok (.aload_n 0, 1) := by decide +kernel
theorem dX6_lastPlace_10 : decode cX6_lastPlace 10 = .ok (.getfield 7, 3) := by decide +kernel
theorem dX6_lastPlace_13 : decode cX6_lastPlace 13 = .ok (.iconst 0, 1) := by decide +kernel
theorem dX6_lastPlace_14 : decode cX6_lastPlace 14 = .ok (.iaload, 1) := by decide +kernel
theorem dX6_lastPlace_15 : decode cX6_lastPlace 15 = .ok (.goto 16, 3) := by decide +kernel
theorem dX6_lastPlace_18 : decode cX6_lastPlace 18 = .ok (.aload_n 0, 1) := by decide +kernel
theorem dX6_lastPlace_19 : decode cX6_lastPlace 19 = .ok (.getfield 7, 3) := by decide +kernel
theorem dX6_lastPlace_22 : decode cX6_lastPlace 22 = .ok (.iconst 1, 1) := by decide +kernel
theorem dX6_lastPlace_23 : decode cX6_lastPlace 23 = .ok (.iaload, 1) := by decide +kernel
theorem dX6_lastPlace_24 : decode cX6_lastPlace 24 = .ok (.aload_n 0, 1) := by decide +kernel
theorem dX6_lastPlace_25 : decode cX6_lastPlace 25 = .ok (.getfield 7, 3) := by decide +kernel
theorem dX6_lastPlace_28 : decode cX6_lastPlace 28 = .ok (.iconst 2, 1) := by decide +kernel
theorem dX6_lastPlace_29 : decode cX6_lastPlace 29 = .ok (.iaload, 1) := by decide +kernel
theorem dX6_lastPlace_30 : decode cX6_lastPlace 30 = .ok (.iadd, 1) := by decide +kernel
theorem dX6_lastPlace_31 : decode cX6_lastPlace 31 = .ok (.istore_n 1, 1) := by decide +kernel
theorem dX6_lastPlace_32 : decode cX6_lastPlace 32 = .ok (.iload_n 1, 1) := by decide +kernel
theorem dX6_lastPlace_33 : decode cX6_lastPlace 33 = .ok (.aload_n 0, 1) := by decide +kernel
theorem dX6_lastPlace_34 : decode cX6_lastPlace 34 = .ok (.getfield 7, 3) := by decide +kernel
theorem dX6_lastPlace_37 : decode cX6_lastPlace 37 = .ok (.iconst 0, 1) := by decide +kernel
theorem dX6_lastPlace_38 : decode cX6_lastPlace 38 = .ok (.iaload, 1) := by decide +kernel
theorem dX6_lastPlace_39 : decode cX6_lastPlace 39 = .ok (.if_icmp .ge 7, 3) := by decide +kernel
theorem dX6_lastPlace_42 : decode cX6_lastPlace 42 = .ok (.iload_n 1, 1) := by decide +kernel
theorem dX6_lastPlace_43 : decode cX6_lastPlace 43 = .ok (.goto 9, 3) := by decide +kernel
theorem dX6_lastPlace_46 : decode cX6_lastPlace 46 = .ok (.aload_n 0, 1) := by decide +kernel
theorem dX6_lastPlace_47 : decode cX6_lastPlace 47 = .ok (.getfield 7, 3) := by decide +kernel
theorem dX6_lastPlace_50 : decode cX6_lastPlace 50 = .ok (.iconst 0, 1) := by decide +kernel
theorem dX6_lastPlace_51 : decode cX6_lastPlace 51 = .ok (.iaload, 1) := by decide +kernel
theorem dX6_lastPlace_52 : decode cX6_lastPlace 52 = .ok (.istore_n 1, 1) := by decide +kernel
theorem dX6_lastPlace_53 : decode cX6_lastPlace 53 = .ok (.iload_n 1, 1) := by decide +kernel
theorem dX6_lastPlace_54 : decode cX6_lastPlace 54 = .ok (.aload_n 0, 1) := by decide +kernel
theorem dX6_lastPlace_55 : decode cX6_lastPlace 55 = .ok (.invokevirtual 41, 3) := by decide +kernel
theorem dX6_lastPlace_58 : decode cX6_lastPlace 58 = .ok (.if_icmp .ge 10, 3) := by decide +kernel
theorem dX6_lastPlace_61 : decode cX6_lastPlace 61 = .ok (.aload_n 0, 1) := by decide +kernel
theorem dX6_lastPlace_62 : decode cX6_lastPlace 62 = .ok (.invokevirtual 41, 3) := by decide +kernel
theorem dX6_lastPlace_65 : decode cX6_lastPlace 65 = .ok (.goto 4, 3) := by decide +kernel
theorem dX6_lastPlace_68 : decode cX6_lastPlace 68 = .ok (.iload_n 1, 1) := by decide +kernel
theorem dX6_lastPlace_69 : decode cX6_lastPlace 69 = .ok (.ireturn, 1) := by decide +kernel
theorem dX6_classOf_0 : decode cX6_classOf 0 = .ok (.bipush 10, 2) := by decide +kernel
theorem dX6_classOf_2 : decode cX6_classOf 2 = .ok (.iload_n 0, 1) := by decide +kernel
theorem dX6_classOf_3 : decode cX6_classOf 3 = .ok (.imul, 1) := by decide +kernel
theorem dX6_classOf_4 : decode cX6_classOf 4 = .ok (.iload_n 2, 1) := by decide +kernel
theorem dX6_classOf_5 : decode cX6_classOf 5 = .ok (.iadd, 1) := by decide +kernel
theorem dX6_classOf_6 : decode cX6_classOf 6 = .ok (.iload_n 1, 1) := by decide +kernel
theorem dX6_classOf_7 : decode cX6_classOf 7 = .ok (.irem, 1) := by decide +kernel
theorem dX6_classOf_8 : decode cX6_classOf 8 = .ok (.bipush 10, 2) := by decide +kernel
theorem dX6_classOf_10 : decode cX6_classOf 10 = .ok (.idiv, 1) := by decide +kernel
theorem dX6_classOf_11 : decode cX6_classOf 11 = .ok (.ireturn, 1) := by decide +kernel
theorem dX6_classesOf_0 : decode cX6_classesOf 0 = .ok (.iload_n 0, 1) := by decide +kernel
theorem dX6_classesOf_1 : decode cX6_classesOf 1 = .ok (.bipush 9, 2) := by decide +kernel
theorem dX6_classesOf_3 : decode cX6_classesOf 3 = .ok (.iadd, 1) := by decide +kernel
theorem dX6_classesOf_4 : decode cX6_classesOf 4 = .ok (.bipush 10, 2) := by decide +kernel
theorem dX6_classesOf_6 : decode cX6_classesOf 6 = .ok (.idiv, 1) := by decide +kernel
theorem dX6_classesOf_7 : decode cX6_classesOf 7 = .ok (.ireturn, 1) := by decide +kernel
set_option maxRecDepth 20000 in
theorem ggX6_lays_X6_classesOf : GoodIn wsX6_lays wsX6_classesOf := goodIn_r _ [6] (by decide +kernel) (by decide +kernel)
set_option maxRecDepth 20000 in
theorem gX6_lays_X6_classesOf : GoodIn wsX6_lays (va_wsS RX6 45 yX6_classesOf wsX6_classesOf) := goodIn_app (goodIn_of _ (by decide +kernel)) ggX6_lays_X6_classesOf
set_option maxRecDepth 20000 in
theorem ggX6_lays_X6_classOf : GoodIn wsX6_lays wsX6_classOf := goodIn_r _ [9] (by decide +kernel) (by decide +kernel)
set_option maxRecDepth 20000 in
theorem gX6_lays_X6_classOf : GoodIn wsX6_lays (va_wsS RX6 49 yX6_classOf wsX6_classOf) := goodIn_app (goodIn_of _ (by decide +kernel)) ggX6_lays_X6_classOf
theorem dX6_lays_0 : decode cX6_lays 0 = .ok (.iconst 0, 1) := by decide +kernel
theorem dX6_lays_1 : decode cX6_lays 1 = .ok (.istore 5, 2) := by decide +kernel
theorem dX6_lays_3 : decode cX6_lays 3 = .ok (.iload 5, 2) := by decide +kernel
theorem dX6_lays_5 : decode cX6_lays 5 = .ok (.iconst 4, 1) := by decide +kernel
theorem dX6_lays_6 : decode cX6_lays 6 = .ok (.iload_n 1, 1) := by decide +kernel
theorem dX6_lays_7 : decode cX6_lays 7 = .ok (.invokestatic 45, 3) := by decide +kernel
theorem dX6_lays_10 : decode cX6_lays 10 = .ok (.imul, 1) := by decide +kernel
theorem dX6_lays_11 : decode cX6_lays 11 = .ok (.if_icmp .ge 17, 3) := by decide +kernel
theorem dX6_lays_14 : decode cX6_lays 14 = .ok (.aload_n 0, 1) := by decide +kernel
theorem dX6_lays_15 : decode cX6_lays 15 = .ok (.getfield 19, 3) := by decide +kernel
theorem dX6_lays_18 : decode cX6_lays 18 = .ok (.iload 5, 2) := by decide +kernel
theorem dX6_lays_20 : decode cX6_lays 20 = .ok (.iconst 0, 1) := by decide +kernel
theorem dX6_lays_21 : decode cX6_lays 21 = .ok (.iastore, 1) := by decide +kernel
theorem dX6_lays_22 : decode cX6_lays 22 = .ok (.iinc 5 1, 3) := by decide +kernel
theorem dX6_lays_25 : decode cX6_lays 25 = .ok (.goto (-22), 3) := by decide +kernel
theorem dX6_lays_28 : decode cX6_lays 28 = .ok (.iload_n 3, 1) := by decide +kernel
theorem dX6_lays_29 : decode cX6_lays 29 = .ok (.istore 5, 2) := by decide +kernel
theorem dX6_lays_31 : decode cX6_lays 31 = .ok (.iload 5, 2) := by decide +kernel
theorem dX6_lays_33 : decode cX6_lays 33 = .ok (.iload 4, 2) := by decide +kernel
theorem dX6_lays_35 : decode cX6_lays 35 = .ok (.if_icmp .ge 38, 3) := by decide +kernel
theorem dX6_lays_38 : decode cX6_lays 38 = .ok (.aload_n 0, 1) := by decide +kernel
theorem dX6_lays_39 : decode cX6_lays 39 = .ok (.getfield 19, 3) := by decide +kernel
theorem dX6_lays_42 : decode cX6_lays 42 = .ok (.iconst 4, 1) := by decide +kernel
theorem dX6_lays_43 : decode cX6_lays 43 = .ok (.iload 5, 2) := by decide +kernel
theorem dX6_lays_45 : decode cX6_lays 45 = .ok (.iload_n 1, 1) := by decide +kernel
theorem dX6_lays_46 : decode cX6_lays 46 = .ok (.iload_n 2, 1) := by decide +kernel
theorem dX6_lays_47 : decode cX6_lays 47 = .ok (.invokestatic 49, 3) := by decide +kernel
theorem dX6_lays_50 : decode cX6_lays 50 = .ok (.imul, 1) := by decide +kernel
theorem dX6_lays_51 : decode cX6_lays 51 = .ok (.aload_n 0, 1) := by decide +kernel
theorem dX6_lays_52 : decode cX6_lays 52 = .ok (.getfield 7, 3) := by decide +kernel
theorem dX6_lays_55 : decode cX6_lays 55 = .ok (.bipush 13, 2) := by decide +kernel
theorem dX6_lays_57 : decode cX6_lays 57 = .ok (.iload 5, 2) := by decide +kernel
theorem dX6_lays_59 : decode cX6_lays 59 = .ok (.iadd, 1) := by decide +kernel
theorem dX6_lays_60 : decode cX6_lays 60 = .ok (.iaload, 1) := by decide +kernel
theorem dX6_lays_61 : decode cX6_lays 61 = .ok (.iadd, 1) := by decide +kernel
theorem dX6_lays_62 : decode cX6_lays 62 = .ok (.dup2, 1) := by decide +kernel
theorem dX6_lays_63 : decode cX6_lays 63 = .ok (.iaload, 1) := by decide +kernel
theorem dX6_lays_64 : decode cX6_lays 64 = .ok (.iconst 1, 1) := by decide +kernel
theorem dX6_lays_65 : decode cX6_lays 65 = .ok (.iadd, 1) := by decide +kernel
theorem dX6_lays_66 : decode cX6_lays 66 = .ok (.iastore, 1) := by decide +kernel
theorem dX6_lays_67 : decode cX6_lays 67 = .ok (.iinc 5 1, 3) := by decide +kernel
theorem dX6_lays_70 : decode cX6_lays 70 = .ok (.goto (-39), 3) := by decide +kernel
theorem dX6_lays_73 : decode cX6_lays 73 = .ok (.return_, 1) := by decide +kernel
theorem dX6_signOf_0 : decode cX6_signOf 0 = .ok (.iconst (-1), 1) := by decide +kernel
theorem dX6_signOf_1 : decode cX6_signOf 1 = .ok (.istore_n 2, 1) := by decide +kernel
theorem dX6_signOf_2 : decode cX6_signOf 2 = .ok (.iconst 0, 1) := by decide +kernel
theorem dX6_signOf_3 : decode cX6_signOf 3 = .ok (.istore_n 3, 1) := by decide +kernel
theorem dX6_signOf_4 : decode cX6_signOf 4 = .ok (.iload_n 3, 1) := by decide +kernel
theorem dX6_signOf_5 : decode cX6_signOf 5 = .ok (.iconst 4, 1) := by decide +kernel
theorem dX6_signOf_6 : decode cX6_signOf 6 = .ok (.if_icmp .ge 52, 3) := by decide +kernel
theorem dX6_signOf_9 : decode cX6_signOf 9 = .ok (.aload_n 0, 1) := by decide +kernel
theorem dX6_signOf_10 : decode cX6_signOf 10 = .ok (.getfield 19, 3) := by decide +kernel
theorem dX6_signOf_13 : decode cX6_signOf 13 = .ok (.iconst 4, 1) := by decide +kernel
theorem dX6_signOf_14 : decode cX6_signOf 14 = .ok (.iload_n 1, 1) := by decide +kernel
theorem dX6_signOf_15 : decode cX6_signOf 15 = .ok (.imul, 1) := by decide +kernel
theorem dX6_signOf_16 : decode cX6_signOf 16 = .ok (.iload_n 3, 1) := by decide +kernel
theorem dX6_signOf_17 : decode cX6_signOf 17 = .ok (.iadd, 1) := by decide +kernel
theorem dX6_signOf_18 : decode cX6_signOf 18 = .ok (.iaload, 1) := by decide +kernel
theorem dX6_signOf_19 : decode cX6_signOf 19 = .ok (.istore 4, 2) := by decide +kernel
theorem dX6_signOf_21 : decode cX6_signOf 21 = .ok (.iload 4, 2) := by decide +kernel
theorem dX6_signOf_23 : decode cX6_signOf 23 = .ok (.ifCond .le 27, 3) := by decide +kernel
theorem dX6_signOf_26 : decode cX6_signOf 26 = .ok (.iload_n 2, 1) := by decide +kernel
theorem dX6_signOf_27 : decode cX6_signOf 27 = .ok (.iconst (-1), 1) := by decide +kernel
theorem dX6_signOf_28 : decode cX6_signOf 28 = .ok (.if_icmp .eq 18, 3) := by decide +kernel
theorem dX6_signOf_31 : decode cX6_signOf 31 = .ok (.iload 4, 2) := by decide +kernel
theorem dX6_signOf_33 : decode cX6_signOf 33 = .ok (.aload_n 0, 1) := by decide +kernel
theorem dX6_signOf_34 : decode cX6_signOf 34 = .ok (.getfield 19, 3) := by decide +kernel
theorem dX6_signOf_37 : decode cX6_signOf 37 = .ok (.iconst 4, 1) := by decide +kernel
theorem dX6_signOf_38 : decode cX6_signOf 38 = .ok (.iload_n 1, 1) := by decide +kernel
theorem dX6_signOf_39 : decode cX6_signOf 39 = .ok (.imul, 1) := by decide +kernel
theorem dX6_signOf_40 : decode cX6_signOf 40 = .ok (.iload_n 2, 1) := by decide +kernel
theorem dX6_signOf_41 : decode cX6_signOf 41 = .ok (.iadd, 1) := by decide +kernel
theorem dX6_signOf_42 : decode cX6_signOf 42 = .ok (.iaload, 1) := by decide +kernel
theorem dX6_signOf_43 : decode cX6_signOf 43 = .ok (.if_icmp .le 7, 3) := by decide +kernel
theorem dX6_signOf_46 : decode cX6_signOf 46 = .ok (.iload_n 3, 1) := by decide +kernel
theorem dX6_signOf_47 : decode cX6_signOf 47 = .ok (.goto 4, 3) := by decide +kernel
theorem dX6_signOf_50 : decode cX6_signOf 50 = .ok (.iload_n 2, 1) := by decide +kernel
theorem dX6_signOf_51 : decode cX6_signOf 51 = .ok (.istore_n 2, 1) := by decide +kernel
theorem dX6_signOf_52 : decode cX6_signOf 52 = .ok (.iinc 3 1, 3) := by decide +kernel
theorem dX6_signOf_55 : decode cX6_signOf 55 = .ok (.goto (-51), 3) := by decide +kernel
theorem dX6_signOf_58 : decode cX6_signOf 58 = .ok (.iload_n 2, 1) := by decide +kernel
theorem dX6_signOf_59 : decode cX6_signOf 59 = .ok (.ireturn, 1) := by decide +kernel
theorem dX6_placesOf_0 : decode cX6_placesOf 0 = .ok (.iconst 0, 1) := by decide +kernel
theorem dX6_placesOf_1 : decode cX6_placesOf 1 = .ok (.istore_n 2, 1) := by decide +kernel
theorem dX6_placesOf_2 : decode cX6_placesOf 2 = .ok (.iconst 0, 1) := by decide +kernel
theorem dX6_placesOf_3 : decode cX6_placesOf 3 = .ok (.istore_n 3, 1) := by decide +kernel
theorem dX6_placesOf_4 : decode cX6_placesOf 4 = .ok (.iload_n 3, 1) := by decide +kernel
theorem dX6_placesOf_5 : decode cX6_placesOf 5 = .ok (.iconst 4, 1) := by decide +kernel
theorem dX6_placesOf_6 : decode cX6_placesOf 6 = .ok (.if_icmp .ge 22, 3) := by decide +kernel
theorem dX6_placesOf_9 : decode cX6_placesOf 9 = .ok (.iload_n 2, 1) := by decide +kernel
theorem dX6_placesOf_10 : decode cX6_placesOf 10 = .ok (.aload_n 0, 1) := by decide +kernel
theorem dX6_placesOf_11 : decode cX6_placesOf 11 = .ok (.getfield 19, 3) := by decide +kernel
theorem dX6_placesOf_14 : decode cX6_placesOf 14 = .ok (.iconst 4, 1) := by decide +kernel
theorem dX6_placesOf_15 : decode cX6_placesOf 15 = .ok (.iload_n 1, 1) := by decide +kernel
theorem dX6_placesOf_16 : decode cX6_placesOf 16 = .ok (.imul, 1) := by decide +kernel
theorem dX6_placesOf_17 : decode cX6_placesOf 17 = .ok (.iload_n 3, 1) := by decide +kernel
theorem dX6_placesOf_18 : decode cX6_placesOf 18 = .ok (.iadd, 1) := by decide +kernel
theorem dX6_placesOf_19 : decode cX6_placesOf 19 = .ok (.iaload, 1) := by decide +kernel
theorem dX6_placesOf_20 : decode cX6_placesOf 20 = .ok (.iadd, 1) := by decide +kernel
theorem dX6_placesOf_21 : decode cX6_placesOf 21 = .ok (.istore_n 2, 1) := by decide +kernel
theorem dX6_placesOf_22 : decode cX6_placesOf 22 = .ok (.iinc 3 1, 3) := by decide +kernel
theorem dX6_placesOf_25 : decode cX6_placesOf 25 = .ok (.goto (-21), 3) := by decide +kernel
theorem dX6_placesOf_28 : decode cX6_placesOf 28 = .ok (.iload_n 2, 1) := by decide +kernel
theorem dX6_placesOf_29 : decode cX6_placesOf 29 = .ok (.ireturn, 1) := by decide +kernel
set_option maxRecDepth 20000 in
theorem ggX6_isStrong_X6_signOf : GoodIn wsX6_isStrong wsX6_signOf := goodIn_r _ [7, 1, 12, 13, 14, 15, 16, 17, 18, 19, 20, 21, 22, 23, 24, 25, 26] (by decide +kernel) (by decide +kernel)
set_option maxRecDepth 20000 in
theorem gX6_isStrong_X6_signOf : GoodIn wsX6_isStrong (wsV RX6 53 RX6 yX6_signOf wsX6_signOf) := goodIn_app (goodIn_of _ (by decide +kernel)) ggX6_isStrong_X6_signOf
set_option maxRecDepth 20000 in
theorem ggX6_isStrong_X6_placesOf : GoodIn wsX6_isStrong wsX6_placesOf := goodIn_r _ [11, 1, 12, 13, 14, 15, 16, 17, 18, 19, 20, 21, 22, 23, 24, 25, 26] (by decide +kernel) (by decide +kernel)
set_option maxRecDepth 20000 in
theorem gX6_isStrong_X6_placesOf : GoodIn wsX6_isStrong (wsV RX6 56 RX6 yX6_placesOf wsX6_placesOf) := goodIn_app (goodIn_of _ (by decide +kernel)) ggX6_isStrong_X6_placesOf
theorem dX6_isStrong_0 : decode cX6_isStrong 0 = .ok (.aload_n 0, 1) := by decide +kernel
theorem dX6_isStrong_1 : decode cX6_isStrong 1 = .ok (.iload_n 1, 1) := by decide +kernel
theorem dX6_isStrong_2 : decode cX6_isStrong 2 = .ok (.invokevirtual 53, 3) := by decide +kernel
theorem dX6_isStrong_5 : decode cX6_isStrong 5 = .ok (.istore_n 2, 1) := by decide +kernel
theorem dX6_isStrong_6 : decode cX6_isStrong 6 = .ok (.iload_n 2, 1) := by decide +kernel
theorem dX6_isStrong_7 : decode cX6_isStrong 7 = .ok (.iconst (-1), 1) := by decide +kernel
theorem dX6_isStrong_8 : decode cX6_isStrong 8 = .ok (.if_icmp .eq 35, 3) := by decide +kernel
theorem dX6_isStrong_11 : decode cX6_isStrong 11 = .ok (.bipush 100, 2) := by decide +kernel
theorem dX6_isStrong_13 : decode cX6_isStrong 13 = .ok (.aload_n 0, 1) := by decide +kernel
theorem dX6_isStrong_14 : decode cX6_isStrong 14 = .ok (.getfield 19, 3) := by decide +kernel
theorem dX6_isStrong_17 : decode cX6_isStrong 17 = .ok (.iconst 4, 1) := by decide +kernel
theorem dX6_isStrong_18 : decode cX6_isStrong 18 = .ok (.iload_n 1, 1) := by decide +kernel
theorem dX6_isStrong_19 : decode cX6_isStrong 19 = .ok (.imul, 1) := by decide +kernel
theorem dX6_isStrong_20 : decode cX6_isStrong 20 = .ok (.iload_n 2, 1) := by decide +kernel
theorem dX6_isStrong_21 : decode cX6_isStrong 21 = .ok (.iadd, 1) := by decide +kernel
theorem dX6_isStrong_22 : decode cX6_isStrong 22 = .ok (.iaload, 1) := by decide +kernel
theorem dX6_isStrong_23 : decode cX6_isStrong 23 = .ok (.imul, 1) := by decide +kernel
theorem dX6_isStrong_24 : decode cX6_isStrong 24 = .ok (.aload_n 0, 1) := by decide +kernel
theorem dX6_isStrong_25 : decode cX6_isStrong 25 = .ok (.getfield 7, 3) := by decide +kernel
theorem dX6_isStrong_28 : decode cX6_isStrong 28 = .ok (.iconst 3, 1) := by decide +kernel
theorem dX6_isStrong_29 : decode cX6_isStrong 29 = .ok (.iaload, 1) := by decide +kernel
theorem dX6_isStrong_30 : decode cX6_isStrong 30 = .ok (.aload_n 0, 1) := by decide +kernel
theorem dX6_isStrong_31 : decode cX6_isStrong 31 = .ok (.iload_n 1, 1) := by decide +kernel
theorem dX6_isStrong_32 : decode cX6_isStrong 32 = .ok (.invokevirtual 56, 3) := by decide +kernel
theorem dX6_isStrong_35 : decode cX6_isStrong 35 = .ok (.imul, 1) := by decide +kernel
theorem dX6_isStrong_36 : decode cX6_isStrong 36 = .ok (.if_icmp .lt 7, 3) := by decide +kernel
theorem dX6_isStrong_39 : decode cX6_isStrong 39 = .ok (.iconst 1, 1) := by decide +kernel
theorem dX6_isStrong_40 : decode cX6_isStrong 40 = .ok (.goto 4, 3) := by decide +kernel
theorem dX6_isStrong_43 : decode cX6_isStrong 43 = .ok (.iconst 0, 1) := by decide +kernel
theorem dX6_isStrong_44 : decode cX6_isStrong 44 = .ok (.ireturn, 1) := by decide +kernel
set_option maxRecDepth 20000 in
theorem ggX6_explained_X6_lays : GoodIn wsX6_explained wsX6_lays := goodIn_r _ [6, 1, 7, 8, 9, 5, 10, 11, 12, 13, 18, 19, 20, 21, 22, 23, 24, 25, 26, 27, 28, 29, 30, 31, 32] (by decide +kernel) (by decide +kernel)
set_option maxRecDepth 20000 in
theorem gX6_explained_X6_lays : GoodIn wsX6_explained (wsV RX6 59 RX6 yX6_lays wsX6_lays) := goodIn_app (goodIn_of _ (by decide +kernel)) ggX6_explained_X6_lays
set_option maxRecDepth 20000 in
theorem ggX6_explained_X6_classesOf : GoodIn wsX6_explained wsX6_classesOf := goodIn_r _ [10] (by decide +kernel) (by decide +kernel)
set_option maxRecDepth 20000 in
theorem gX6_explained_X6_classesOf : GoodIn wsX6_explained (va_wsS RX6 45 yX6_classesOf wsX6_classesOf) := goodIn_app (goodIn_of _ (by decide +kernel)) ggX6_explained_X6_classesOf
set_option maxRecDepth 20000 in
theorem ggX6_explained_X6_signOf : GoodIn wsX6_explained wsX6_signOf := goodIn_r _ [17, 1, 18, 19, 20, 21, 22, 23, 24, 25, 26, 27, 28, 29, 30, 31, 32] (by decide +kernel) (by decide +kernel)
set_option maxRecDepth 20000 in
theorem gX6_explained_X6_signOf : GoodIn wsX6_explained (wsV RX6 53 RX6 yX6_signOf wsX6_signOf) := goodIn_app (goodIn_of _ (by decide +kernel)) ggX6_explained_X6_signOf
theorem dX6_explained_0 : decode cX6_explained 0 = .ok (.aload_n 0, 1) := by decide +kernel
theorem dX6_explained_1 : decode cX6_explained 1 = .ok (.iload_n 1, 1) := by decide +kernel
theorem dX6_explained_2 : decode cX6_explained 2 = .ok (.iload_n 2, 1) := by decide +kernel
theorem dX6_explained_3 : decode cX6_explained 3 = .ok (.iload_n 3, 1) := by decide +kernel
theorem dX6_explained_4 : decode cX6_explained 4 = .ok (.iload 4, 2) := by decide +kernel
theorem dX6_explained_6 : decode cX6_explained 6 = .ok (.invokevirtual 59, 3) := by decide +kernel
theorem dX6_explained_9 : decode cX6_explained 9 = .ok (.iconst 0, 1) := by decide +kernel
theorem dX6_explained_10 : decode cX6_explained 10 = .ok (.istore 5, 2) := by decide +kernel
theorem dX6_explained_12 : decode cX6_explained 12 = .ok (.iconst 0, 1) := by decide +kernel
theorem dX6_explained_13 : decode cX6_explained 13 = .ok (.istore 6, 2) := by decide +kernel
theorem dX6_explained_15 : decode cX6_explained 15 = .ok (.iload 6, 2) := by decide +kernel
theorem dX6_explained_17 : decode cX6_explained 17 = .ok (.iload_n 1, 1) := by decide +kernel
theorem dX6_explained_18 : decode cX6_explained 18 = .ok (.invokestatic 45, 3) := by decide +kernel
theorem dX6_explained_21 : decode cX6_explained 21 = .ok (.if_icmp .ge 44, 3) := by decide +kernel
theorem dX6_explained_24 : decode cX6_explained 24 = .ok (.iload 5, 2) := by decide +kernel
theorem dX6_explained_26 : decode cX6_explained 26 = .ok (.aload_n 0, 1) := by decide +kernel
theorem dX6_explained_27 : decode cX6_explained 27 = .ok (.iload 6, 2) := by decide +kernel
theorem dX6_explained_29 : decode cX6_explained 29 = .ok (.invokevirtual 53, 3) := by decide +kernel
theorem dX6_explained_32 : decode cX6_explained 32 = .ok (.iconst (-1), 1) := by decide +kernel
theorem dX6_explained_33 : decode cX6_explained 33 = .ok (.if_icmp .ne 7, 3) := by decide +kernel
theorem dX6_explained_36 : decode cX6_explained 36 = .ok (.iconst 0, 1) := by decide +kernel
theorem dX6_explained_37 : decode cX6_explained 37 = .ok (.goto 19, 3) := by decide +kernel
theorem dX6_explained_40 : decode cX6_explained 40 = .ok (.aload_n 0, 1) := by decide +kernel
theorem dX6_explained_41 : decode cX6_explained 41 = .ok (.getfield 19, 3) := by decide +kernel
theorem dX6_explained_44 : decode cX6_explained 44 = .ok (.iconst 4, 1) := by decide +kernel
theorem dX6_explained_45 : decode cX6_explained 45 = .ok (.iload 6, 2) := by decide +kernel
theorem dX6_explained_47 : decode cX6_explained 47 = .ok (.imul, 1) := by decide +kernel
theorem dX6_explained_48 : decode cX6_explained 48 = .ok (.aload_n 0, 1) := by decide +kernel
theorem dX6_explained_49 : decode cX6_explained 49 = .ok (.iload 6, 2) := by decide +kernel
theorem dX6_explained_51 : decode cX6_explained 51 = .ok (.invokevirtual 53, 3) := by decide +kernel
theorem dX6_explained_54 : decode cX6_explained 54 = .ok (.iadd, 1) := by decide +kernel
theorem dX6_explained_55 : decode cX6_explained 55 = .ok (.iaload, 1) := by decide +kernel
theorem dX6_explained_56 : decode cX6_explained 56 = .ok (.iadd, 1) := by decide +kernel
theorem dX6_explained_57 : decode cX6_explained 57 = .ok (.istore 5, 2) := by decide +kernel
theorem dX6_explained_59 : decode cX6_explained 59 = .ok (.iinc 6 1, 3) := by decide +kernel
theorem dX6_explained_62 : decode cX6_explained 62 = .ok (.goto (-47), 3) := by decide +kernel
theorem dX6_explained_65 : decode cX6_explained 65 = .ok (.iload 5, 2) := by decide +kernel
theorem dX6_explained_67 : decode cX6_explained 67 = .ok (.ireturn, 1) := by decide +kernel
set_option maxRecDepth 20000 in
theorem ggX6_explainedNow_X6_firstPlace : GoodIn wsX6_explainedNow wsX6_firstPlace := goodIn_r _ [5, 6, 30, 31, 32, 33, 34, 35, 36, 37, 38, 39, 40, 41, 42, 43, 44] (by decide +kernel) (by decide +kernel)
set_option maxRecDepth 20000 in
theorem gX6_explainedNow_X6_firstPlace : GoodIn wsX6_explainedNow (wsV RX6 41 RX6 yX6_firstPlace wsX6_firstPlace) := goodIn_app (goodIn_of _ (by decide +kernel)) ggX6_explainedNow_X6_firstPlace
set_option maxRecDepth 20000 in
theorem ggX6_explainedNow_X6_lastPlace : GoodIn wsX6_explainedNow wsX6_lastPlace := goodIn_r _ [10, 6, 1, 2, 3, 4, 5, 30, 31, 32, 33, 34, 35, 36, 37, 38, 39, 40, 41, 42, 43, 44] (by decide +kernel) (by decide +kernel)
set_option maxRecDepth 20000 in
theorem gX6_explainedNow_X6_lastPlace : GoodIn wsX6_explainedNow (wsV RX6 63 RX6 yX6_lastPlace wsX6_lastPlace) := goodIn_app (goodIn_of _ (by decide +kernel)) ggX6_explainedNow_X6_lastPlace
set_option maxRecDepth 20000 in
theorem ggX6_explainedNow_X6_explained : GoodIn wsX6_explainedNow wsX6_explained := goodIn_r _ [14, 15, 16, 17, 18, 4, 19, 6, 20, 21, 22, 23, 24, 25, 26, 27, 28, 29, 30, 31, 32, 33, 34, 35, 36, 37, 38, 39, 40, 41, 42, 43, 44] (by decide +kernel) (by decide +kernel)
set_option maxRecDepth 20000 in
theorem gX6_explainedNow_X6_explained : GoodIn wsX6_explainedNow (wsV RX6 66 RX6 yX6_explained wsX6_explained) := goodIn_app (goodIn_of _ (by decide +kernel)) ggX6_explainedNow_X6_explained
theorem dX6_explainedNow_0 : decode cX6_explainedNow 0 = .ok (.aload_n 0, 1) := by decide +kernel
theorem dX6_explainedNow_1 : decode cX6_explainedNow 1 = .ok (.iload_n 1, 1) := by decide +kernel
theorem dX6_explainedNow_2 : decode cX6_explainedNow 2 = .ok (.iload_n 2, 1) := by decide +kernel
theorem dX6_explainedNow_3 : decode cX6_explainedNow 3 = .ok (.aload_n 0, 1) := by decide +kernel
theorem dX6_explainedNow_4 : decode cX6_explainedNow 4 = .ok (.invokevirtual 41, 3) := by decide +kernel
theorem dX6_explainedNow_7 : decode cX6_explainedNow 7 = .ok (.aload_n 0, 1) := by decide +kernel
theorem dX6_explainedNow_8 : decode cX6_explainedNow 8 = .ok (.invokevirtual 63, 3) := by decide +kernel
theorem dX6_explainedNow_11 : decode cX6_explainedNow 11 = .ok (.invokevirtual 66, 3) := by decide +kernel
theorem dX6_explainedNow_14 : decode cX6_explainedNow 14 = .ok (.ireturn, 1) := by decide +kernel
theorem dX6_tenthsOf_0 : decode cX6_tenthsOf 0 = .ok (.aload_n 0, 1) := by decide +kernel
theorem dX6_tenthsOf_1 : decode cX6_tenthsOf 1 = .ok (.getfield 7, 3) := by decide +kernel
theorem dX6_tenthsOf_4 : decode cX6_tenthsOf 4 = .ok (.iconst 5, 1) := by decide +kernel
theorem dX6_tenthsOf_5 : decode cX6_tenthsOf 5 = .ok (.iconst 2, 1) := by decide +kernel
theorem dX6_tenthsOf_6 : decode cX6_tenthsOf 6 = .ok (.iload_n 1, 1) := by decide +kernel
theorem dX6_tenthsOf_7 : decode cX6_tenthsOf 7 = .ok (.imul, 1) := by decide +kernel
theorem dX6_tenthsOf_8 : decode cX6_tenthsOf 8 = .ok (.iadd, 1) := by decide +kernel
theorem dX6_tenthsOf_9 : decode cX6_tenthsOf 9 = .ok (.iaload, 1) := by decide +kernel
theorem dX6_tenthsOf_10 : decode cX6_tenthsOf 10 = .ok (.ireturn, 1) := by decide +kernel
theorem dX6_phaseOf_0 : decode cX6_phaseOf 0 = .ok (.aload_n 0, 1) := by decide +kernel
theorem dX6_phaseOf_1 : decode cX6_phaseOf 1 = .ok (.getfield 7, 3) := by decide +kernel
theorem dX6_phaseOf_4 : decode cX6_phaseOf 4 = .ok (.iconst 5, 1) := by decide +kernel
theorem dX6_phaseOf_5 : decode cX6_phaseOf 5 = .ok (.iconst 2, 1) := by decide +kernel
theorem dX6_phaseOf_6 : decode cX6_phaseOf 6 = .ok (.iload_n 1, 1) := by decide +kernel
theorem dX6_phaseOf_7 : decode cX6_phaseOf 7 = .ok (.imul, 1) := by decide +kernel
theorem dX6_phaseOf_8 : decode cX6_phaseOf 8 = .ok (.iadd, 1) := by decide +kernel
theorem dX6_phaseOf_9 : decode cX6_phaseOf 9 = .ok (.iconst 1, 1) := by decide +kernel
theorem dX6_phaseOf_10 : decode cX6_phaseOf 10 = .ok (.iadd, 1) := by decide +kernel
theorem dX6_phaseOf_11 : decode cX6_phaseOf 11 = .ok (.iaload, 1) := by decide +kernel
theorem dX6_phaseOf_12 : decode cX6_phaseOf 12 = .ok (.ireturn, 1) := by decide +kernel
set_option maxRecDepth 20000 in
theorem ggX6_laysPeriod_X6_tenthsOf : GoodIn wsX6_laysPeriod wsX6_tenthsOf := goodIn_r _ [5, 6, 30, 31, 32, 33, 34, 35, 36, 37, 38, 39, 40, 41, 42, 43, 44] (by decide +kernel) (by decide +kernel)
set_option maxRecDepth 20000 in
theorem gX6_laysPeriod_X6_tenthsOf : GoodIn wsX6_laysPeriod (wsV RX6 70 RX6 yX6_tenthsOf wsX6_tenthsOf) := goodIn_app (goodIn_of _ (by decide +kernel)) ggX6_laysPeriod_X6_tenthsOf
set_option maxRecDepth 20000 in
theorem ggX6_laysPeriod_X6_phaseOf : GoodIn wsX6_laysPeriod wsX6_phaseOf := goodIn_r _ [10, 6, 30, 31, 32, 33, 34, 35, 36, 37, 38, 39, 40, 41, 42, 43, 44] (by decide +kernel) (by decide +kernel)
set_option maxRecDepth 20000 in
theorem gX6_laysPeriod_X6_phaseOf : GoodIn wsX6_laysPeriod (wsV RX6 73 RX6 yX6_phaseOf wsX6_phaseOf) := goodIn_app (goodIn_of _ (by decide +kernel)) ggX6_laysPeriod_X6_phaseOf
set_option maxRecDepth 20000 in
theorem ggX6_laysPeriod_X6_firstPlace : GoodIn wsX6_laysPeriod wsX6_firstPlace := goodIn_r _ [14, 6, 30, 31, 32, 33, 34, 35, 36, 37, 38, 39, 40, 41, 42, 43, 44] (by decide +kernel) (by decide +kernel)
set_option maxRecDepth 20000 in
theorem gX6_laysPeriod_X6_firstPlace : GoodIn wsX6_laysPeriod (wsV RX6 41 RX6 yX6_firstPlace wsX6_firstPlace) := goodIn_app (goodIn_of _ (by decide +kernel)) ggX6_laysPeriod_X6_firstPlace
set_option maxRecDepth 20000 in
theorem ggX6_laysPeriod_X6_lastPlace : GoodIn wsX6_laysPeriod wsX6_lastPlace := goodIn_r _ [18, 6, 11, 12, 13, 4, 14, 30, 31, 32, 33, 34, 35, 36, 37, 38, 39, 40, 41, 42, 43, 44] (by decide +kernel) (by decide +kernel)
set_option maxRecDepth 20000 in
theorem gX6_laysPeriod_X6_lastPlace : GoodIn wsX6_laysPeriod (wsV RX6 63 RX6 yX6_lastPlace wsX6_lastPlace) := goodIn_app (goodIn_of _ (by decide +kernel)) ggX6_laysPeriod_X6_lastPlace
set_option maxRecDepth 20000 in
theorem ggX6_laysPeriod_X6_lays : GoodIn wsX6_laysPeriod wsX6_lays := goodIn_r _ [22, 23, 6, 24, 25, 4, 26, 27, 28, 29, 30, 31, 32, 33, 34, 35, 36, 37, 38, 39, 40, 41, 42, 43, 44] (by decide +kernel) (by decide +kernel)
set_option maxRecDepth 20000 in
theorem gX6_laysPeriod_X6_lays : GoodIn wsX6_laysPeriod (wsV RX6 59 RX6 yX6_lays wsX6_lays) := goodIn_app (goodIn_of _ (by decide +kernel)) ggX6_laysPeriod_X6_lays
theorem dX6_laysPeriod_0 : decode cX6_laysPeriod 0 = .ok (.aload_n 0, 1) := by decide +kernel
theorem dX6_laysPeriod_1 : decode cX6_laysPeriod 1 = .ok (.aload_n 0, 1) := by decide +kernel
theorem dX6_laysPeriod_2 : decode cX6_laysPeriod 2 = .ok (.iload_n 1, 1) := by decide +kernel
theorem dX6_laysPeriod_3 : decode cX6_laysPeriod 3 = .ok (.invokevirtual 70, 3) := by decide +kernel
theorem dX6_laysPeriod_6 : decode cX6_laysPeriod 6 = .ok (.aload_n 0, 1) := by decide +kernel
theorem dX6_laysPeriod_7 : decode cX6_laysPeriod 7 = .ok (.iload_n 1, 1) := by decide +kernel
theorem dX6_laysPeriod_8 : decode cX6_laysPeriod 8 = .ok (.invokevirtual 73, 3) := by decide +kernel
theorem dX6_laysPeriod_11 : decode cX6_laysPeriod 11 = .ok (.aload_n 0, 1) := by decide +kernel
theorem dX6_laysPeriod_12 : decode cX6_laysPeriod 12 = .ok (.invokevirtual 41, 3) := by decide +kernel
theorem dX6_laysPeriod_15 : decode cX6_laysPeriod 15 = .ok (.aload_n 0, 1) := by decide +kernel
theorem dX6_laysPeriod_16 : decode cX6_laysPeriod 16 = .ok (.invokevirtual 63, 3) := by decide +kernel
theorem dX6_laysPeriod_19 : decode cX6_laysPeriod 19 = .ok (.invokevirtual 59, 3) := by decide +kernel
theorem dX6_laysPeriod_22 : decode cX6_laysPeriod 22 = .ok (.return_, 1) := by decide +kernel
set_option maxRecDepth 20000 in
theorem ggX6_laysTold_X6_laysPeriod : GoodIn wsX6_laysTold wsX6_laysPeriod := goodIn_r _ [9, 10, 11, 12, 8, 13, 1, 14, 15, 16, 17, 18, 19, 20, 21, 22, 23, 24, 25, 26, 27, 28, 29, 30, 31, 32, 33, 34, 35, 36, 52, 53, 54, 55, 56, 57, 58, 59, 60, 61, 62, 63, 64, 65, 66] (by decide +kernel) (by decide +kernel)
set_option maxRecDepth 20000 in
theorem gX6_laysTold_X6_laysPeriod : GoodIn wsX6_laysTold (wsV RX6 76 RX6 yX6_laysPeriod wsX6_laysPeriod) := goodIn_app (goodIn_of _ (by decide +kernel)) ggX6_laysTold_X6_laysPeriod
set_option maxRecDepth 20000 in
theorem ggX6_laysTold_X6_tenthsOf : GoodIn wsX6_laysTold wsX6_tenthsOf := goodIn_r _ [13, 1, 52, 53, 54, 55, 56, 57, 58, 59, 60, 61, 62, 63, 64, 65, 66] (by decide +kernel) (by decide +kernel)
set_option maxRecDepth 20000 in
theorem gX6_laysTold_X6_tenthsOf : GoodIn wsX6_laysTold (wsV RX6 70 RX6 yX6_tenthsOf wsX6_tenthsOf) := goodIn_app (goodIn_of _ (by decide +kernel)) ggX6_laysTold_X6_tenthsOf
set_option maxRecDepth 20000 in
theorem ggX6_laysTold_X6_classesOf : GoodIn wsX6_laysTold wsX6_classesOf := goodIn_r _ [33] (by decide +kernel) (by decide +kernel)
set_option maxRecDepth 20000 in
theorem gX6_laysTold_X6_classesOf : GoodIn wsX6_laysTold (va_wsS RX6 45 yX6_classesOf wsX6_classesOf) := goodIn_app (goodIn_of _ (by decide +kernel)) ggX6_laysTold_X6_classesOf
set_option maxRecDepth 20000 in
theorem ggX6_laysTold_X6_isStrong : GoodIn wsX6_laysTold wsX6_isStrong := goodIn_r _ [40, 30, 1, 41, 42, 43, 8, 44, 45, 46, 47, 48, 52, 53, 54, 55, 56, 57, 58, 59, 60, 61, 62, 63, 64, 65, 66] (by decide +kernel) (by decide +kernel)
set_option maxRecDepth 20000 in
theorem gX6_laysTold_X6_isStrong : GoodIn wsX6_laysTold (wsV RX6 80 RX6 yX6_isStrong wsX6_isStrong) := goodIn_app (goodIn_of _ (by decide +kernel)) ggX6_laysTold_X6_isStrong
set_option maxRecDepth 20000 in
theorem ggX6_laysTold_X6_signOf : GoodIn wsX6_laysTold wsX6_signOf := goodIn_r _ [44, 30, 52, 53, 54, 55, 56, 57, 58, 59, 60, 61, 62, 63, 64, 65, 66] (by decide +kernel) (by decide +kernel)
set_option maxRecDepth 20000 in
theorem gX6_laysTold_X6_signOf : GoodIn wsX6_laysTold (wsV RX6 53 RX6 yX6_signOf wsX6_signOf) := goodIn_app (goodIn_of _ (by decide +kernel)) ggX6_laysTold_X6_signOf
set_option maxRecDepth 20000 in
theorem ggX6_laysTold_X6_firstPlace : GoodIn wsX6_laysTold wsX6_firstPlace := goodIn_r _ [21, 1, 52, 53, 54, 55, 56, 57, 58, 59, 60, 61, 62, 63, 64, 65, 66] (by decide +kernel) (by decide +kernel)
set_option maxRecDepth 20000 in
theorem gX6_laysTold_X6_firstPlace : GoodIn wsX6_laysTold (wsV RX6 41 RX6 yX6_firstPlace wsX6_firstPlace) := goodIn_app (goodIn_of _ (by decide +kernel)) ggX6_laysTold_X6_firstPlace
set_option maxRecDepth 20000 in
theorem ggX6_laysTold_X6_lastPlace : GoodIn wsX6_laysTold wsX6_lastPlace := goodIn_r _ [25, 1, 18, 19, 20, 8, 21, 52, 53, 54, 55, 56, 57, 58, 59, 60, 61, 62, 63, 64, 65, 66] (by decide +kernel) (by decide +kernel)
set_option maxRecDepth 20000 in
theorem gX6_laysTold_X6_lastPlace : GoodIn wsX6_laysTold (wsV RX6 63 RX6 yX6_lastPlace wsX6_lastPlace) := goodIn_app (goodIn_of _ (by decide +kernel)) ggX6_laysTold_X6_lastPlace
set_option maxRecDepth 20000 in
theorem ggX6_laysTold_X6_in : GoodIn wsX6_laysTold wsX6_in := goodIn_r _ [51] (by decide +kernel) (by decide +kernel)
set_option maxRecDepth 20000 in
theorem gX6_laysTold_X6_in : GoodIn wsX6_laysTold (va_wsS RX6 84 yX6_in wsX6_in) := goodIn_app (goodIn_of _ (by decide +kernel)) ggX6_laysTold_X6_in
set_option maxRecDepth 20000 in
theorem ggX6_laysTold_X6_phaseOf : GoodIn wsX6_laysTold wsX6_phaseOf := goodIn_r _ [17, 1, 52, 53, 54, 55, 56, 57, 58, 59, 60, 61, 62, 63, 64, 65, 66] (by decide +kernel) (by decide +kernel)
set_option maxRecDepth 20000 in
theorem gX6_laysTold_X6_phaseOf : GoodIn wsX6_laysTold (wsV RX6 73 RX6 yX6_phaseOf wsX6_phaseOf) := goodIn_app (goodIn_of _ (by decide +kernel)) ggX6_laysTold_X6_phaseOf
set_option maxRecDepth 20000 in
theorem ggX6_laysTold_X6_classOf : GoodIn wsX6_laysTold wsX6_classOf := goodIn_r _ [36] (by decide +kernel) (by decide +kernel)
set_option maxRecDepth 20000 in
theorem gX6_laysTold_X6_classOf : GoodIn wsX6_laysTold (va_wsS RX6 49 yX6_classOf wsX6_classOf) := goodIn_app (goodIn_of _ (by decide +kernel)) ggX6_laysTold_X6_classOf
theorem dX6_laysTold_0 : decode cX6_laysTold 0 = .ok (.iconst 0, 1) := by decide +kernel
theorem dX6_laysTold_1 : decode cX6_laysTold 1 = .ok (.istore_n 1, 1) := by decide +kernel
theorem dX6_laysTold_2 : decode cX6_laysTold 2 = .ok (.iload_n 1, 1) := by decide +kernel
theorem dX6_laysTold_3 : decode cX6_laysTold 3 = .ok (.aload_n 0, 1) := by decide +kernel
theorem dX6_laysTold_4 : decode cX6_laysTold 4 = .ok (.getfield 7, 3) := by decide +kernel
theorem dX6_laysTold_7 : decode cX6_laysTold 7 = .ok (.iconst 4, 1) := by decide +kernel
theorem dX6_laysTold_8 : decode cX6_laysTold 8 = .ok (.iaload, 1) := by decide +kernel
theorem dX6_laysTold_9 : decode cX6_laysTold 9 = .ok (.if_icmp .ge 62, 3) := by decide +kernel
theorem dX6_laysTold_12 : decode cX6_laysTold 12 = .ok (.aload_n 0, 1) := by decide +kernel
theorem dX6_laysTold_13 : decode cX6_laysTold 13 = .ok (.iload_n 1, 1) := by decide +kernel
theorem dX6_laysTold_14 : decode cX6_laysTold 14 = .ok (.invokevirtual 76, 3) := by decide +kernel
theorem dX6_laysTold_17 : decode cX6_laysTold 17 = .ok (.iconst 0, 1) := by decide +kernel
theorem dX6_laysTold_18 : decode cX6_laysTold 18 = .ok (.istore_n 2, 1) := by decide +kernel
theorem dX6_laysTold_19 : decode cX6_laysTold 19 = .ok (.iload_n 2, 1) := by decide +kernel
theorem dX6_laysTold_20 : decode cX6_laysTold 20 = .ok (.aload_n 0, 1) := by decide +kernel
theorem dX6_laysTold_21 : decode cX6_laysTold 21 = .ok (.iload_n 1, 1) := by decide +kernel
theorem dX6_laysTold_22 : decode cX6_laysTold 22 = .ok (.invokevirtual 70, 3) := by decide +kernel
theorem dX6_laysTold_25 : decode cX6_laysTold 25 = .ok (.invokestatic 45, 3) := by decide +kernel
theorem dX6_laysTold_28 : decode cX6_laysTold 28 = .ok (.if_icmp .ge 37, 3) := by decide +kernel
theorem dX6_laysTold_31 : decode cX6_laysTold 31 = .ok (.aload_n 0, 1) := by decide +kernel
theorem dX6_laysTold_32 : decode cX6_laysTold 32 = .ok (.getfield 22, 3) := by decide +kernel
theorem dX6_laysTold_35 : decode cX6_laysTold 35 = .ok (.bipush 40, 2) := by decide +kernel
theorem dX6_laysTold_37 : decode cX6_laysTold 37 = .ok (.iload_n 1, 1) := by decide +kernel
theorem dX6_laysTold_38 : decode cX6_laysTold 38 = .ok (.imul, 1) := by decide +kernel
theorem dX6_laysTold_39 : decode cX6_laysTold 39 = .ok (.iload_n 2, 1) := by decide +kernel
theorem dX6_laysTold_40 : decode cX6_laysTold 40 = .ok (.iadd, 1) := by decide +kernel
theorem dX6_laysTold_41 : decode cX6_laysTold 41 = .ok (.aload_n 0, 1) := by decide +kernel
theorem dX6_laysTold_42 : decode cX6_laysTold 42 = .ok (.iload_n 2, 1) := by decide +kernel
theorem dX6_laysTold_43 : decode cX6_laysTold 43 = .ok (.invokevirtual 80, 3) := by decide +kernel
theorem dX6_laysTold_46 : decode cX6_laysTold 46 = .ok (.ifCond .eq 11, 3) := by decide +kernel
theorem dX6_laysTold_49 : decode cX6_laysTold 49 = .ok (.aload_n 0, 1) := by decide +kernel
theorem dX6_laysTold_50 : decode cX6_laysTold 50 = .ok (.iload_n 2, 1) := by decide +kernel
theorem dX6_laysTold_51 : decode cX6_laysTold 51 = .ok (.invokevirtual 53, 3) := by decide +kernel
theorem dX6_laysTold_54 : decode cX6_laysTold 54 = .ok (.goto 4, 3) := by decide +kernel
theorem dX6_laysTold_57 : decode cX6_laysTold 57 = .ok (.iconst (-1), 1) := by decide +kernel
theorem dX6_laysTold_58 : decode cX6_laysTold 58 = .ok (.iastore, 1) := by decide +kernel
theorem dX6_laysTold_59 : decode cX6_laysTold 59 = .ok (.iinc 2 1, 3) := by decide +kernel
theorem dX6_laysTold_62 : decode cX6_laysTold 62 = .ok (.goto (-43), 3) := by decide +kernel
theorem dX6_laysTold_65 : decode cX6_laysTold 65 = .ok (.iinc 1 1, 3) := by decide +kernel
theorem dX6_laysTold_68 : decode cX6_laysTold 68 = .ok (.goto (-66), 3) := by decide +kernel
theorem dX6_laysTold_71 : decode cX6_laysTold 71 = .ok (.iconst 0, 1) := by decide +kernel
theorem dX6_laysTold_72 : decode cX6_laysTold 72 = .ok (.istore_n 1, 1) := by decide +kernel
theorem dX6_laysTold_73 : decode cX6_laysTold 73 = .ok (.iload_n 1, 1) := by decide +kernel
theorem dX6_laysTold_74 : decode cX6_laysTold 74 = .ok (.aload_n 0, 1) := by decide +kernel
theorem dX6_laysTold_75 : decode cX6_laysTold 75 = .ok (.getfield 7, 3) := by decide +kernel
theorem dX6_laysTold_78 : decode cX6_laysTold 78 = .ok (.iconst 0, 1) := by decide +kernel
theorem dX6_laysTold_79 : decode cX6_laysTold 79 = .ok (.iaload, 1) := by decide +kernel
theorem dX6_laysTold_80 : decode cX6_laysTold 80 = .ok (.if_icmp .ge 121, 3) := by decide +kernel
theorem dX6_laysTold_83 : decode cX6_laysTold 83 = .ok (.aload_n 0, 1) := by decide +kernel
theorem dX6_laysTold_84 : decode cX6_laysTold 84 = .ok (.getfield 25, 3) := by decide +kernel
theorem dX6_laysTold_87 : decode cX6_laysTold 87 = .ok (.iload_n 1, 1) := by decide +kernel
theorem dX6_laysTold_88 : decode cX6_laysTold 88 = .ok (.iconst (-1), 1) := by decide +kernel
theorem dX6_laysTold_89 : decode cX6_laysTold 89 = .ok (.iastore, 1) := by decide +kernel
theorem dX6_laysTold_90 : decode cX6_laysTold 90 = .ok (.aload_n 0, 1) := by decide +kernel
theorem dX6_laysTold_91 : decode cX6_laysTold 91 = .ok (.getfield 28, 3) := by decide +kernel
theorem dX6_laysTold_94 : decode cX6_laysTold 94 = .ok (.iload_n 1, 1) := by decide +kernel
theorem dX6_laysTold_95 : decode cX6_laysTold 95 = .ok (.iconst (-1), 1) := by decide +kernel
theorem dX6_laysTold_96 : decode cX6_laysTold 96 = .ok (.iastore, 1) := by decide +kernel
theorem dX6_laysTold_97 : decode cX6_laysTold 97 = .ok (.iload_n 1, 1) := by decide +kernel
theorem dX6_laysTold_98 : decode cX6_laysTold 98 = .ok (.aload_n 0, 1) := by decide +kernel
theorem dX6_laysTold_99 : decode cX6_laysTold 99 = .ok (.invokevirtual 41, 3) := by decide +kernel
theorem dX6_laysTold_102 : decode cX6_laysTold 102 = .ok (.aload_n 0, 1) := by decide +kernel
theorem dX6_laysTold_103 : decode cX6_laysTold 103 = .ok (.invokevirtual 63, 3) := by decide +kernel
theorem dX6_laysTold_106 : decode cX6_laysTold 106 = .ok (.iconst 1, 1) := by decide +kernel
theorem dX6_laysTold_107 : decode cX6_laysTold 107 = .ok (.isub, 1) := by decide +kernel
theorem dX6_laysTold_108 : decode cX6_laysTold 108 = .ok (.invokestatic 84, 3) := by decide +kernel
theorem dX6_laysTold_111 : decode cX6_laysTold 111 = .ok (.istore_n 2, 1) := by decide +kernel
theorem dX6_laysTold_112 : decode cX6_laysTold 112 = .ok (.iconst 0, 1) := by decide +kernel
theorem dX6_laysTold_113 : decode cX6_laysTold 113 = .ok (.istore_n 3, 1) := by decide +kernel
theorem dX6_laysTold_114 : decode cX6_laysTold 114 = .ok (.iload_n 3, 1) := by decide +kernel
theorem dX6_laysTold_115 : decode cX6_laysTold 115 = .ok (.aload_n 0, 1) := by decide +kernel
theorem dX6_laysTold_116 : decode cX6_laysTold 116 = .ok (.getfield 7, 3) := by decide +kernel
theorem dX6_laysTold_119 : decode cX6_laysTold 119 = .ok (.iconst 4, 1) := by decide +kernel
theorem dX6_laysTold_120 : decode cX6_laysTold 120 = .ok (.iaload, 1) := by decide +kernel
theorem dX6_laysTold_121 : decode cX6_laysTold 121 = .ok (.if_icmp .ge 74, 3) := by decide +kernel
theorem dX6_laysTold_124 : decode cX6_laysTold 124 = .ok (.iload_n 2, 1) := by decide +kernel
theorem dX6_laysTold_125 : decode cX6_laysTold 125 = .ok (.ifCond .eq 70, 3) := by decide +kernel
theorem dX6_laysTold_128 : decode cX6_laysTold 128 = .ok (.aload_n 0, 1) := by decide +kernel
theorem dX6_laysTold_129 : decode cX6_laysTold 129 = .ok (.getfield 28, 3) := by decide +kernel
theorem dX6_laysTold_132 : decode cX6_laysTold 132 = .ok (.iload_n 1, 1) := by decide +kernel
theorem dX6_laysTold_133 : decode cX6_laysTold 133 = .ok (.iaload, 1) := by decide +kernel
theorem dX6_laysTold_134 : decode cX6_laysTold 134 = .ok (.iconst (-1), 1) := by decide +kernel
theorem dX6_laysTold_135 : decode cX6_laysTold 135 = .ok (.if_icmp .ne 60, 3) := by decide +kernel
theorem dX6_laysTold_138 : decode cX6_laysTold 138 = .ok (.aload_n 0, 1) := by decide +kernel
theorem dX6_laysTold_139 : decode cX6_laysTold 139 = .ok (.getfield 22, 3) := by decide +kernel
theorem dX6_laysTold_142 : decode cX6_laysTold 142 = .ok (.bipush 40, 2) := by decide +kernel
theorem dX6_laysTold_144 : decode cX6_laysTold 144 = .ok (.iload_n 3, 1) := by decide +kernel
theorem dX6_laysTold_145 : decode cX6_laysTold 145 = .ok (.imul, 1) := by decide +kernel
theorem dX6_laysTold_146 : decode cX6_laysTold 146 = .ok (.iload_n 1, 1) := by decide +kernel
theorem dX6_laysTold_147 : decode cX6_laysTold 147 = .ok (.aload_n 0, 1) := by decide +kernel
theorem dX6_laysTold_148 : decode cX6_laysTold 148 = .ok (.iload_n 3, 1) := by decide +kernel
theorem dX6_laysTold_149 : decode cX6_laysTold 149 = .ok (.invokevirtual 70, 3) := by decide +kernel
theorem dX6_laysTold_152 : decode cX6_laysTold 152 = .ok (.aload_n 0, 1) := by decide +kernel
theorem dX6_laysTold_153 : decode cX6_laysTold 153 = .ok (.iload_n 3, 1) := by decide +kernel
theorem dX6_laysTold_154 : decode cX6_laysTold 154 = .ok (.invokevirtual 73, 3) := by decide +kernel
theorem dX6_laysTold_157 : decode cX6_laysTold 157 = .ok (.invokestatic 49, 3) := by decide +kernel
theorem dX6_laysTold_160 : decode cX6_laysTold 160 = .ok (.iadd, 1) := by decide +kernel
theorem dX6_laysTold_161 : decode cX6_laysTold 161 = .ok (.iaload, 1) := by decide +kernel
theorem dX6_laysTold_162 : decode cX6_laysTold 162 = .ok (.istore 4, 2) := by decide +kernel
theorem dX6_laysTold_164 : decode cX6_laysTold 164 = .ok (.aload_n 0, 1) := by decide +kernel
theorem dX6_laysTold_165 : decode cX6_laysTold 165 = .ok (.getfield 25, 3) := by decide +kernel
theorem dX6_laysTold_168 : decode cX6_laysTold 168 = .ok (.iload_n 1, 1) := by decide +kernel
theorem dX6_laysTold_169 : decode cX6_laysTold 169 = .ok (.iload 4, 2) := by decide +kernel
theorem dX6_laysTold_171 : decode cX6_laysTold 171 = .ok (.iastore, 1) := by decide +kernel
theorem dX6_laysTold_172 : decode cX6_laysTold 172 = .ok (.aload_n 0, 1) := by decide +kernel
theorem dX6_laysTold_173 : decode cX6_laysTold 173 = .ok (.getfield 28, 3) := by decide +kernel
theorem dX6_laysTold_176 : decode cX6_laysTold 176 = .ok (.iload_n 1, 1) := by decide +kernel
theorem dX6_laysTold_177 : decode cX6_laysTold 177 = .ok (.iload 4, 2) := by decide +kernel
theorem dX6_laysTold_179 : decode cX6_laysTold 179 = .ok (.iconst (-1), 1) := by decide +kernel
theorem dX6_laysTold_180 : decode cX6_laysTold 180 = .ok (.if_icmp .ne 7, 3) := by decide +kernel
theorem dX6_laysTold_183 : decode cX6_laysTold 183 = .ok (.iconst (-1), 1) := by decide +kernel
theorem dX6_laysTold_184 : decode cX6_laysTold 184 = .ok (.goto 4, 3) := by decide +kernel
theorem dX6_laysTold_187 : decode cX6_laysTold 187 = .ok (.iload_n 3, 1) := by decide +kernel
theorem dX6_laysTold_188 : decode cX6_laysTold 188 = .ok (.iastore, 1) := by decide +kernel
theorem dX6_laysTold_189 : decode cX6_laysTold 189 = .ok (.iinc 3 1, 3) := by decide +kernel
theorem dX6_laysTold_192 : decode cX6_laysTold 192 = .ok (.goto (-78), 3) := by decide +kernel
theorem dX6_laysTold_195 : decode cX6_laysTold 195 = .ok (.iinc 1 1, 3) := by decide +kernel
theorem dX6_laysTold_198 : decode cX6_laysTold 198 = .ok (.goto (-125), 3) := by decide +kernel
theorem dX6_laysTold_201 : decode cX6_laysTold 201 = .ok (.return_, 1) := by decide +kernel
theorem dX6_isExplained_0 : decode cX6_isExplained 0 = .ok (.aload_n 0, 1) := by decide +kernel
theorem dX6_isExplained_1 : decode cX6_isExplained 1 = .ok (.getfield 25, 3) := by decide +kernel
theorem dX6_isExplained_4 : decode cX6_isExplained 4 = .ok (.iload_n 1, 1) := by decide +kernel
theorem dX6_isExplained_5 : decode cX6_isExplained 5 = .ok (.iaload, 1) := by decide +kernel
theorem dX6_isExplained_6 : decode cX6_isExplained 6 = .ok (.aload_n 0, 1) := by decide +kernel
theorem dX6_isExplained_7 : decode cX6_isExplained 7 = .ok (.getfield 7, 3) := by decide +kernel
theorem dX6_isExplained_10 : decode cX6_isExplained 10 = .ok (.bipush 13, 2) := by decide +kernel
theorem dX6_isExplained_12 : decode cX6_isExplained 12 = .ok (.iload_n 1, 1) := by decide +kernel
theorem dX6_isExplained_13 : decode cX6_isExplained 13 = .ok (.iadd, 1) := by decide +kernel
theorem dX6_isExplained_14 : decode cX6_isExplained 14 = .ok (.iaload, 1) := by decide +kernel
theorem dX6_isExplained_15 : decode cX6_isExplained 15 = .ok (.if_icmp .ne 7, 3) := by decide +kernel
theorem dX6_isExplained_18 : decode cX6_isExplained 18 = .ok (.iconst 1, 1) := by decide +kernel
theorem dX6_isExplained_19 : decode cX6_isExplained 19 = .ok (.goto 4, 3) := by decide +kernel
theorem dX6_isExplained_22 : decode cX6_isExplained 22 = .ok (.iconst 0, 1) := by decide +kernel
theorem dX6_isExplained_23 : decode cX6_isExplained 23 = .ok (.ireturn, 1) := by decide +kernel
set_option maxRecDepth 20000 in
theorem ggX6_isPeriod_X6_in : GoodIn wsX6_isPeriod wsX6_in := goodIn_r _ [4] (by decide +kernel) (by decide +kernel)
set_option maxRecDepth 20000 in
theorem gX6_isPeriod_X6_in : GoodIn wsX6_isPeriod (va_wsS RX6 84 yX6_in wsX6_in) := goodIn_app (goodIn_of _ (by decide +kernel)) ggX6_isPeriod_X6_in
theorem dX6_isPeriod_0 : decode cX6_isPeriod 0 = .ok (.iload_n 0, 1) := by decide +kernel
theorem dX6_isPeriod_1 : decode cX6_isPeriod 1 = .ok (.bipush 10, 2) := by decide +kernel
theorem dX6_isPeriod_3 : decode cX6_isPeriod 3 = .ok (.sipush 400, 3) := by decide +kernel
theorem dX6_isPeriod_6 : decode cX6_isPeriod 6 = .ok (.invokestatic 84, 3) := by decide +kernel
theorem dX6_isPeriod_9 : decode cX6_isPeriod 9 = .ok (.ifCond .eq 18, 3) := by decide +kernel
theorem dX6_isPeriod_12 : decode cX6_isPeriod 12 = .ok (.iload_n 1, 1) := by decide +kernel
theorem dX6_isPeriod_13 : decode cX6_isPeriod 13 = .ok (.iconst 0, 1) := by decide +kernel
theorem dX6_isPeriod_14 : decode cX6_isPeriod 14 = .ok (.iload_n 0, 1) := by decide +kernel
theorem dX6_isPeriod_15 : decode cX6_isPeriod 15 = .ok (.iconst 1, 1) := by decide +kernel
theorem dX6_isPeriod_16 : decode cX6_isPeriod 16 = .ok (.isub, 1) := by decide +kernel
theorem dX6_isPeriod_17 : decode cX6_isPeriod 17 = .ok (.invokestatic 84, 3) := by decide +kernel
theorem dX6_isPeriod_20 : decode cX6_isPeriod 20 = .ok (.ifCond .eq 7, 3) := by decide +kernel
theorem dX6_isPeriod_23 : decode cX6_isPeriod 23 = .ok (.iconst 1, 1) := by decide +kernel
theorem dX6_isPeriod_24 : decode cX6_isPeriod 24 = .ok (.goto 4, 3) := by decide +kernel
theorem dX6_isPeriod_27 : decode cX6_isPeriod 27 = .ok (.iconst 0, 1) := by decide +kernel
theorem dX6_isPeriod_28 : decode cX6_isPeriod 28 = .ok (.ireturn, 1) := by decide +kernel
set_option maxRecDepth 20000 in
theorem ggX6_isKept_X6_tenthsOf : GoodIn wsX6_isKept wsX6_tenthsOf := goodIn_r _ [6, 1, 11, 12, 13, 14, 15, 16, 17, 18, 19, 20, 21, 22, 23, 24, 25] (by decide +kernel) (by decide +kernel)
set_option maxRecDepth 20000 in
theorem gX6_isKept_X6_tenthsOf : GoodIn wsX6_isKept (wsV RX6 70 RX6 yX6_tenthsOf wsX6_tenthsOf) := goodIn_app (goodIn_of _ (by decide +kernel)) ggX6_isKept_X6_tenthsOf
set_option maxRecDepth 20000 in
theorem ggX6_isKept_X6_phaseOf : GoodIn wsX6_isKept wsX6_phaseOf := goodIn_r _ [10, 1, 11, 12, 13, 14, 15, 16, 17, 18, 19, 20, 21, 22, 23, 24, 25] (by decide +kernel) (by decide +kernel)
set_option maxRecDepth 20000 in
theorem gX6_isKept_X6_phaseOf : GoodIn wsX6_isKept (wsV RX6 73 RX6 yX6_phaseOf wsX6_phaseOf) := goodIn_app (goodIn_of _ (by decide +kernel)) ggX6_isKept_X6_phaseOf
theorem dX6_isKept_0 : decode cX6_isKept 0 = .ok (.iconst 0, 1) := by decide +kernel
theorem dX6_isKept_1 : decode cX6_isKept 1 = .ok (.istore_n 3, 1) := by decide +kernel
theorem dX6_isKept_2 : decode cX6_isKept 2 = .ok (.iconst 0, 1) := by decide +kernel
theorem dX6_isKept_3 : decode cX6_isKept 3 = .ok (.istore 4, 2) := by decide +kernel
theorem dX6_isKept_5 : decode cX6_isKept 5 = .ok (.iload 4, 2) := by decide +kernel
theorem dX6_isKept_7 : decode cX6_isKept 7 = .ok (.aload_n 0, 1) := by decide +kernel
theorem dX6_isKept_8 : decode cX6_isKept 8 = .ok (.getfield 7, 3) := by decide +kernel
theorem dX6_isKept_11 : decode cX6_isKept 11 = .ok (.iconst 4, 1) := by decide +kernel
theorem dX6_isKept_12 : decode cX6_isKept 12 = .ok (.iaload, 1) := by decide +kernel
theorem dX6_isKept_13 : decode cX6_isKept 13 = .ok (.if_icmp .ge 39, 3) := by decide +kernel
theorem dX6_isKept_16 : decode cX6_isKept 16 = .ok (.iload_n 3, 1) := by decide +kernel
theorem dX6_isKept_17 : decode cX6_isKept 17 = .ok (.ifCond .ne 23, 3) := by decide +kernel
theorem dX6_isKept_20 : decode cX6_isKept 20 = .ok (.aload_n 0, 1) := by decide +kernel
theorem dX6_isKept_21 : decode cX6_isKept 21 = .ok (.iload 4, 2) := by decide +kernel
theorem dX6_isKept_23 : decode cX6_isKept 23 = .ok (.invokevirtual 70, 3) := by decide +kernel
theorem dX6_isKept_26 : decode cX6_isKept 26 = .ok (.iload_n 1, 1) := by decide +kernel
theorem dX6_isKept_27 : decode cX6_isKept 27 = .ok (.if_icmp .ne 17, 3) := by decide +kernel
theorem dX6_isKept_30 : decode cX6_isKept 30 = .ok (.aload_n 0, 1) := by decide +kernel
theorem dX6_isKept_31 : decode cX6_isKept 31 = .ok (.iload 4, 2) := by decide +kernel
theorem dX6_isKept_33 : decode cX6_isKept 33 = .ok (.invokevirtual 73, 3) := by decide +kernel
theorem dX6_isKept_36 : decode cX6_isKept 36 = .ok (.iload_n 2, 1) := by decide +kernel
theorem dX6_isKept_37 : decode cX6_isKept 37 = .ok (.if_icmp .ne 7, 3) := by decide +kernel
theorem dX6_isKept_40 : decode cX6_isKept 40 = .ok (.iconst 1, 1) := by decide +kernel
theorem dX6_isKept_41 : decode cX6_isKept 41 = .ok (.goto 4, 3) := by decide +kernel
theorem dX6_isKept_44 : decode cX6_isKept 44 = .ok (.iconst 0, 1) := by decide +kernel
theorem dX6_isKept_45 : decode cX6_isKept 45 = .ok (.istore_n 3, 1) := by decide +kernel
theorem dX6_isKept_46 : decode cX6_isKept 46 = .ok (.iinc 4 1, 3) := by decide +kernel
theorem dX6_isKept_49 : decode cX6_isKept 49 = .ok (.goto (-44), 3) := by decide +kernel
theorem dX6_isKept_52 : decode cX6_isKept 52 = .ok (.iload_n 3, 1) := by decide +kernel
theorem dX6_isKept_53 : decode cX6_isKept 53 = .ok (.ireturn, 1) := by decide +kernel
set_option maxRecDepth 20000 in
theorem ggX6_put_X6_in : GoodIn wsX6_put wsX6_in := goodIn_r _ [6] (by decide +kernel) (by decide +kernel)
set_option maxRecDepth 20000 in
theorem gX6_put_X6_in : GoodIn wsX6_put (va_wsS RX6 84 yX6_in wsX6_in) := goodIn_app (goodIn_of _ (by decide +kernel)) ggX6_put_X6_in
set_option maxRecDepth 20000 in
theorem ggX6_put_X6_fails : GoodIn wsX6_put wsX6_fails := goodIn_r _ [10, 1, 17, 18, 19, 20, 21, 22, 23, 24, 25, 26, 27, 28, 29, 30, 31] (by decide +kernel) (by decide +kernel)
set_option maxRecDepth 20000 in
theorem gX6_put_X6_fails : GoodIn wsX6_put (wsV RX6 88 RX6 yX6_fails wsX6_fails) := goodIn_app (goodIn_of _ (by decide +kernel)) ggX6_put_X6_fails
set_option maxRecDepth 20000 in
theorem ggX6_put_X6_saves : GoodIn wsX6_put wsX6_saves := goodIn_r _ [14, 15, 16, 2, 17, 18, 19, 20, 21, 22, 23, 24, 25, 26, 27, 28, 29, 30, 31] (by decide +kernel) (by decide +kernel)
set_option maxRecDepth 20000 in
theorem gX6_put_X6_saves : GoodIn wsX6_put (wsV RX6 91 RX6 yX6_saves wsX6_saves) := goodIn_app (goodIn_of _ (by decide +kernel)) ggX6_put_X6_saves
theorem dX6_put_0 : decode cX6_put 0 = .ok (.aload_n 0, 1) := by decide +kernel
theorem dX6_put_1 : decode cX6_put 1 = .ok (.iconst 0, 1) := by decide +kernel
theorem dX6_put_2 : decode cX6_put 2 = .ok (.putfield 34, 3) := by decide +kernel
theorem dX6_put_5 : decode cX6_put 5 = .ok (.iload_n 1, 1) := by decide +kernel
theorem dX6_put_6 : decode cX6_put 6 = .ok (.iconst 0, 1) := by decide +kernel
theorem dX6_put_7 : decode cX6_put 7 = .ok (.iconst 3, 1) := by decide +kernel
theorem dX6_put_8 : decode cX6_put 8 = .ok (.invokestatic 84, 3) := by decide +kernel
theorem dX6_put_11 : decode cX6_put 11 = .ok (.ifCond .ne 9, 3) := by decide +kernel
theorem dX6_put_14 : decode cX6_put 14 = .ok (.aload_n 0, 1) := by decide +kernel
theorem dX6_put_15 : decode cX6_put 15 = .ok (.iconst 1, 1) := by decide +kernel
theorem dX6_put_16 : decode cX6_put 16 = .ok (.invokevirtual 88, 3) := by decide +kernel
theorem dX6_put_19 : decode cX6_put 19 = .ok (.ireturn, 1) := by decide +kernel
theorem dX6_put_20 : decode cX6_put 20 = .ok (.aload_n 0, 1) := by decide +kernel
theorem dX6_put_21 : decode cX6_put 21 = .ok (.getfield 7, 3) := by decide +kernel
theorem dX6_put_24 : decode cX6_put 24 = .ok (.iconst 0, 1) := by decide +kernel
theorem dX6_put_25 : decode cX6_put 25 = .ok (.iaload, 1) := by decide +kernel
theorem dX6_put_26 : decode cX6_put 26 = .ok (.sipush 240, 3) := by decide +kernel
theorem dX6_put_29 : decode cX6_put 29 = .ok (.if_icmp .ne 9, 3) := by decide +kernel
theorem dX6_put_32 : decode cX6_put 32 = .ok (.aload_n 0, 1) := by decide +kernel
theorem dX6_put_33 : decode cX6_put 33 = .ok (.iconst 2, 1) := by decide +kernel
theorem dX6_put_34 : decode cX6_put 34 = .ok (.invokevirtual 88, 3) := by decide +kernel
theorem dX6_put_37 : decode cX6_put 37 = .ok (.ireturn, 1) := by decide +kernel
theorem dX6_put_38 : decode cX6_put 38 = .ok (.aload_n 0, 1) := by decide +kernel
theorem dX6_put_39 : decode cX6_put 39 = .ok (.invokevirtual 91, 3) := by decide +kernel
theorem dX6_put_42 : decode cX6_put 42 = .ok (.aload_n 0, 1) := by decide +kernel
theorem dX6_put_43 : decode cX6_put 43 = .ok (.getfield 7, 3) := by decide +kernel
theorem dX6_put_46 : decode cX6_put 46 = .ok (.bipush 13, 2) := by decide +kernel
theorem dX6_put_48 : decode cX6_put 48 = .ok (.aload_n 0, 1) := by decide +kernel
theorem dX6_put_49 : decode cX6_put 49 = .ok (.getfield 7, 3) := by decide +kernel
theorem dX6_put_52 : decode cX6_put 52 = .ok (.iconst 0, 1) := by decide +kernel
theorem dX6_put_53 : decode cX6_put 53 = .ok (.iaload, 1) := by decide +kernel
theorem dX6_put_54 : decode cX6_put 54 = .ok (.iadd, 1) := by decide +kernel
theorem dX6_put_55 : decode cX6_put 55 = .ok (.iload_n 1, 1) := by decide +kernel
theorem dX6_put_56 : decode cX6_put 56 = .ok (.iastore, 1) := by decide +kernel
theorem dX6_put_57 : decode cX6_put 57 = .ok (.aload_n 0, 1) := by decide +kernel
theorem dX6_put_58 : decode cX6_put 58 = .ok (.getfield 7, 3) := by decide +kernel
theorem dX6_put_61 : decode cX6_put 61 = .ok (.iconst 0, 1) := by decide +kernel
theorem dX6_put_62 : decode cX6_put 62 = .ok (.dup2, 1) := by decide +kernel
theorem dX6_put_63 : decode cX6_put 63 = .ok (.iaload, 1) := by decide +kernel
theorem dX6_put_64 : decode cX6_put 64 = .ok (.iconst 1, 1) := by decide +kernel
theorem dX6_put_65 : decode cX6_put 65 = .ok (.iadd, 1) := by decide +kernel
theorem dX6_put_66 : decode cX6_put 66 = .ok (.iastore, 1) := by decide +kernel
theorem dX6_put_67 : decode cX6_put 67 = .ok (.aload_n 0, 1) := by decide +kernel
theorem dX6_put_68 : decode cX6_put 68 = .ok (.getfield 7, 3) := by decide +kernel
theorem dX6_put_71 : decode cX6_put 71 = .ok (.iconst 0, 1) := by decide +kernel
theorem dX6_put_72 : decode cX6_put 72 = .ok (.iaload, 1) := by decide +kernel
theorem dX6_put_73 : decode cX6_put 73 = .ok (.ireturn, 1) := by decide +kernel
set_option maxRecDepth 20000 in
theorem ggX6_change_X6_in : GoodIn wsX6_change wsX6_in := goodIn_r _ [6] (by decide +kernel) (by decide +kernel)
set_option maxRecDepth 20000 in
theorem gX6_change_X6_in : GoodIn wsX6_change (va_wsS RX6 84 yX6_in wsX6_in) := goodIn_app (goodIn_of _ (by decide +kernel)) ggX6_change_X6_in
set_option maxRecDepth 20000 in
theorem ggX6_change_X6_fails : GoodIn wsX6_change wsX6_fails := goodIn_r _ [10, 1, 17, 18, 19, 20, 21, 22, 23, 24, 25, 26, 27, 28, 29, 30, 31] (by decide +kernel) (by decide +kernel)
set_option maxRecDepth 20000 in
theorem gX6_change_X6_fails : GoodIn wsX6_change (wsV RX6 88 RX6 yX6_fails wsX6_fails) := goodIn_app (goodIn_of _ (by decide +kernel)) ggX6_change_X6_fails
set_option maxRecDepth 20000 in
theorem ggX6_change_X6_saves : GoodIn wsX6_change wsX6_saves := goodIn_r _ [14, 15, 16, 2, 17, 18, 19, 20, 21, 22, 23, 24, 25, 26, 27, 28, 29, 30, 31] (by decide +kernel) (by decide +kernel)
set_option maxRecDepth 20000 in
theorem gX6_change_X6_saves : GoodIn wsX6_change (wsV RX6 91 RX6 yX6_saves wsX6_saves) := goodIn_app (goodIn_of _ (by decide +kernel)) ggX6_change_X6_saves
theorem dX6_change_0 : decode cX6_change 0 = .ok (.aload_n 0, 1) := by decide +kernel
theorem dX6_change_1 : decode cX6_change 1 = .ok (.iconst 0, 1) := by decide +kernel
theorem dX6_change_2 : decode cX6_change 2 = .ok (.putfield 34, 3) := by decide +kernel
theorem dX6_change_5 : decode cX6_change 5 = .ok (.iload_n 1, 1) := by decide +kernel
theorem dX6_change_6 : decode cX6_change 6 = .ok (.iconst 0, 1) := by decide +kernel
theorem dX6_change_7 : decode cX6_change 7 = .ok (.aload_n 0, 1) := by decide +kernel
theorem dX6_change_8 : decode cX6_change 8 = .ok (.getfield 7, 3) := by decide +kernel
theorem dX6_change_11 : decode cX6_change 11 = .ok (.iconst 0, 1) := by decide +kernel
theorem dX6_change_12 : decode cX6_change 12 = .ok (.iaload, 1) := by decide +kernel
theorem dX6_change_13 : decode cX6_change 13 = .ok (.iconst 1, 1) := by decide +kernel
theorem dX6_change_14 : decode cX6_change 14 = .ok (.isub, 1) := by decide +kernel
theorem dX6_change_15 : decode cX6_change 15 = .ok (.invokestatic 84, 3) := by decide +kernel
theorem dX6_change_18 : decode cX6_change 18 = .ok (.ifCond .ne 9, 3) := by decide +kernel
theorem dX6_change_21 : decode cX6_change 21 = .ok (.aload_n 0, 1) := by decide +kernel
theorem dX6_change_22 : decode cX6_change 22 = .ok (.iconst 1, 1) := by decide +kernel
theorem dX6_change_23 : decode cX6_change 23 = .ok (.invokevirtual 88, 3) := by decide +kernel
theorem dX6_change_26 : decode cX6_change 26 = .ok (.ireturn, 1) := by decide +kernel
theorem dX6_change_27 : decode cX6_change 27 = .ok (.iload_n 2, 1) := by decide +kernel
theorem dX6_change_28 : decode cX6_change 28 = .ok (.iconst 0, 1) := by decide +kernel
theorem dX6_change_29 : decode cX6_change 29 = .ok (.iconst 3, 1) := by decide +kernel
theorem dX6_change_30 : decode cX6_change 30 = .ok (.invokestatic 84, 3) := by decide +kernel
theorem dX6_change_33 : decode cX6_change 33 = .ok (.ifCond .ne 9, 3) := by decide +kernel
theorem dX6_change_36 : decode cX6_change 36 = .ok (.aload_n 0, 1) := by decide +kernel
theorem dX6_change_37 : decode cX6_change 37 = .ok (.iconst 2, 1) := by decide +kernel
theorem dX6_change_38 : decode cX6_change 38 = .ok (.invokevirtual 88, 3) := by decide +kernel
theorem dX6_change_41 : decode cX6_change 41 = .ok (.ireturn, 1) := by decide +kernel
theorem dX6_change_42 : decode cX6_change 42 = .ok (.aload_n 0, 1) := by decide +kernel
theorem dX6_change_43 : decode cX6_change 43 = .ok (.invokevirtual 91, 3) := by decide +kernel
theorem dX6_change_46 : decode cX6_change 46 = .ok (.aload_n 0, 1) := by decide +kernel
theorem dX6_change_47 : decode cX6_change 47 = .ok (.getfield 7, 3) := by decide +kernel
theorem dX6_change_50 : decode cX6_change 50 = .ok (.bipush 13, 2) := by decide +kernel
theorem dX6_change_52 : decode cX6_change 52 = .ok (.iload_n 1, 1) := by decide +kernel
theorem dX6_change_53 : decode cX6_change 53 = .ok (.iadd, 1) := by decide +kernel
theorem dX6_change_54 : decode cX6_change 54 = .ok (.iaload, 1) := by decide +kernel
theorem dX6_change_55 : decode cX6_change 55 = .ok (.istore_n 3, 1) := by decide +kernel
theorem dX6_change_56 : decode cX6_change 56 = .ok (.aload_n 0, 1) := by decide +kernel
theorem dX6_change_57 : decode cX6_change 57 = .ok (.getfield 7, 3) := by decide +kernel
theorem dX6_change_60 : decode cX6_change 60 = .ok (.bipush 13, 2) := by decide +kernel
theorem dX6_change_62 : decode cX6_change 62 = .ok (.iload_n 1, 1) := by decide +kernel
theorem dX6_change_63 : decode cX6_change 63 = .ok (.iadd, 1) := by decide +kernel
theorem dX6_change_64 : decode cX6_change 64 = .ok (.iload_n 2, 1) := by decide +kernel
theorem dX6_change_65 : decode cX6_change 65 = .ok (.iastore, 1) := by decide +kernel
theorem dX6_change_66 : decode cX6_change 66 = .ok (.iload_n 3, 1) := by decide +kernel
theorem dX6_change_67 : decode cX6_change 67 = .ok (.ireturn, 1) := by decide +kernel
set_option maxRecDepth 20000 in
theorem ggX6_cut_X6_in : GoodIn wsX6_cut wsX6_in := goodIn_r _ [6] (by decide +kernel) (by decide +kernel)
set_option maxRecDepth 20000 in
theorem gX6_cut_X6_in : GoodIn wsX6_cut (va_wsS RX6 84 yX6_in wsX6_in) := goodIn_app (goodIn_of _ (by decide +kernel)) ggX6_cut_X6_in
set_option maxRecDepth 20000 in
theorem ggX6_cut_X6_fails : GoodIn wsX6_cut wsX6_fails := goodIn_r _ [10, 1, 17, 18, 19, 20, 21, 22, 23, 24, 25, 26, 27, 28, 29, 30, 31] (by decide +kernel) (by decide +kernel)
set_option maxRecDepth 20000 in
theorem gX6_cut_X6_fails : GoodIn wsX6_cut (wsV RX6 88 RX6 yX6_fails wsX6_fails) := goodIn_app (goodIn_of _ (by decide +kernel)) ggX6_cut_X6_fails
set_option maxRecDepth 20000 in
theorem ggX6_cut_X6_saves : GoodIn wsX6_cut wsX6_saves := goodIn_r _ [14, 15, 16, 2, 17, 18, 19, 20, 21, 22, 23, 24, 25, 26, 27, 28, 29, 30, 31] (by decide +kernel) (by decide +kernel)
set_option maxRecDepth 20000 in
theorem gX6_cut_X6_saves : GoodIn wsX6_cut (wsV RX6 91 RX6 yX6_saves wsX6_saves) := goodIn_app (goodIn_of _ (by decide +kernel)) ggX6_cut_X6_saves
theorem dX6_cut_0 : decode cX6_cut 0 = .ok (.aload_n 0, 1) := by decide +kernel
theorem dX6_cut_1 : decode cX6_cut 1 = .ok (.iconst 0, 1) := by decide +kernel
theorem dX6_cut_2 : decode cX6_cut 2 = .ok (.putfield 34, 3) := by decide +kernel
theorem dX6_cut_5 : decode cX6_cut 5 = .ok (.iload_n 1, 1) := by decide +kernel
theorem dX6_cut_6 : decode cX6_cut 6 = .ok (.iconst 1, 1) := by decide +kernel
theorem dX6_cut_7 : decode cX6_cut 7 = .ok (.sipush 240, 3) := by decide +kernel
theorem dX6_cut_10 : decode cX6_cut 10 = .ok (.invokestatic 84, 3) := by decide +kernel
theorem dX6_cut_13 : decode cX6_cut 13 = .ok (.ifCond .ne 9, 3) := by decide +kernel
theorem dX6_cut_16 : decode cX6_cut 16 = .ok (.aload_n 0, 1) := by decide +kernel
theorem dX6_cut_17 : decode cX6_cut 17 = .ok (.iconst 1, 1) := by decide +kernel
theorem dX6_cut_18 : decode cX6_cut 18 = .ok (.invokevirtual 88, 3) := by decide +kernel
theorem dX6_cut_21 : decode cX6_cut 21 = .ok (.ireturn, 1) := by decide +kernel
theorem dX6_cut_22 : decode cX6_cut 22 = .ok (.aload_n 0, 1) := by decide +kernel
theorem dX6_cut_23 : decode cX6_cut 23 = .ok (.invokevirtual 91, 3) := by decide +kernel
theorem dX6_cut_26 : decode cX6_cut 26 = .ok (.iload_n 1, 1) := by decide +kernel
theorem dX6_cut_27 : decode cX6_cut 27 = .ok (.aload_n 0, 1) := by decide +kernel
theorem dX6_cut_28 : decode cX6_cut 28 = .ok (.getfield 7, 3) := by decide +kernel
theorem dX6_cut_31 : decode cX6_cut 31 = .ok (.iconst 0, 1) := by decide +kernel
theorem dX6_cut_32 : decode cX6_cut 32 = .ok (.iaload, 1) := by decide +kernel
theorem dX6_cut_33 : decode cX6_cut 33 = .ok (.if_icmp .ge 14, 3) := by decide +kernel
theorem dX6_cut_36 : decode cX6_cut 36 = .ok (.aload_n 0, 1) := by decide +kernel
theorem dX6_cut_37 : decode cX6_cut 37 = .ok (.getfield 7, 3) := by decide +kernel
theorem dX6_cut_40 : decode cX6_cut 40 = .ok (.iconst 0, 1) := by decide +kernel
theorem dX6_cut_41 : decode cX6_cut 41 = .ok (.iaload, 1) := by decide +kernel
theorem dX6_cut_42 : decode cX6_cut 42 = .ok (.iload_n 1, 1) := by decide +kernel
theorem dX6_cut_43 : decode cX6_cut 43 = .ok (.isub, 1) := by decide +kernel
theorem dX6_cut_44 : decode cX6_cut 44 = .ok (.goto 4, 3) := by decide +kernel
theorem dX6_cut_47 : decode cX6_cut 47 = .ok (.iconst 0, 1) := by decide +kernel
theorem dX6_cut_48 : decode cX6_cut 48 = .ok (.istore_n 2, 1) := by decide +kernel
theorem dX6_cut_49 : decode cX6_cut 49 = .ok (.iload_n 2, 1) := by decide +kernel
theorem dX6_cut_50 : decode cX6_cut 50 = .ok (.istore_n 3, 1) := by decide +kernel
theorem dX6_cut_51 : decode cX6_cut 51 = .ok (.iload_n 3, 1) := by decide +kernel
theorem dX6_cut_52 : decode cX6_cut 52 = .ok (.aload_n 0, 1) := by decide +kernel
theorem dX6_cut_53 : decode cX6_cut 53 = .ok (.getfield 7, 3) := by decide +kernel
theorem dX6_cut_56 : decode cX6_cut 56 = .ok (.iconst 0, 1) := by decide +kernel
theorem dX6_cut_57 : decode cX6_cut 57 = .ok (.iaload, 1) := by decide +kernel
theorem dX6_cut_58 : decode cX6_cut 58 = .ok (.if_icmp .ge 19, 3) := by decide +kernel
theorem dX6_cut_61 : decode cX6_cut 61 = .ok (.aload_n 0, 1) := by decide +kernel
theorem dX6_cut_62 : decode cX6_cut 62 = .ok (.getfield 7, 3) := by decide +kernel
theorem dX6_cut_65 : decode cX6_cut 65 = .ok (.bipush 13, 2) := by decide +kernel
theorem dX6_cut_67 : decode cX6_cut 67 = .ok (.iload_n 3, 1) := by decide +kernel
theorem dX6_cut_68 : decode cX6_cut 68 = .ok (.iadd, 1) := by decide +kernel
theorem dX6_cut_69 : decode cX6_cut 69 = .ok (.iconst 0, 1) := by decide +kernel
theorem dX6_cut_70 : decode cX6_cut 70 = .ok (.iastore, 1) := by decide +kernel
theorem dX6_cut_71 : decode cX6_cut 71 = .ok (.iinc 3 1, 3) := by decide +kernel
theorem dX6_cut_74 : decode cX6_cut 74 = .ok (.goto (-23), 3) := by decide +kernel
theorem dX6_cut_77 : decode cX6_cut 77 = .ok (.aload_n 0, 1) := by decide +kernel
theorem dX6_cut_78 : decode cX6_cut 78 = .ok (.getfield 7, 3) := by decide +kernel
theorem dX6_cut_81 : decode cX6_cut 81 = .ok (.iconst 0, 1) := by decide +kernel
theorem dX6_cut_82 : decode cX6_cut 82 = .ok (.iload_n 2, 1) := by decide +kernel
theorem dX6_cut_83 : decode cX6_cut 83 = .ok (.iastore, 1) := by decide +kernel
theorem dX6_cut_84 : decode cX6_cut 84 = .ok (.iload_n 2, 1) := by decide +kernel
theorem dX6_cut_85 : decode cX6_cut 85 = .ok (.ireturn, 1) := by decide +kernel
set_option maxRecDepth 20000 in
theorem ggX6_grow_X6_in : GoodIn wsX6_grow wsX6_in := goodIn_r _ [6] (by decide +kernel) (by decide +kernel)
set_option maxRecDepth 20000 in
theorem gX6_grow_X6_in : GoodIn wsX6_grow (va_wsS RX6 84 yX6_in wsX6_in) := goodIn_app (goodIn_of _ (by decide +kernel)) ggX6_grow_X6_in
set_option maxRecDepth 20000 in
theorem ggX6_grow_X6_fails : GoodIn wsX6_grow wsX6_fails := goodIn_r _ [10, 1, 20, 21, 22, 23, 24, 25, 26, 27, 28, 29, 30, 31, 32, 33, 34] (by decide +kernel) (by decide +kernel)
set_option maxRecDepth 20000 in
theorem gX6_grow_X6_fails : GoodIn wsX6_grow (wsV RX6 88 RX6 yX6_fails wsX6_fails) := goodIn_app (goodIn_of _ (by decide +kernel)) ggX6_grow_X6_fails
set_option maxRecDepth 20000 in
theorem ggX6_grow_X6_saves : GoodIn wsX6_grow wsX6_saves := goodIn_r _ [14, 15, 16, 2, 20, 21, 22, 23, 24, 25, 26, 27, 28, 29, 30, 31, 32, 33, 34] (by decide +kernel) (by decide +kernel)
set_option maxRecDepth 20000 in
theorem gX6_grow_X6_saves : GoodIn wsX6_grow (wsV RX6 91 RX6 yX6_saves wsX6_saves) := goodIn_app (goodIn_of _ (by decide +kernel)) ggX6_grow_X6_saves
set_option maxRecDepth 20000 in
theorem ggX6_grow_X6_classOf : GoodIn wsX6_grow wsX6_classOf := goodIn_r _ [19] (by decide +kernel) (by decide +kernel)
set_option maxRecDepth 20000 in
theorem gX6_grow_X6_classOf : GoodIn wsX6_grow (va_wsS RX6 49 yX6_classOf wsX6_classOf) := goodIn_app (goodIn_of _ (by decide +kernel)) ggX6_grow_X6_classOf
theorem dX6_grow_0 : decode cX6_grow 0 = .ok (.aload_n 0, 1) := by decide +kernel
theorem dX6_grow_1 : decode cX6_grow 1 = .ok (.iconst 0, 1) := by decide +kernel
theorem dX6_grow_2 : decode cX6_grow 2 = .ok (.putfield 34, 3) := by decide +kernel
theorem dX6_grow_5 : decode cX6_grow 5 = .ok (.iload_n 1, 1) := by decide +kernel
theorem dX6_grow_6 : decode cX6_grow 6 = .ok (.bipush 10, 2) := by decide +kernel
theorem dX6_grow_8 : decode cX6_grow 8 = .ok (.sipush 400, 3) := by decide +kernel
theorem dX6_grow_11 : decode cX6_grow 11 = .ok (.invokestatic 84, 3) := by decide +kernel
theorem dX6_grow_14 : decode cX6_grow 14 = .ok (.ifCond .eq 25, 3) := by decide +kernel
theorem dX6_grow_17 : decode cX6_grow 17 = .ok (.iload_n 2, 1) := by decide +kernel
theorem dX6_grow_18 : decode cX6_grow 18 = .ok (.iconst 1, 1) := by decide +kernel
theorem dX6_grow_19 : decode cX6_grow 19 = .ok (.sipush 240, 3) := by decide +kernel
theorem dX6_grow_22 : decode cX6_grow 22 = .ok (.invokestatic 84, 3) := by decide +kernel
theorem dX6_grow_25 : decode cX6_grow 25 = .ok (.ifCond .eq 14, 3) := by decide +kernel
theorem dX6_grow_28 : decode cX6_grow 28 = .ok (.iload_n 3, 1) := by decide +kernel
theorem dX6_grow_29 : decode cX6_grow 29 = .ok (.iconst 0, 1) := by decide +kernel
theorem dX6_grow_30 : decode cX6_grow 30 = .ok (.sipush 240, 3) := by decide +kernel
theorem dX6_grow_33 : decode cX6_grow 33 = .ok (.invokestatic 84, 3) := by decide +kernel
theorem dX6_grow_36 : decode cX6_grow 36 = .ok (.ifCond .ne 9, 3) := by decide +kernel
theorem dX6_grow_39 : decode cX6_grow 39 = .ok (.aload_n 0, 1) := by decide +kernel
theorem dX6_grow_40 : decode cX6_grow 40 = .ok (.iconst 1, 1) := by decide +kernel
theorem dX6_grow_41 : decode cX6_grow 41 = .ok (.invokevirtual 88, 3) := by decide +kernel
theorem dX6_grow_44 : decode cX6_grow 44 = .ok (.ireturn, 1) := by decide +kernel
theorem dX6_grow_45 : decode cX6_grow 45 = .ok (.aload_n 0, 1) := by decide +kernel
theorem dX6_grow_46 : decode cX6_grow 46 = .ok (.getfield 7, 3) := by decide +kernel
theorem dX6_grow_49 : decode cX6_grow 49 = .ok (.iconst 0, 1) := by decide +kernel
theorem dX6_grow_50 : decode cX6_grow 50 = .ok (.iaload, 1) := by decide +kernel
theorem dX6_grow_51 : decode cX6_grow 51 = .ok (.iload_n 2, 1) := by decide +kernel
theorem dX6_grow_52 : decode cX6_grow 52 = .ok (.iadd, 1) := by decide +kernel
theorem dX6_grow_53 : decode cX6_grow 53 = .ok (.sipush 240, 3) := by decide +kernel
theorem dX6_grow_56 : decode cX6_grow 56 = .ok (.if_icmp .le 9, 3) := by decide +kernel
theorem dX6_grow_59 : decode cX6_grow 59 = .ok (.aload_n 0, 1) := by decide +kernel
theorem dX6_grow_60 : decode cX6_grow 60 = .ok (.iconst 2, 1) := by decide +kernel
theorem dX6_grow_61 : decode cX6_grow 61 = .ok (.invokevirtual 88, 3) := by decide +kernel
theorem dX6_grow_64 : decode cX6_grow 64 = .ok (.ireturn, 1) := by decide +kernel
theorem dX6_grow_65 : decode cX6_grow 65 = .ok (.aload_n 0, 1) := by decide +kernel
theorem dX6_grow_66 : decode cX6_grow 66 = .ok (.invokevirtual 91, 3) := by decide +kernel
theorem dX6_grow_69 : decode cX6_grow 69 = .ok (.iconst 0, 1) := by decide +kernel
theorem dX6_grow_70 : decode cX6_grow 70 = .ok (.istore 4, 2) := by decide +kernel
theorem dX6_grow_72 : decode cX6_grow 72 = .ok (.iload 4, 2) := by decide +kernel
theorem dX6_grow_74 : decode cX6_grow 74 = .ok (.iload_n 2, 1) := by decide +kernel
theorem dX6_grow_75 : decode cX6_grow 75 = .ok (.if_icmp .ge 67, 3) := by decide +kernel
theorem dX6_grow_78 : decode cX6_grow 78 = .ok (.aload_n 0, 1) := by decide +kernel
theorem dX6_grow_79 : decode cX6_grow 79 = .ok (.getfield 7, 3) := by decide +kernel
theorem dX6_grow_82 : decode cX6_grow 82 = .ok (.iconst 0, 1) := by decide +kernel
theorem dX6_grow_83 : decode cX6_grow 83 = .ok (.iaload, 1) := by decide +kernel
theorem dX6_grow_84 : decode cX6_grow 84 = .ok (.istore 5, 2) := by decide +kernel
theorem dX6_grow_86 : decode cX6_grow 86 = .ok (.iload_n 3, 1) := by decide +kernel
theorem dX6_grow_87 : decode cX6_grow 87 = .ok (.ifCond .le 14, 3) := by decide +kernel
theorem dX6_grow_90 : decode cX6_grow 90 = .ok (.iload 5, 2) := by decide +kernel
theorem dX6_grow_92 : decode cX6_grow 92 = .ok (.iload_n 3, 1) := by decide +kernel
theorem dX6_grow_93 : decode cX6_grow 93 = .ok (.irem, 1) := by decide +kernel
theorem dX6_grow_94 : decode cX6_grow 94 = .ok (.ifCond .ne 7, 3) := by decide +kernel
theorem dX6_grow_97 : decode cX6_grow 97 = .ok (.iconst 1, 1) := by decide +kernel
theorem dX6_grow_98 : decode cX6_grow 98 = .ok (.goto 4, 3) := by decide +kernel
theorem dX6_grow_101 : decode cX6_grow 101 = .ok (.iconst 0, 1) := by decide +kernel
theorem dX6_grow_102 : decode cX6_grow 102 = .ok (.istore 6, 2) := by decide +kernel
theorem dX6_grow_104 : decode cX6_grow 104 = .ok (.aload_n 0, 1) := by decide +kernel
theorem dX6_grow_105 : decode cX6_grow 105 = .ok (.getfield 7, 3) := by decide +kernel
theorem dX6_grow_108 : decode cX6_grow 108 = .ok (.bipush 13, 2) := by decide +kernel
theorem dX6_grow_110 : decode cX6_grow 110 = .ok (.iload 5, 2) := by decide +kernel
theorem dX6_grow_112 : decode cX6_grow 112 = .ok (.iadd, 1) := by decide +kernel
theorem dX6_grow_113 : decode cX6_grow 113 = .ok (.iload 5, 2) := by decide +kernel
theorem dX6_grow_115 : decode cX6_grow 115 = .ok (.iload_n 1, 1) := by decide +kernel
theorem dX6_grow_116 : decode cX6_grow 116 = .ok (.iconst 0, 1) := by decide +kernel
theorem dX6_grow_117 : decode cX6_grow 117 = .ok (.invokestatic 49, 3) := by decide +kernel
theorem dX6_grow_120 : decode cX6_grow 120 = .ok (.iload 6, 2) := by decide +kernel
theorem dX6_grow_122 : decode cX6_grow 122 = .ok (.iadd, 1) := by decide +kernel
theorem dX6_grow_123 : decode cX6_grow 123 = .ok (.iconst 4, 1) := by decide +kernel
theorem dX6_grow_124 : decode cX6_grow 124 = .ok (.irem, 1) := by decide +kernel
theorem dX6_grow_125 : decode cX6_grow 125 = .ok (.iastore, 1) := by decide +kernel
theorem dX6_grow_126 : decode cX6_grow 126 = .ok (.aload_n 0, 1) := by decide +kernel
theorem dX6_grow_127 : decode cX6_grow 127 = .ok (.getfield 7, 3) := by decide +kernel
theorem dX6_grow_130 : decode cX6_grow 130 = .ok (.iconst 0, 1) := by decide +kernel
theorem dX6_grow_131 : decode cX6_grow 131 = .ok (.dup2, 1) := by decide +kernel
theorem dX6_grow_132 : decode cX6_grow 132 = .ok (.iaload, 1) := by decide +kernel
theorem dX6_grow_133 : decode cX6_grow 133 = .ok (.iconst 1, 1) := by decide +kernel
theorem dX6_grow_134 : decode cX6_grow 134 = .ok (.iadd, 1) := by decide +kernel
theorem dX6_grow_135 : decode cX6_grow 135 = .ok (.iastore, 1) := by decide +kernel
theorem dX6_grow_136 : decode cX6_grow 136 = .ok (.iinc 4 1, 3) := by decide +kernel
theorem dX6_grow_139 : decode cX6_grow 139 = .ok (.goto (-67), 3) := by decide +kernel
theorem dX6_grow_142 : decode cX6_grow 142 = .ok (.aload_n 0, 1) := by decide +kernel
theorem dX6_grow_143 : decode cX6_grow 143 = .ok (.getfield 7, 3) := by decide +kernel
theorem dX6_grow_146 : decode cX6_grow 146 = .ok (.iconst 0, 1) := by decide +kernel
theorem dX6_grow_147 : decode cX6_grow 147 = .ok (.iaload, 1) := by decide +kernel
theorem dX6_grow_148 : decode cX6_grow 148 = .ok (.ireturn, 1) := by decide +kernel
theorem dX6_keeps_0 : decode cX6_keeps 0 = .ok (.aload_n 0, 1) := by decide +kernel
theorem dX6_keeps_1 : decode cX6_keeps 1 = .ok (.getfield 7, 3) := by decide +kernel
theorem dX6_keeps_4 : decode cX6_keeps 4 = .ok (.iconst 5, 1) := by decide +kernel
theorem dX6_keeps_5 : decode cX6_keeps 5 = .ok (.iconst 2, 1) := by decide +kernel
theorem dX6_keeps_6 : decode cX6_keeps 6 = .ok (.aload_n 0, 1) := by decide +kernel
theorem dX6_keeps_7 : decode cX6_keeps 7 = .ok (.getfield 7, 3) := by decide +kernel
theorem dX6_keeps_10 : decode cX6_keeps 10 = .ok (.iconst 4, 1) := by decide +kernel
theorem dX6_keeps_11 : decode cX6_keeps 11 = .ok (.iaload, 1) := by decide +kernel
theorem dX6_keeps_12 : decode cX6_keeps 12 = .ok (.imul, 1) := by decide +kernel
theorem dX6_keeps_13 : decode cX6_keeps 13 = .ok (.iadd, 1) := by decide +kernel
theorem dX6_keeps_14 : decode cX6_keeps 14 = .ok (.iload_n 1, 1) := by decide +kernel
theorem dX6_keeps_15 : decode cX6_keeps 15 = .ok (.iastore, 1) := by decide +kernel
theorem dX6_keeps_16 : decode cX6_keeps 16 = .ok (.aload_n 0, 1) := by decide +kernel
theorem dX6_keeps_17 : decode cX6_keeps 17 = .ok (.getfield 7, 3) := by decide +kernel
theorem dX6_keeps_20 : decode cX6_keeps 20 = .ok (.iconst 5, 1) := by decide +kernel
theorem dX6_keeps_21 : decode cX6_keeps 21 = .ok (.iconst 2, 1) := by decide +kernel
theorem dX6_keeps_22 : decode cX6_keeps 22 = .ok (.aload_n 0, 1) := by decide +kernel
theorem dX6_keeps_23 : decode cX6_keeps 23 = .ok (.getfield 7, 3) := by decide +kernel
theorem dX6_keeps_26 : decode cX6_keeps 26 = .ok (.iconst 4, 1) := by decide +kernel
theorem dX6_keeps_27 : decode cX6_keeps 27 = .ok (.iaload, 1) := by decide +kernel
theorem dX6_keeps_28 : decode cX6_keeps 28 = .ok (.imul, 1) := by decide +kernel
theorem dX6_keeps_29 : decode cX6_keeps 29 = .ok (.iadd, 1) := by decide +kernel
theorem dX6_keeps_30 : decode cX6_keeps 30 = .ok (.iconst 1, 1) := by decide +kernel
theorem dX6_keeps_31 : decode cX6_keeps 31 = .ok (.iadd, 1) := by decide +kernel
theorem dX6_keeps_32 : decode cX6_keeps 32 = .ok (.iload_n 2, 1) := by decide +kernel
theorem dX6_keeps_33 : decode cX6_keeps 33 = .ok (.iastore, 1) := by decide +kernel
theorem dX6_keeps_34 : decode cX6_keeps 34 = .ok (.aload_n 0, 1) := by decide +kernel
theorem dX6_keeps_35 : decode cX6_keeps 35 = .ok (.getfield 7, 3) := by decide +kernel
theorem dX6_keeps_38 : decode cX6_keeps 38 = .ok (.iconst 4, 1) := by decide +kernel
theorem dX6_keeps_39 : decode cX6_keeps 39 = .ok (.dup2, 1) := by decide +kernel
theorem dX6_keeps_40 : decode cX6_keeps 40 = .ok (.iaload, 1) := by decide +kernel
theorem dX6_keeps_41 : decode cX6_keeps 41 = .ok (.iconst 1, 1) := by decide +kernel
theorem dX6_keeps_42 : decode cX6_keeps 42 = .ok (.iadd, 1) := by decide +kernel
theorem dX6_keeps_43 : decode cX6_keeps 43 = .ok (.iastore, 1) := by decide +kernel
theorem dX6_keeps_44 : decode cX6_keeps 44 = .ok (.aload_n 0, 1) := by decide +kernel
theorem dX6_keeps_45 : decode cX6_keeps 45 = .ok (.getfield 7, 3) := by decide +kernel
theorem dX6_keeps_48 : decode cX6_keeps 48 = .ok (.iconst 4, 1) := by decide +kernel
theorem dX6_keeps_49 : decode cX6_keeps 49 = .ok (.iaload, 1) := by decide +kernel
theorem dX6_keeps_50 : decode cX6_keeps 50 = .ok (.iconst 1, 1) := by decide +kernel
theorem dX6_keeps_51 : decode cX6_keeps 51 = .ok (.isub, 1) := by decide +kernel
theorem dX6_keeps_52 : decode cX6_keeps 52 = .ok (.ireturn, 1) := by decide +kernel
set_option maxRecDepth 20000 in
theorem ggX6_keep_X6_isPeriod : GoodIn wsX6_keep wsX6_isPeriod := goodIn_r _ [6, 7, 8, 5, 9] (by decide +kernel) (by decide +kernel)
set_option maxRecDepth 20000 in
theorem gX6_keep_X6_isPeriod : GoodIn wsX6_keep (va_wsS RX6 94 yX6_isPeriod wsX6_isPeriod) := goodIn_app (goodIn_of _ (by decide +kernel)) ggX6_keep_X6_isPeriod
set_option maxRecDepth 20000 in
theorem ggX6_keep_X6_fails : GoodIn wsX6_keep wsX6_fails := goodIn_r _ [13, 1, 36, 37, 38, 39, 40, 41, 42, 43, 44, 45, 46, 47, 48, 49, 50] (by decide +kernel) (by decide +kernel)
set_option maxRecDepth 20000 in
theorem gX6_keep_X6_fails : GoodIn wsX6_keep (wsV RX6 88 RX6 yX6_fails wsX6_fails) := goodIn_app (goodIn_of _ (by decide +kernel)) ggX6_keep_X6_fails
set_option maxRecDepth 20000 in
theorem ggX6_keep_X6_isKept : GoodIn wsX6_keep wsX6_isKept := goodIn_r _ [17, 2, 18, 19, 20, 5, 21, 22, 23, 24, 25, 36, 37, 38, 39, 40, 41, 42, 43, 44, 45, 46, 47, 48, 49, 50] (by decide +kernel) (by decide +kernel)
set_option maxRecDepth 20000 in
theorem gX6_keep_X6_isKept : GoodIn wsX6_keep (wsV RX6 98 RX6 yX6_isKept wsX6_isKept) := goodIn_app (goodIn_of _ (by decide +kernel)) ggX6_keep_X6_isKept
set_option maxRecDepth 20000 in
theorem ggX6_keep_X6_saves : GoodIn wsX6_keep wsX6_saves := goodIn_r _ [29, 30, 31, 2, 36, 37, 38, 39, 40, 41, 42, 43, 44, 45, 46, 47, 48, 49, 50] (by decide +kernel) (by decide +kernel)
set_option maxRecDepth 20000 in
theorem gX6_keep_X6_saves : GoodIn wsX6_keep (wsV RX6 91 RX6 yX6_saves wsX6_saves) := goodIn_app (goodIn_of _ (by decide +kernel)) ggX6_keep_X6_saves
set_option maxRecDepth 20000 in
theorem ggX6_keep_X6_keeps : GoodIn wsX6_keep wsX6_keeps := goodIn_r _ [35, 2, 36, 37, 38, 39, 40, 41, 42, 43, 44, 45, 46, 47, 48, 49, 50] (by decide +kernel) (by decide +kernel)
set_option maxRecDepth 20000 in
theorem gX6_keep_X6_keeps : GoodIn wsX6_keep (wsV RX6 101 RX6 yX6_keeps wsX6_keeps) := goodIn_app (goodIn_of _ (by decide +kernel)) ggX6_keep_X6_keeps
theorem dX6_keep_0 : decode cX6_keep 0 = .ok (.aload_n 0, 1) := by decide +kernel
theorem dX6_keep_1 : decode cX6_keep 1 = .ok (.iconst 0, 1) := by decide +kernel
theorem dX6_keep_2 : decode cX6_keep 2 = .ok (.putfield 34, 3) := by decide +kernel
theorem dX6_keep_5 : decode cX6_keep 5 = .ok (.iload_n 1, 1) := by decide +kernel
theorem dX6_keep_6 : decode cX6_keep 6 = .ok (.iload_n 2, 1) := by decide +kernel
theorem dX6_keep_7 : decode cX6_keep 7 = .ok (.invokestatic 94, 3) := by decide +kernel
theorem dX6_keep_10 : decode cX6_keep 10 = .ok (.ifCond .ne 9, 3) := by decide +kernel
theorem dX6_keep_13 : decode cX6_keep 13 = .ok (.aload_n 0, 1) := by decide +kernel
theorem dX6_keep_14 : decode cX6_keep 14 = .ok (.iconst 1, 1) := by decide +kernel
theorem dX6_keep_15 : decode cX6_keep 15 = .ok (.invokevirtual 88, 3) := by decide +kernel
theorem dX6_keep_18 : decode cX6_keep 18 = .ok (.ireturn, 1) := by decide +kernel
theorem dX6_keep_19 : decode cX6_keep 19 = .ok (.aload_n 0, 1) := by decide +kernel
theorem dX6_keep_20 : decode cX6_keep 20 = .ok (.getfield 7, 3) := by decide +kernel
theorem dX6_keep_23 : decode cX6_keep 23 = .ok (.iconst 4, 1) := by decide +kernel
theorem dX6_keep_24 : decode cX6_keep 24 = .ok (.iaload, 1) := by decide +kernel
theorem dX6_keep_25 : decode cX6_keep 25 = .ok (.iconst 4, 1) := by decide +kernel
theorem dX6_keep_26 : decode cX6_keep 26 = .ok (.if_icmp .eq 12, 3) := by decide +kernel
theorem dX6_keep_29 : decode cX6_keep 29 = .ok (.aload_n 0, 1) := by decide +kernel
theorem dX6_keep_30 : decode cX6_keep 30 = .ok (.iload_n 1, 1) := by decide +kernel
theorem dX6_keep_31 : decode cX6_keep 31 = .ok (.iload_n 2, 1) := by decide +kernel
theorem dX6_keep_32 : decode cX6_keep 32 = .ok (.invokevirtual 98, 3) := by decide +kernel
theorem dX6_keep_35 : decode cX6_keep 35 = .ok (.ifCond .eq 9, 3) := by decide +kernel
theorem dX6_keep_38 : decode cX6_keep 38 = .ok (.aload_n 0, 1) := by decide +kernel
theorem dX6_keep_39 : decode cX6_keep 39 = .ok (.iconst 2, 1) := by decide +kernel
theorem dX6_keep_40 : decode cX6_keep 40 = .ok (.invokevirtual 88, 3) := by decide +kernel
theorem dX6_keep_43 : decode cX6_keep 43 = .ok (.ireturn, 1) := by decide +kernel
theorem dX6_keep_44 : decode cX6_keep 44 = .ok (.aload_n 0, 1) := by decide +kernel
theorem dX6_keep_45 : decode cX6_keep 45 = .ok (.invokevirtual 91, 3) := by decide +kernel
theorem dX6_keep_48 : decode cX6_keep 48 = .ok (.aload_n 0, 1) := by decide +kernel
theorem dX6_keep_49 : decode cX6_keep 49 = .ok (.iload_n 1, 1) := by decide +kernel
theorem dX6_keep_50 : decode cX6_keep 50 = .ok (.iload_n 2, 1) := by decide +kernel
theorem dX6_keep_51 : decode cX6_keep 51 = .ok (.invokevirtual 101, 3) := by decide +kernel
theorem dX6_keep_54 : decode cX6_keep 54 = .ok (.ireturn, 1) := by decide +kernel
set_option maxRecDepth 20000 in
theorem ggX6_drop_X6_in : GoodIn wsX6_drop wsX6_in := goodIn_r _ [6] (by decide +kernel) (by decide +kernel)
set_option maxRecDepth 20000 in
theorem gX6_drop_X6_in : GoodIn wsX6_drop (va_wsS RX6 84 yX6_in wsX6_in) := goodIn_app (goodIn_of _ (by decide +kernel)) ggX6_drop_X6_in
set_option maxRecDepth 20000 in
theorem ggX6_drop_X6_fails : GoodIn wsX6_drop wsX6_fails := goodIn_r _ [10, 1, 17, 18, 19, 20, 21, 22, 23, 24, 25, 26, 27, 28, 29, 30, 31] (by decide +kernel) (by decide +kernel)
set_option maxRecDepth 20000 in
theorem gX6_drop_X6_fails : GoodIn wsX6_drop (wsV RX6 88 RX6 yX6_fails wsX6_fails) := goodIn_app (goodIn_of _ (by decide +kernel)) ggX6_drop_X6_fails
set_option maxRecDepth 20000 in
theorem ggX6_drop_X6_saves : GoodIn wsX6_drop wsX6_saves := goodIn_r _ [14, 15, 16, 2, 17, 18, 19, 20, 21, 22, 23, 24, 25, 26, 27, 28, 29, 30, 31] (by decide +kernel) (by decide +kernel)
set_option maxRecDepth 20000 in
theorem gX6_drop_X6_saves : GoodIn wsX6_drop (wsV RX6 91 RX6 yX6_saves wsX6_saves) := goodIn_app (goodIn_of _ (by decide +kernel)) ggX6_drop_X6_saves
theorem dX6_drop_0 : decode cX6_drop 0 = .ok (.aload_n 0, 1) := by decide +kernel
theorem dX6_drop_1 : decode cX6_drop 1 = .ok (.iconst 0, 1) := by decide +kernel
theorem dX6_drop_2 : decode cX6_drop 2 = .ok (.putfield 34, 3) := by decide +kernel
theorem dX6_drop_5 : decode cX6_drop 5 = .ok (.iload_n 1, 1) := by decide +kernel
theorem dX6_drop_6 : decode cX6_drop 6 = .ok (.iconst 0, 1) := by decide +kernel
theorem dX6_drop_7 : decode cX6_drop 7 = .ok (.aload_n 0, 1) := by decide +kernel
theorem dX6_drop_8 : decode cX6_drop 8 = .ok (.getfield 7, 3) := by decide +kernel
theorem dX6_drop_11 : decode cX6_drop 11 = .ok (.iconst 4, 1) := by decide +kernel
theorem dX6_drop_12 : decode cX6_drop 12 = .ok (.iaload, 1) := by decide +kernel
theorem dX6_drop_13 : decode cX6_drop 13 = .ok (.iconst 1, 1) := by decide +kernel
theorem dX6_drop_14 : decode cX6_drop 14 = .ok (.isub, 1) := by decide +kernel
theorem dX6_drop_15 : decode cX6_drop 15 = .ok (.invokestatic 84, 3) := by decide +kernel
theorem dX6_drop_18 : decode cX6_drop 18 = .ok (.ifCond .ne 9, 3) := by decide +kernel
theorem dX6_drop_21 : decode cX6_drop 21 = .ok (.aload_n 0, 1) := by decide +kernel
theorem dX6_drop_22 : decode cX6_drop 22 = .ok (.iconst 1, 1) := by decide +kernel
theorem dX6_drop_23 : decode cX6_drop 23 = .ok (.invokevirtual 88, 3) := by decide +kernel
theorem dX6_drop_26 : decode cX6_drop 26 = .ok (.ireturn, 1) := by decide +kernel
theorem dX6_drop_27 : decode cX6_drop 27 = .ok (.aload_n 0, 1) := by decide +kernel
theorem dX6_drop_28 : decode cX6_drop 28 = .ok (.invokevirtual 91, 3) := by decide +kernel
theorem dX6_drop_31 : decode cX6_drop 31 = .ok (.aload_n 0, 1) := by decide +kernel
theorem dX6_drop_32 : decode cX6_drop 32 = .ok (.getfield 7, 3) := by decide +kernel
theorem dX6_drop_35 : decode cX6_drop 35 = .ok (.iconst 4, 1) := by decide +kernel
theorem dX6_drop_36 : decode cX6_drop 36 = .ok (.dup2, 1) := by decide +kernel
theorem dX6_drop_37 : decode cX6_drop 37 = .ok (.iaload, 1) := by decide +kernel
theorem dX6_drop_38 : decode cX6_drop 38 = .ok (.iconst 1, 1) := by decide +kernel
theorem dX6_drop_39 : decode cX6_drop 39 = .ok (.isub, 1) := by decide +kernel
theorem dX6_drop_40 : decode cX6_drop 40 = .ok (.iastore, 1) := by decide +kernel
theorem dX6_drop_41 : decode cX6_drop 41 = .ok (.iconst 2, 1) := by decide +kernel
theorem dX6_drop_42 : decode cX6_drop 42 = .ok (.iload_n 1, 1) := by decide +kernel
theorem dX6_drop_43 : decode cX6_drop 43 = .ok (.imul, 1) := by decide +kernel
theorem dX6_drop_44 : decode cX6_drop 44 = .ok (.istore_n 2, 1) := by decide +kernel
theorem dX6_drop_45 : decode cX6_drop 45 = .ok (.iload_n 2, 1) := by decide +kernel
theorem dX6_drop_46 : decode cX6_drop 46 = .ok (.iconst 2, 1) := by decide +kernel
theorem dX6_drop_47 : decode cX6_drop 47 = .ok (.aload_n 0, 1) := by decide +kernel
theorem dX6_drop_48 : decode cX6_drop 48 = .ok (.getfield 7, 3) := by decide +kernel
theorem dX6_drop_51 : decode cX6_drop 51 = .ok (.iconst 4, 1) := by decide +kernel
theorem dX6_drop_52 : decode cX6_drop 52 = .ok (.iaload, 1) := by decide +kernel
theorem dX6_drop_53 : decode cX6_drop 53 = .ok (.imul, 1) := by decide +kernel
theorem dX6_drop_54 : decode cX6_drop 54 = .ok (.if_icmp .ge 27, 3) := by decide +kernel
theorem dX6_drop_57 : decode cX6_drop 57 = .ok (.aload_n 0, 1) := by decide +kernel
theorem dX6_drop_58 : decode cX6_drop 58 = .ok (.getfield 7, 3) := by decide +kernel
theorem dX6_drop_61 : decode cX6_drop 61 = .ok (.iconst 5, 1) := by decide +kernel
theorem dX6_drop_62 : decode cX6_drop 62 = .ok (.iload_n 2, 1) := by decide +kernel
theorem dX6_drop_63 : decode cX6_drop 63 = .ok (.iadd, 1) := by decide +kernel
theorem dX6_drop_64 : decode cX6_drop 64 = .ok (.aload_n 0, 1) := by decide +kernel
theorem dX6_drop_65 : decode cX6_drop 65 = .ok (.getfield 7, 3) := by decide +kernel
theorem dX6_drop_68 : decode cX6_drop 68 = .ok (.iconst 5, 1) := by decide +kernel
theorem dX6_drop_69 : decode cX6_drop 69 = .ok (.iload_n 2, 1) := by decide +kernel
theorem dX6_drop_70 : decode cX6_drop 70 = .ok (.iadd, 1) := by decide +kernel
theorem dX6_drop_71 : decode cX6_drop 71 = .ok (.iconst 2, 1) := by decide +kernel
theorem dX6_drop_72 : decode cX6_drop 72 = .ok (.iadd, 1) := by decide +kernel
theorem dX6_drop_73 : decode cX6_drop 73 = .ok (.iaload, 1) := by decide +kernel
theorem dX6_drop_74 : decode cX6_drop 74 = .ok (.iastore, 1) := by decide +kernel
theorem dX6_drop_75 : decode cX6_drop 75 = .ok (.iinc 2 1, 3) := by decide +kernel
theorem dX6_drop_78 : decode cX6_drop 78 = .ok (.goto (-33), 3) := by decide +kernel
theorem dX6_drop_81 : decode cX6_drop 81 = .ok (.aload_n 0, 1) := by decide +kernel
theorem dX6_drop_82 : decode cX6_drop 82 = .ok (.getfield 7, 3) := by decide +kernel
theorem dX6_drop_85 : decode cX6_drop 85 = .ok (.iconst 5, 1) := by decide +kernel
theorem dX6_drop_86 : decode cX6_drop 86 = .ok (.iconst 2, 1) := by decide +kernel
theorem dX6_drop_87 : decode cX6_drop 87 = .ok (.aload_n 0, 1) := by decide +kernel
theorem dX6_drop_88 : decode cX6_drop 88 = .ok (.getfield 7, 3) := by decide +kernel
theorem dX6_drop_91 : decode cX6_drop 91 = .ok (.iconst 4, 1) := by decide +kernel
theorem dX6_drop_92 : decode cX6_drop 92 = .ok (.iaload, 1) := by decide +kernel
theorem dX6_drop_93 : decode cX6_drop 93 = .ok (.imul, 1) := by decide +kernel
theorem dX6_drop_94 : decode cX6_drop 94 = .ok (.iadd, 1) := by decide +kernel
theorem dX6_drop_95 : decode cX6_drop 95 = .ok (.iconst 0, 1) := by decide +kernel
theorem dX6_drop_96 : decode cX6_drop 96 = .ok (.iastore, 1) := by decide +kernel
theorem dX6_drop_97 : decode cX6_drop 97 = .ok (.aload_n 0, 1) := by decide +kernel
theorem dX6_drop_98 : decode cX6_drop 98 = .ok (.getfield 7, 3) := by decide +kernel
theorem dX6_drop_101 : decode cX6_drop 101 = .ok (.iconst 5, 1) := by decide +kernel
theorem dX6_drop_102 : decode cX6_drop 102 = .ok (.iconst 2, 1) := by decide +kernel
theorem dX6_drop_103 : decode cX6_drop 103 = .ok (.aload_n 0, 1) := by decide +kernel
theorem dX6_drop_104 : decode cX6_drop 104 = .ok (.getfield 7, 3) := by decide +kernel
theorem dX6_drop_107 : decode cX6_drop 107 = .ok (.iconst 4, 1) := by decide +kernel
theorem dX6_drop_108 : decode cX6_drop 108 = .ok (.iaload, 1) := by decide +kernel
theorem dX6_drop_109 : decode cX6_drop 109 = .ok (.imul, 1) := by decide +kernel
theorem dX6_drop_110 : decode cX6_drop 110 = .ok (.iadd, 1) := by decide +kernel
theorem dX6_drop_111 : decode cX6_drop 111 = .ok (.iconst 1, 1) := by decide +kernel
theorem dX6_drop_112 : decode cX6_drop 112 = .ok (.iadd, 1) := by decide +kernel
theorem dX6_drop_113 : decode cX6_drop 113 = .ok (.iconst 0, 1) := by decide +kernel
theorem dX6_drop_114 : decode cX6_drop 114 = .ok (.iastore, 1) := by decide +kernel
theorem dX6_drop_115 : decode cX6_drop 115 = .ok (.aload_n 0, 1) := by decide +kernel
theorem dX6_drop_116 : decode cX6_drop 116 = .ok (.getfield 7, 3) := by decide +kernel
theorem dX6_drop_119 : decode cX6_drop 119 = .ok (.iconst 4, 1) := by decide +kernel
theorem dX6_drop_120 : decode cX6_drop 120 = .ok (.iaload, 1) := by decide +kernel
theorem dX6_drop_121 : decode cX6_drop 121 = .ok (.ireturn, 1) := by decide +kernel
set_option maxRecDepth 20000 in
theorem ggX6_bestOf_X6_explainedNow : GoodIn wsX6_bestOf wsX6_explainedNow := goodIn_r _ [5, 6, 7, 8, 4, 9, 10, 11, 12, 13, 14, 15, 16, 17, 18, 19, 20, 21, 22, 23, 24, 25, 26, 27, 28, 29, 30, 31, 32, 33, 34, 35, 36, 37, 38, 39, 40, 41, 42, 43, 44, 45, 46, 47, 48] (by decide +kernel) (by decide +kernel)
set_option maxRecDepth 20000 in
theorem gX6_bestOf_X6_explainedNow : GoodIn wsX6_bestOf (wsV RX6 105 RX6 yX6_explainedNow wsX6_explainedNow) := goodIn_app (goodIn_of _ (by decide +kernel)) ggX6_bestOf_X6_explainedNow
set_option maxRecDepth 20000 in
theorem ggX6_bestOf_X6_classesOf : GoodIn wsX6_bestOf wsX6_classesOf := goodIn_r _ [26] (by decide +kernel) (by decide +kernel)
set_option maxRecDepth 20000 in
theorem gX6_bestOf_X6_classesOf : GoodIn wsX6_bestOf (va_wsS RX6 45 yX6_classesOf wsX6_classesOf) := goodIn_app (goodIn_of _ (by decide +kernel)) ggX6_bestOf_X6_classesOf
theorem dX6_bestOf_0 : decode cX6_bestOf 0 = .ok (.iload_n 1, 1) := by decide +kernel
theorem dX6_bestOf_1 : decode cX6_bestOf 1 = .ok (.istore_n 3, 1) := by decide +kernel
theorem dX6_bestOf_2 : decode cX6_bestOf 2 = .ok (.iconst 4, 1) := by decide +kernel
theorem dX6_bestOf_3 : decode cX6_bestOf 3 = .ok (.aload_n 0, 1) := by decide +kernel
theorem dX6_bestOf_4 : decode cX6_bestOf 4 = .ok (.iload_n 1, 1) := by decide +kernel
theorem dX6_bestOf_5 : decode cX6_bestOf 5 = .ok (.iconst 0, 1) := by decide +kernel
theorem dX6_bestOf_6 : decode cX6_bestOf 6 = .ok (.invokevirtual 105, 3) := by decide +kernel
theorem dX6_bestOf_9 : decode cX6_bestOf 9 = .ok (.imul, 1) := by decide +kernel
theorem dX6_bestOf_10 : decode cX6_bestOf 10 = .ok (.iload_n 1, 1) := by decide +kernel
theorem dX6_bestOf_11 : decode cX6_bestOf 11 = .ok (.invokestatic 45, 3) := by decide +kernel
theorem dX6_bestOf_14 : decode cX6_bestOf 14 = .ok (.isub, 1) := by decide +kernel
theorem dX6_bestOf_15 : decode cX6_bestOf 15 = .ok (.istore 4, 2) := by decide +kernel
theorem dX6_bestOf_17 : decode cX6_bestOf 17 = .ok (.iload_n 1, 1) := by decide +kernel
theorem dX6_bestOf_18 : decode cX6_bestOf 18 = .ok (.iconst 1, 1) := by decide +kernel
theorem dX6_bestOf_19 : decode cX6_bestOf 19 = .ok (.iadd, 1) := by decide +kernel
theorem dX6_bestOf_20 : decode cX6_bestOf 20 = .ok (.istore 5, 2) := by decide +kernel
theorem dX6_bestOf_22 : decode cX6_bestOf 22 = .ok (.iload 5, 2) := by decide +kernel
theorem dX6_bestOf_24 : decode cX6_bestOf 24 = .ok (.iload_n 2, 1) := by decide +kernel
theorem dX6_bestOf_25 : decode cX6_bestOf 25 = .ok (.if_icmp .gt 56, 3) := by decide +kernel
theorem dX6_bestOf_28 : decode cX6_bestOf 28 = .ok (.iconst 4, 1) := by decide +kernel
theorem dX6_bestOf_29 : decode cX6_bestOf 29 = .ok (.aload_n 0, 1) := by decide +kernel
theorem dX6_bestOf_30 : decode cX6_bestOf 30 = .ok (.iload 5, 2) := by decide +kernel
theorem dX6_bestOf_32 : decode cX6_bestOf 32 = .ok (.iconst 0, 1) := by decide +kernel
theorem dX6_bestOf_33 : decode cX6_bestOf 33 = .ok (.invokevirtual 105, 3) := by decide +kernel
theorem dX6_bestOf_36 : decode cX6_bestOf 36 = .ok (.imul, 1) := by decide +kernel
theorem dX6_bestOf_37 : decode cX6_bestOf 37 = .ok (.iload 5, 2) := by decide +kernel
theorem dX6_bestOf_39 : decode cX6_bestOf 39 = .ok (.invokestatic 45, 3) := by decide +kernel
theorem dX6_bestOf_42 : decode cX6_bestOf 42 = .ok (.isub, 1) := by decide +kernel
theorem dX6_bestOf_43 : decode cX6_bestOf 43 = .ok (.istore 6, 2) := by decide +kernel
theorem dX6_bestOf_45 : decode cX6_bestOf 45 = .ok (.iload 6, 2) := by decide +kernel
theorem dX6_bestOf_47 : decode cX6_bestOf 47 = .ok (.iload 4, 2) := by decide +kernel
theorem dX6_bestOf_49 : decode cX6_bestOf 49 = .ok (.if_icmp .le 8, 3) := by decide +kernel
theorem dX6_bestOf_52 : decode cX6_bestOf 52 = .ok (.iload 5, 2) := by decide +kernel
theorem dX6_bestOf_54 : decode cX6_bestOf 54 = .ok (.goto 4, 3) := by decide +kernel
theorem dX6_bestOf_57 : decode cX6_bestOf 57 = .ok (.iload_n 3, 1) := by decide +kernel
theorem dX6_bestOf_58 : decode cX6_bestOf 58 = .ok (.istore_n 3, 1) := by decide +kernel
theorem dX6_bestOf_59 : decode cX6_bestOf 59 = .ok (.iload 6, 2) := by decide +kernel
theorem dX6_bestOf_61 : decode cX6_bestOf 61 = .ok (.iload 4, 2) := by decide +kernel
theorem dX6_bestOf_63 : decode cX6_bestOf 63 = .ok (.if_icmp .le 8, 3) := by decide +kernel
theorem dX6_bestOf_66 : decode cX6_bestOf 66 = .ok (.iload 6, 2) := by decide +kernel
theorem dX6_bestOf_68 : decode cX6_bestOf 68 = .ok (.goto 5, 3) := by decide +kernel
theorem dX6_bestOf_71 : decode cX6_bestOf 71 = .ok (.iload 4, 2) := by decide +kernel
theorem dX6_bestOf_73 : decode cX6_bestOf 73 = .ok (.istore 4, 2) := by decide +kernel
theorem dX6_bestOf_75 : decode cX6_bestOf 75 = .ok (.iinc 5 1, 3) := by decide +kernel
theorem dX6_bestOf_78 : decode cX6_bestOf 78 = .ok (.goto (-56), 3) := by decide +kernel
theorem dX6_bestOf_81 : decode cX6_bestOf 81 = .ok (.iload_n 3, 1) := by decide +kernel
theorem dX6_bestOf_82 : decode cX6_bestOf 82 = .ok (.ireturn, 1) := by decide +kernel
set_option maxRecDepth 20000 in
theorem ggX6_find_X6_in : GoodIn wsX6_find wsX6_in := goodIn_r _ [6] (by decide +kernel) (by decide +kernel)
set_option maxRecDepth 20000 in
theorem gX6_find_X6_in : GoodIn wsX6_find (va_wsS RX6 84 yX6_in wsX6_in) := goodIn_app (goodIn_of _ (by decide +kernel)) ggX6_find_X6_in
set_option maxRecDepth 20000 in
theorem ggX6_find_X6_fails : GoodIn wsX6_find wsX6_fails := goodIn_r _ [10, 1, 68, 69, 70, 71, 72, 73, 74, 75, 76, 77, 78, 79, 80, 81, 82] (by decide +kernel) (by decide +kernel)
set_option maxRecDepth 20000 in
theorem gX6_find_X6_fails : GoodIn wsX6_find (wsV RX6 88 RX6 yX6_fails wsX6_fails) := goodIn_app (goodIn_of _ (by decide +kernel)) ggX6_find_X6_fails
set_option maxRecDepth 20000 in
theorem ggX6_find_X6_bestOf : GoodIn wsX6_find wsX6_bestOf := goodIn_r _ [14, 15, 16, 17, 5, 18, 19, 20, 21, 22, 2, 23, 24, 25, 26, 27, 28, 29, 30, 31, 32, 33, 34, 35, 36, 37, 38, 39, 40, 41, 42, 43, 44, 45, 68, 69, 70, 71, 72, 73, 74, 75, 76, 77, 78, 79, 80, 81, 82] (by decide +kernel) (by decide +kernel)
set_option maxRecDepth 20000 in
theorem gX6_find_X6_bestOf : GoodIn wsX6_find (wsV RX6 108 RX6 yX6_bestOf wsX6_bestOf) := goodIn_app (goodIn_of _ (by decide +kernel)) ggX6_find_X6_bestOf
set_option maxRecDepth 20000 in
theorem ggX6_find_X6_isKept : GoodIn wsX6_find wsX6_isKept := goodIn_r _ [49, 2, 50, 51, 52, 5, 53, 54, 55, 56, 57, 68, 69, 70, 71, 72, 73, 74, 75, 76, 77, 78, 79, 80, 81, 82] (by decide +kernel) (by decide +kernel)
set_option maxRecDepth 20000 in
theorem gX6_find_X6_isKept : GoodIn wsX6_find (wsV RX6 98 RX6 yX6_isKept wsX6_isKept) := goodIn_app (goodIn_of _ (by decide +kernel)) ggX6_find_X6_isKept
set_option maxRecDepth 20000 in
theorem ggX6_find_X6_saves : GoodIn wsX6_find wsX6_saves := goodIn_r _ [61, 62, 63, 2, 68, 69, 70, 71, 72, 73, 74, 75, 76, 77, 78, 79, 80, 81, 82] (by decide +kernel) (by decide +kernel)
set_option maxRecDepth 20000 in
theorem gX6_find_X6_saves : GoodIn wsX6_find (wsV RX6 91 RX6 yX6_saves wsX6_saves) := goodIn_app (goodIn_of _ (by decide +kernel)) ggX6_find_X6_saves
set_option maxRecDepth 20000 in
theorem ggX6_find_X6_keeps : GoodIn wsX6_find wsX6_keeps := goodIn_r _ [67, 2, 68, 69, 70, 71, 72, 73, 74, 75, 76, 77, 78, 79, 80, 81, 82] (by decide +kernel) (by decide +kernel)
set_option maxRecDepth 20000 in
theorem gX6_find_X6_keeps : GoodIn wsX6_find (wsV RX6 101 RX6 yX6_keeps wsX6_keeps) := goodIn_app (goodIn_of _ (by decide +kernel)) ggX6_find_X6_keeps
theorem dX6_find_0 : decode cX6_find 0 = .ok (.aload_n 0, 1) := by decide +kernel
theorem dX6_find_1 : decode cX6_find 1 = .ok (.iconst 0, 1) := by decide +kernel
theorem dX6_find_2 : decode cX6_find 2 = .ok (.putfield 34, 3) := by decide +kernel
theorem dX6_find_5 : decode cX6_find 5 = .ok (.iload_n 1, 1) := by decide +kernel
theorem dX6_find_6 : decode cX6_find 6 = .ok (.bipush 10, 2) := by decide +kernel
theorem dX6_find_8 : decode cX6_find 8 = .ok (.sipush 400, 3) := by decide +kernel
theorem dX6_find_11 : decode cX6_find 11 = .ok (.invokestatic 84, 3) := by decide +kernel
theorem dX6_find_14 : decode cX6_find 14 = .ok (.ifCond .eq 14, 3) := by decide +kernel
theorem dX6_find_17 : decode cX6_find 17 = .ok (.iload_n 2, 1) := by decide +kernel
theorem dX6_find_18 : decode cX6_find 18 = .ok (.iload_n 1, 1) := by decide +kernel
theorem dX6_find_19 : decode cX6_find 19 = .ok (.sipush 400, 3) := by decide +kernel
theorem dX6_find_22 : decode cX6_find 22 = .ok (.invokestatic 84, 3) := by decide +kernel
theorem dX6_find_25 : decode cX6_find 25 = .ok (.ifCond .ne 9, 3) := by decide +kernel
theorem dX6_find_28 : decode cX6_find 28 = .ok (.aload_n 0, 1) := by decide +kernel
theorem dX6_find_29 : decode cX6_find 29 = .ok (.iconst 1, 1) := by decide +kernel
theorem dX6_find_30 : decode cX6_find 30 = .ok (.invokevirtual 88, 3) := by decide +kernel
theorem dX6_find_33 : decode cX6_find 33 = .ok (.ireturn, 1) := by decide +kernel
theorem dX6_find_34 : decode cX6_find 34 = .ok (.aload_n 0, 1) := by decide +kernel
theorem dX6_find_35 : decode cX6_find 35 = .ok (.iload_n 1, 1) := by decide +kernel
theorem dX6_find_36 : decode cX6_find 36 = .ok (.iload_n 2, 1) := by decide +kernel
theorem dX6_find_37 : decode cX6_find 37 = .ok (.invokevirtual 108, 3) := by decide +kernel
theorem dX6_find_40 : decode cX6_find 40 = .ok (.istore_n 3, 1) := by decide +kernel
theorem dX6_find_41 : decode cX6_find 41 = .ok (.aload_n 0, 1) := by decide +kernel
theorem dX6_find_42 : decode cX6_find 42 = .ok (.getfield 7, 3) := by decide +kernel
theorem dX6_find_45 : decode cX6_find 45 = .ok (.iconst 4, 1) := by decide +kernel
theorem dX6_find_46 : decode cX6_find 46 = .ok (.iaload, 1) := by decide +kernel
theorem dX6_find_47 : decode cX6_find 47 = .ok (.iconst 4, 1) := by decide +kernel
theorem dX6_find_48 : decode cX6_find 48 = .ok (.if_icmp .eq 12, 3) := by decide +kernel
theorem dX6_find_51 : decode cX6_find 51 = .ok (.aload_n 0, 1) := by decide +kernel
theorem dX6_find_52 : decode cX6_find 52 = .ok (.iload_n 3, 1) := by decide +kernel
theorem dX6_find_53 : decode cX6_find 53 = .ok (.iconst 0, 1) := by decide +kernel
theorem dX6_find_54 : decode cX6_find 54 = .ok (.invokevirtual 98, 3) := by decide +kernel
theorem dX6_find_57 : decode cX6_find 57 = .ok (.ifCond .eq 9, 3) := by decide +kernel
theorem dX6_find_60 : decode cX6_find 60 = .ok (.aload_n 0, 1) := by decide +kernel
theorem dX6_find_61 : decode cX6_find 61 = .ok (.iconst 2, 1) := by decide +kernel
theorem dX6_find_62 : decode cX6_find 62 = .ok (.invokevirtual 88, 3) := by decide +kernel
theorem dX6_find_65 : decode cX6_find 65 = .ok (.ireturn, 1) := by decide +kernel
theorem dX6_find_66 : decode cX6_find 66 = .ok (.aload_n 0, 1) := by decide +kernel
theorem dX6_find_67 : decode cX6_find 67 = .ok (.invokevirtual 91, 3) := by decide +kernel
theorem dX6_find_70 : decode cX6_find 70 = .ok (.aload_n 0, 1) := by decide +kernel
theorem dX6_find_71 : decode cX6_find 71 = .ok (.iload_n 3, 1) := by decide +kernel
theorem dX6_find_72 : decode cX6_find 72 = .ok (.iconst 0, 1) := by decide +kernel
theorem dX6_find_73 : decode cX6_find 73 = .ok (.invokevirtual 101, 3) := by decide +kernel
theorem dX6_find_76 : decode cX6_find 76 = .ok (.pop, 1) := by decide +kernel
theorem dX6_find_77 : decode cX6_find 77 = .ok (.iload_n 3, 1) := by decide +kernel
theorem dX6_find_78 : decode cX6_find 78 = .ok (.ireturn, 1) := by decide +kernel
set_option maxRecDepth 20000 in
theorem ggX6_mend_X6_saves : GoodIn wsX6_mend wsX6_saves := goodIn_r _ [8, 9, 10, 2, 67, 68, 69, 70, 71, 72, 73, 74, 75, 76, 77, 78, 79, 80, 81] (by decide +kernel) (by decide +kernel)
set_option maxRecDepth 20000 in
theorem gX6_mend_X6_saves : GoodIn wsX6_mend (wsV RX6 91 RX6 yX6_saves wsX6_saves) := goodIn_app (goodIn_of _ (by decide +kernel)) ggX6_mend_X6_saves
set_option maxRecDepth 20000 in
theorem ggX6_mend_X6_laysTold : GoodIn wsX6_mend wsX6_laysTold := goodIn_r _ [14, 2, 15, 3, 16, 17, 18, 19, 7, 20, 21, 22, 23, 24, 25, 26, 27, 28, 29, 30, 31, 32, 33, 34, 35, 36, 37, 38, 39, 40, 41, 42, 43, 44, 45, 46, 47, 48, 49, 50, 51, 52, 53, 54, 55, 56, 57, 58, 59, 60, 61, 62, 67, 68, 69, 70, 71, 72, 73, 74, 75, 76, 77, 78, 79, 80, 81] (by decide +kernel) (by decide +kernel)
set_option maxRecDepth 20000 in
theorem gX6_mend_X6_laysTold : GoodIn wsX6_mend (wsV RX6 111 RX6 yX6_laysTold wsX6_laysTold) := goodIn_app (goodIn_of _ (by decide +kernel)) ggX6_mend_X6_laysTold
set_option maxRecDepth 20000 in
theorem ggX6_mend_X6_isExplained : GoodIn wsX6_mend wsX6_isExplained := goodIn_r _ [66, 3, 2, 67, 68, 69, 70, 71, 72, 73, 74, 75, 76, 77, 78, 79, 80, 81] (by decide +kernel) (by decide +kernel)
set_option maxRecDepth 20000 in
theorem gX6_mend_X6_isExplained : GoodIn wsX6_mend (wsV RX6 114 RX6 yX6_isExplained wsX6_isExplained) := goodIn_app (goodIn_of _ (by decide +kernel)) ggX6_mend_X6_isExplained
theorem dX6_mend_0 : decode cX6_mend 0 = .ok (.aload_n 0, 1) := by decide +kernel
theorem dX6_mend_1 : decode cX6_mend 1 = .ok (.iconst 0, 1) := by decide +kernel
theorem dX6_mend_2 : decode cX6_mend 2 = .ok (.putfield 34, 3) := by decide +kernel
theorem dX6_mend_5 : decode cX6_mend 5 = .ok (.aload_n 0, 1) := by decide +kernel
theorem dX6_mend_6 : decode cX6_mend 6 = .ok (.invokevirtual 91, 3) := by decide +kernel
theorem dX6_mend_9 : decode cX6_mend 9 = .ok (.aload_n 0, 1) := by decide +kernel
theorem dX6_mend_10 : decode cX6_mend 10 = .ok (.invokevirtual 111, 3) := by decide +kernel
theorem dX6_mend_13 : decode cX6_mend 13 = .ok (.iconst 0, 1) := by decide +kernel
theorem dX6_mend_14 : decode cX6_mend 14 = .ok (.istore_n 1, 1) := by decide +kernel
theorem dX6_mend_15 : decode cX6_mend 15 = .ok (.iconst 0, 1) := by decide +kernel
theorem dX6_mend_16 : decode cX6_mend 16 = .ok (.istore_n 2, 1) := by decide +kernel
theorem dX6_mend_17 : decode cX6_mend 17 = .ok (.iload_n 2, 1) := by decide +kernel
theorem dX6_mend_18 : decode cX6_mend 18 = .ok (.aload_n 0, 1) := by decide +kernel
theorem dX6_mend_19 : decode cX6_mend 19 = .ok (.getfield 7, 3) := by decide +kernel
theorem dX6_mend_22 : decode cX6_mend 22 = .ok (.iconst 0, 1) := by decide +kernel
theorem dX6_mend_23 : decode cX6_mend 23 = .ok (.iaload, 1) := by decide +kernel
theorem dX6_mend_24 : decode cX6_mend 24 = .ok (.if_icmp .ge 45, 3) := by decide +kernel
theorem dX6_mend_27 : decode cX6_mend 27 = .ok (.aload_n 0, 1) := by decide +kernel
theorem dX6_mend_28 : decode cX6_mend 28 = .ok (.getfield 25, 3) := by decide +kernel
theorem dX6_mend_31 : decode cX6_mend 31 = .ok (.iload_n 2, 1) := by decide +kernel
theorem dX6_mend_32 : decode cX6_mend 32 = .ok (.iaload, 1) := by decide +kernel
theorem dX6_mend_33 : decode cX6_mend 33 = .ok (.iconst (-1), 1) := by decide +kernel
theorem dX6_mend_34 : decode cX6_mend 34 = .ok (.if_icmp .eq 29, 3) := by decide +kernel
theorem dX6_mend_37 : decode cX6_mend 37 = .ok (.aload_n 0, 1) := by decide +kernel
theorem dX6_mend_38 : decode cX6_mend 38 = .ok (.iload_n 2, 1) := by decide +kernel
theorem dX6_mend_39 : decode cX6_mend 39 = .ok (.invokevirtual 114, 3) := by decide +kernel
theorem dX6_mend_42 : decode cX6_mend 42 = .ok (.ifCond .ne 21, 3) := by decide +kernel
theorem dX6_mend_45 : decode cX6_mend 45 = .ok (.aload_n 0, 1) := by decide +kernel
theorem dX6_mend_46 : decode cX6_mend 46 = .ok (.getfield 7, 3) := by decide +kernel
theorem dX6_mend_49 : decode cX6_mend 49 = .ok (.bipush 13, 2) := by decide +kernel
theorem dX6_mend_51 : decode cX6_mend 51 = .ok (.iload_n 2, 1) := by decide +kernel
theorem dX6_mend_52 : decode cX6_mend 52 = .ok (.iadd, 1) := by decide +kernel
theorem dX6_mend_53 : decode cX6_mend 53 = .ok (.aload_n 0, 1) := by decide +kernel
theorem dX6_mend_54 : decode cX6_mend 54 = .ok (.getfield 25, 3) := by decide +kernel
theorem dX6_mend_57 : decode cX6_mend 57 = .ok (.iload_n 2, 1) := by decide +kernel
theorem dX6_mend_58 : decode cX6_mend 58 = .ok (.iaload, 1) := by decide +kernel
theorem dX6_mend_59 : decode cX6_mend 59 = .ok (.iastore, 1) := by decide +kernel
theorem dX6_mend_60 : decode cX6_mend 60 = .ok (.iinc 1 1, 3) := by decide +kernel
theorem dX6_mend_63 : decode cX6_mend 63 = .ok (.iinc 2 1, 3) := by decide +kernel
theorem dX6_mend_66 : decode cX6_mend 66 = .ok (.goto (-49), 3) := by decide +kernel
theorem dX6_mend_69 : decode cX6_mend 69 = .ok (.iload_n 1, 1) := by decide +kernel
theorem dX6_mend_70 : decode cX6_mend 70 = .ok (.ireturn, 1) := by decide +kernel
set_option maxRecDepth 20000 in
theorem ggX6_set_X6_in : GoodIn wsX6_set wsX6_in := goodIn_r _ [6] (by decide +kernel) (by decide +kernel)
set_option maxRecDepth 20000 in
theorem gX6_set_X6_in : GoodIn wsX6_set (va_wsS RX6 84 yX6_in wsX6_in) := goodIn_app (goodIn_of _ (by decide +kernel)) ggX6_set_X6_in
set_option maxRecDepth 20000 in
theorem ggX6_set_X6_fails : GoodIn wsX6_set wsX6_fails := goodIn_r _ [10, 1, 17, 18, 19, 20, 21, 22, 23, 24, 25, 26, 27, 28, 29, 30, 31] (by decide +kernel) (by decide +kernel)
set_option maxRecDepth 20000 in
theorem gX6_set_X6_fails : GoodIn wsX6_set (wsV RX6 88 RX6 yX6_fails wsX6_fails) := goodIn_app (goodIn_of _ (by decide +kernel)) ggX6_set_X6_fails
set_option maxRecDepth 20000 in
theorem ggX6_set_X6_saves : GoodIn wsX6_set wsX6_saves := goodIn_r _ [14, 15, 16, 2, 17, 18, 19, 20, 21, 22, 23, 24, 25, 26, 27, 28, 29, 30, 31] (by decide +kernel) (by decide +kernel)
set_option maxRecDepth 20000 in
theorem gX6_set_X6_saves : GoodIn wsX6_set (wsV RX6 91 RX6 yX6_saves wsX6_saves) := goodIn_app (goodIn_of _ (by decide +kernel)) ggX6_set_X6_saves
theorem dX6_set_0 : decode cX6_set 0 = .ok (.aload_n 0, 1) := by decide +kernel
theorem dX6_set_1 : decode cX6_set 1 = .ok (.iconst 0, 1) := by decide +kernel
theorem dX6_set_2 : decode cX6_set 2 = .ok (.putfield 34, 3) := by decide +kernel
theorem dX6_set_5 : decode cX6_set 5 = .ok (.iload_n 1, 1) := by decide +kernel
theorem dX6_set_6 : decode cX6_set 6 = .ok (.iconst 0, 1) := by decide +kernel
theorem dX6_set_7 : decode cX6_set 7 = .ok (.iconst 2, 1) := by decide +kernel
theorem dX6_set_8 : decode cX6_set 8 = .ok (.invokestatic 84, 3) := by decide +kernel
theorem dX6_set_11 : decode cX6_set 11 = .ok (.ifCond .ne 9, 3) := by decide +kernel
theorem dX6_set_14 : decode cX6_set 14 = .ok (.aload_n 0, 1) := by decide +kernel
theorem dX6_set_15 : decode cX6_set 15 = .ok (.iconst 1, 1) := by decide +kernel
theorem dX6_set_16 : decode cX6_set 16 = .ok (.invokevirtual 88, 3) := by decide +kernel
theorem dX6_set_19 : decode cX6_set 19 = .ok (.ireturn, 1) := by decide +kernel
theorem dX6_set_20 : decode cX6_set 20 = .ok (.iload_n 1, 1) := by decide +kernel
theorem dX6_set_21 : decode cX6_set 21 = .ok (.ifCond .ne 14, 3) := by decide +kernel
theorem dX6_set_24 : decode cX6_set 24 = .ok (.iload_n 2, 1) := by decide +kernel
theorem dX6_set_25 : decode cX6_set 25 = .ok (.iconst 0, 1) := by decide +kernel
theorem dX6_set_26 : decode cX6_set 26 = .ok (.sipush 239, 3) := by decide +kernel
theorem dX6_set_29 : decode cX6_set 29 = .ok (.invokestatic 84, 3) := by decide +kernel
theorem dX6_set_32 : decode cX6_set 32 = .ok (.goto 26, 3) := by decide +kernel
theorem dX6_set_35 : decode cX6_set 35 = .ok (.iload_n 1, 1) := by decide +kernel
theorem dX6_set_36 : decode cX6_set 36 = .ok (.iconst 1, 1) := by decide +kernel
theorem dX6_set_37 : decode cX6_set 37 = .ok (.if_icmp .ne 14, 3) := by decide +kernel
theorem dX6_set_40 : decode cX6_set 40 = .ok (.iload_n 2, 1) := by decide +kernel
theorem dX6_set_41 : decode cX6_set 41 = .ok (.iconst 0, 1) := by decide +kernel
theorem dX6_set_42 : decode cX6_set 42 = .ok (.sipush 240, 3) := by decide +kernel
theorem dX6_set_45 : decode cX6_set 45 = .ok (.invokestatic 84, 3) := by decide +kernel
theorem dX6_set_48 : decode cX6_set 48 = .ok (.goto 10, 3) := by decide +kernel
theorem dX6_set_51 : decode cX6_set 51 = .ok (.iload_n 2, 1) := by decide +kernel
theorem dX6_set_52 : decode cX6_set 52 = .ok (.iconst 1, 1) := by decide +kernel
theorem dX6_set_53 : decode cX6_set 53 = .ok (.bipush 100, 2) := by decide +kernel
theorem dX6_set_55 : decode cX6_set 55 = .ok (.invokestatic 84, 3) := by decide +kernel
theorem dX6_set_58 : decode cX6_set 58 = .ok (.istore_n 3, 1) := by decide +kernel
theorem dX6_set_59 : decode cX6_set 59 = .ok (.iload_n 3, 1) := by decide +kernel
theorem dX6_set_60 : decode cX6_set 60 = .ok (.ifCond .ne 9, 3) := by decide +kernel
theorem dX6_set_63 : decode cX6_set 63 = .ok (.aload_n 0, 1) := by decide +kernel
theorem dX6_set_64 : decode cX6_set 64 = .ok (.iconst 2, 1) := by decide +kernel
theorem dX6_set_65 : decode cX6_set 65 = .ok (.invokevirtual 88, 3) := by decide +kernel
theorem dX6_set_68 : decode cX6_set 68 = .ok (.ireturn, 1) := by decide +kernel
theorem dX6_set_69 : decode cX6_set 69 = .ok (.aload_n 0, 1) := by decide +kernel
theorem dX6_set_70 : decode cX6_set 70 = .ok (.invokevirtual 91, 3) := by decide +kernel
theorem dX6_set_73 : decode cX6_set 73 = .ok (.aload_n 0, 1) := by decide +kernel
theorem dX6_set_74 : decode cX6_set 74 = .ok (.getfield 7, 3) := by decide +kernel
theorem dX6_set_77 : decode cX6_set 77 = .ok (.iconst 1, 1) := by decide +kernel
theorem dX6_set_78 : decode cX6_set 78 = .ok (.iload_n 1, 1) := by decide +kernel
theorem dX6_set_79 : decode cX6_set 79 = .ok (.iadd, 1) := by decide +kernel
theorem dX6_set_80 : decode cX6_set 80 = .ok (.iaload, 1) := by decide +kernel
theorem dX6_set_81 : decode cX6_set 81 = .ok (.istore 4, 2) := by decide +kernel
theorem dX6_set_83 : decode cX6_set 83 = .ok (.aload_n 0, 1) := by decide +kernel
theorem dX6_set_84 : decode cX6_set 84 = .ok (.getfield 7, 3) := by decide +kernel
theorem dX6_set_87 : decode cX6_set 87 = .ok (.iconst 1, 1) := by decide +kernel
theorem dX6_set_88 : decode cX6_set 88 = .ok (.iload_n 1, 1) := by decide +kernel
theorem dX6_set_89 : decode cX6_set 89 = .ok (.iadd, 1) := by decide +kernel
theorem dX6_set_90 : decode cX6_set 90 = .ok (.iload_n 2, 1) := by decide +kernel
theorem dX6_set_91 : decode cX6_set 91 = .ok (.iastore, 1) := by decide +kernel
theorem dX6_set_92 : decode cX6_set 92 = .ok (.iload 4, 2) := by decide +kernel
theorem dX6_set_94 : decode cX6_set 94 = .ok (.ireturn, 1) := by decide +kernel
set_option maxRecDepth 20000 in
theorem ggX6_append_X6_in : GoodIn wsX6_append wsX6_in := goodIn_r _ [7] (by decide +kernel) (by decide +kernel)
set_option maxRecDepth 20000 in
theorem gX6_append_X6_in : GoodIn wsX6_append (va_wsS RX6 84 yX6_in wsX6_in) := goodIn_app (goodIn_of _ (by decide +kernel)) ggX6_append_X6_in
set_option maxRecDepth 20000 in
theorem ggX6_append_X6_fails : GoodIn wsX6_append wsX6_fails := goodIn_r _ [11, 1, 12, 13, 14, 15, 16, 17, 18, 19, 20, 21, 22, 23, 24, 25, 26] (by decide +kernel) (by decide +kernel)
set_option maxRecDepth 20000 in
theorem gX6_append_X6_fails : GoodIn wsX6_append (wsV RX6 88 RX6 yX6_fails wsX6_fails) := goodIn_app (goodIn_of _ (by decide +kernel)) ggX6_append_X6_fails
theorem dX6_append_0 : decode cX6_append 0 = .ok (.aload_n 0, 1) := by decide +kernel
theorem dX6_append_1 : decode cX6_append 1 = .ok (.iconst 0, 1) := by decide +kernel
theorem dX6_append_2 : decode cX6_append 2 = .ok (.putfield 34, 3) := by decide +kernel
theorem dX6_append_5 : decode cX6_append 5 = .ok (.iload_n 1, 1) := by decide +kernel
theorem dX6_append_6 : decode cX6_append 6 = .ok (.bipush 33, 2) := by decide +kernel
theorem dX6_append_8 : decode cX6_append 8 = .ok (.bipush 126, 2) := by decide +kernel
theorem dX6_append_10 : decode cX6_append 10 = .ok (.invokestatic 84, 3) := by decide +kernel
theorem dX6_append_13 : decode cX6_append 13 = .ok (.ifCond .ne 9, 3) := by decide +kernel
theorem dX6_append_16 : decode cX6_append 16 = .ok (.aload_n 0, 1) := by decide +kernel
theorem dX6_append_17 : decode cX6_append 17 = .ok (.iconst 1, 1) := by decide +kernel
theorem dX6_append_18 : decode cX6_append 18 = .ok (.invokevirtual 88, 3) := by decide +kernel
theorem dX6_append_21 : decode cX6_append 21 = .ok (.ireturn, 1) := by decide +kernel
theorem dX6_append_22 : decode cX6_append 22 = .ok (.aload_n 0, 1) := by decide +kernel
theorem dX6_append_23 : decode cX6_append 23 = .ok (.getfield 117, 3) := by decide +kernel
theorem dX6_append_26 : decode cX6_append 26 = .ok (.bipush 60, 2) := by decide +kernel
theorem dX6_append_28 : decode cX6_append 28 = .ok (.if_icmp .ne 9, 3) := by decide +kernel
theorem dX6_append_31 : decode cX6_append 31 = .ok (.aload_n 0, 1) := by decide +kernel
theorem dX6_append_32 : decode cX6_append 32 = .ok (.iconst 2, 1) := by decide +kernel
theorem dX6_append_33 : decode cX6_append 33 = .ok (.invokevirtual 88, 3) := by decide +kernel
theorem dX6_append_36 : decode cX6_append 36 = .ok (.ireturn, 1) := by decide +kernel
theorem dX6_append_37 : decode cX6_append 37 = .ok (.aload_n 0, 1) := by decide +kernel
theorem dX6_append_38 : decode cX6_append 38 = .ok (.getfield 16, 3) := by decide +kernel
theorem dX6_append_41 : decode cX6_append 41 = .ok (.aload_n 0, 1) := by decide +kernel
theorem dX6_append_42 : decode cX6_append 42 = .ok (.getfield 117, 3) := by decide +kernel
theorem dX6_append_45 : decode cX6_append 45 = .ok (.iload_n 1, 1) := by decide +kernel
theorem dX6_append_46 : decode cX6_append 46 = .ok (.iastore, 1) := by decide +kernel
theorem dX6_append_47 : decode cX6_append 47 = .ok (.aload_n 0, 1) := by decide +kernel
theorem dX6_append_48 : decode cX6_append 48 = .ok (.dup, 1) := by decide +kernel
theorem dX6_append_49 : decode cX6_append 49 = .ok (.getfield 117, 3) := by decide +kernel
theorem dX6_append_52 : decode cX6_append 52 = .ok (.iconst 1, 1) := by decide +kernel
theorem dX6_append_53 : decode cX6_append 53 = .ok (.iadd, 1) := by decide +kernel
theorem dX6_append_54 : decode cX6_append 54 = .ok (.putfield 117, 3) := by decide +kernel
theorem dX6_append_57 : decode cX6_append 57 = .ok (.aload_n 0, 1) := by decide +kernel
theorem dX6_append_58 : decode cX6_append 58 = .ok (.getfield 117, 3) := by decide +kernel
theorem dX6_append_61 : decode cX6_append 61 = .ok (.ireturn, 1) := by decide +kernel
theorem dX6_clearBuffer_0 : decode cX6_clearBuffer 0 = .ok (.aload_n 0, 1) := by decide +kernel
theorem dX6_clearBuffer_1 : decode cX6_clearBuffer 1 = .ok (.iconst 0, 1) := by decide +kernel
theorem dX6_clearBuffer_2 : decode cX6_clearBuffer 2 = .ok (.putfield 34, 3) := by decide +kernel
theorem dX6_clearBuffer_5 : decode cX6_clearBuffer 5 = .ok (.aload_n 0, 1) := by decide +kernel
theorem dX6_clearBuffer_6 : decode cX6_clearBuffer 6 = .ok (.getfield 117, 3) := by decide +kernel
theorem dX6_clearBuffer_9 : decode cX6_clearBuffer 9 = .ok (.istore_n 1, 1) := by decide +kernel
theorem dX6_clearBuffer_10 : decode cX6_clearBuffer 10 = .ok (.aload_n 0, 1) := by decide +kernel
theorem dX6_clearBuffer_11 : decode cX6_clearBuffer 11 = .ok (.iconst 0, 1) := by decide +kernel
theorem dX6_clearBuffer_12 : decode cX6_clearBuffer 12 = .ok (.putfield 117, 3) := by decide +kernel
theorem dX6_clearBuffer_15 : decode cX6_clearBuffer 15 = .ok (.iload_n 1, 1) := by decide +kernel
theorem dX6_clearBuffer_16 : decode cX6_clearBuffer 16 = .ok (.ireturn, 1) := by decide +kernel
theorem dX6_letter_0 : decode cX6_letter 0 = .ok (.aload_n 0, 1) := by decide +kernel
theorem dX6_letter_1 : decode cX6_letter 1 = .ok (.getfield 120, 3) := by decide +kernel
theorem dX6_letter_4 : decode cX6_letter 4 = .ok (.aload_n 0, 1) := by decide +kernel
theorem dX6_letter_5 : decode cX6_letter 5 = .ok (.getfield 117, 3) := by decide +kernel
theorem dX6_letter_8 : decode cX6_letter 8 = .ok (.if_icmp .ge 15, 3) := by decide +kernel
theorem dX6_letter_11 : decode cX6_letter 11 = .ok (.aload_n 0, 1) := by decide +kernel
theorem dX6_letter_12 : decode cX6_letter 12 = .ok (.getfield 16, 3) := by decide +kernel
theorem dX6_letter_15 : decode cX6_letter 15 = .ok (.aload_n 0, 1) := by decide +kernel
theorem dX6_letter_16 : decode cX6_letter 16 = .ok (.getfield 120, 3) := by decide +kernel
theorem dX6_letter_19 : decode cX6_letter 19 = .ok (.iaload, 1) := by decide +kernel
theorem dX6_letter_20 : decode cX6_letter 20 = .ok (.goto 4, 3) := by decide +kernel
theorem dX6_letter_23 : decode cX6_letter 23 = .ok (.iconst 0, 1) := by decide +kernel
theorem dX6_letter_24 : decode cX6_letter 24 = .ok (.ireturn, 1) := by decide +kernel
set_option maxRecDepth 20000 in
theorem ggX6_readsLetter_X6_letter : GoodIn wsX6_readsLetter wsX6_letter := goodIn_r _ [9, 4, 10, 11, 15, 16, 17, 18, 19, 20, 21, 22, 23, 24, 25, 26, 27, 28, 29] (by decide +kernel) (by decide +kernel)
set_option maxRecDepth 20000 in
theorem gX6_readsLetter_X6_letter : GoodIn wsX6_readsLetter (wsV RX6 127 RX6 yX6_letter wsX6_letter) := goodIn_app (goodIn_of _ (by decide +kernel)) ggX6_readsLetter_X6_letter
set_option maxRecDepth 20000 in
theorem ggX6_readsLetter_X6_in : GoodIn wsX6_readsLetter wsX6_in := goodIn_r _ [14] (by decide +kernel) (by decide +kernel)
set_option maxRecDepth 20000 in
theorem gX6_readsLetter_X6_in : GoodIn wsX6_readsLetter (va_wsS RX6 84 yX6_in wsX6_in) := goodIn_app (goodIn_of _ (by decide +kernel)) ggX6_readsLetter_X6_in
theorem dX6_readsLetter_0 : decode cX6_readsLetter 0 = .ok (.aload_n 0, 1) := by decide +kernel
theorem dX6_readsLetter_1 : decode cX6_readsLetter 1 = .ok (.aload_n 0, 1) := by decide +kernel
theorem dX6_readsLetter_2 : decode cX6_readsLetter 2 = .ok (.getfield 123, 3) := by decide +kernel
theorem dX6_readsLetter_5 : decode cX6_readsLetter 5 = .ok (.ifCond .eq 21, 3) := by decide +kernel
theorem dX6_readsLetter_8 : decode cX6_readsLetter 8 = .ok (.aload_n 0, 1) := by decide +kernel
theorem dX6_readsLetter_9 : decode cX6_readsLetter 9 = .ok (.invokevirtual 127, 3) := by decide +kernel
theorem dX6_readsLetter_12 : decode cX6_readsLetter 12 = .ok (.bipush 97, 2) := by decide +kernel
theorem dX6_readsLetter_14 : decode cX6_readsLetter 14 = .ok (.bipush 100, 2) := by decide +kernel
theorem dX6_readsLetter_16 : decode cX6_readsLetter 16 = .ok (.invokestatic 84, 3) := by decide +kernel
theorem dX6_readsLetter_19 : decode cX6_readsLetter 19 = .ok (.ifCond .eq 7, 3) := by decide +kernel
theorem dX6_readsLetter_22 : decode cX6_readsLetter 22 = .ok (.iconst 1, 1) := by decide +kernel
theorem dX6_readsLetter_23 : decode cX6_readsLetter 23 = .ok (.goto 4, 3) := by decide +kernel
theorem dX6_readsLetter_26 : decode cX6_readsLetter 26 = .ok (.iconst 0, 1) := by decide +kernel
theorem dX6_readsLetter_27 : decode cX6_readsLetter 27 = .ok (.putfield 123, 3) := by decide +kernel
theorem dX6_readsLetter_30 : decode cX6_readsLetter 30 = .ok (.aload_n 0, 1) := by decide +kernel
theorem dX6_readsLetter_31 : decode cX6_readsLetter 31 = .ok (.getfield 123, 3) := by decide +kernel
theorem dX6_readsLetter_34 : decode cX6_readsLetter 34 = .ok (.ifCond .eq 39, 3) := by decide +kernel
theorem dX6_readsLetter_37 : decode cX6_readsLetter 37 = .ok (.aload_n 0, 1) := by decide +kernel
theorem dX6_readsLetter_38 : decode cX6_readsLetter 38 = .ok (.getfield 31, 3) := by decide +kernel
theorem dX6_readsLetter_41 : decode cX6_readsLetter 41 = .ok (.aload_n 0, 1) := by decide +kernel
theorem dX6_readsLetter_42 : decode cX6_readsLetter 42 = .ok (.getfield 130, 3) := by decide +kernel
theorem dX6_readsLetter_45 : decode cX6_readsLetter 45 = .ok (.aload_n 0, 1) := by decide +kernel
theorem dX6_readsLetter_46 : decode cX6_readsLetter 46 = .ok (.invokevirtual 127, 3) := by decide +kernel
theorem dX6_readsLetter_49 : decode cX6_readsLetter 49 = .ok (.bipush 97, 2) := by decide +kernel
theorem dX6_readsLetter_51 : decode cX6_readsLetter 51 = .ok (.isub, 1) := by decide +kernel
theorem dX6_readsLetter_52 : decode cX6_readsLetter 52 = .ok (.iastore, 1) := by decide +kernel
theorem dX6_readsLetter_53 : decode cX6_readsLetter 53 = .ok (.aload_n 0, 1) := by decide +kernel
theorem dX6_readsLetter_54 : decode cX6_readsLetter 54 = .ok (.dup, 1) := by decide +kernel
theorem dX6_readsLetter_55 : decode cX6_readsLetter 55 = .ok (.getfield 130, 3) := by decide +kernel
theorem dX6_readsLetter_58 : decode cX6_readsLetter 58 = .ok (.iconst 1, 1) := by decide +kernel
theorem dX6_readsLetter_59 : decode cX6_readsLetter 59 = .ok (.iadd, 1) := by decide +kernel
theorem dX6_readsLetter_60 : decode cX6_readsLetter 60 = .ok (.putfield 130, 3) := by decide +kernel
theorem dX6_readsLetter_63 : decode cX6_readsLetter 63 = .ok (.aload_n 0, 1) := by decide +kernel
theorem dX6_readsLetter_64 : decode cX6_readsLetter 64 = .ok (.dup, 1) := by decide +kernel
theorem dX6_readsLetter_65 : decode cX6_readsLetter 65 = .ok (.getfield 120, 3) := by decide +kernel
theorem dX6_readsLetter_68 : decode cX6_readsLetter 68 = .ok (.iconst 1, 1) := by decide +kernel
theorem dX6_readsLetter_69 : decode cX6_readsLetter 69 = .ok (.iadd, 1) := by decide +kernel
theorem dX6_readsLetter_70 : decode cX6_readsLetter 70 = .ok (.putfield 120, 3) := by decide +kernel
theorem dX6_readsLetter_73 : decode cX6_readsLetter 73 = .ok (.return_, 1) := by decide +kernel
set_option maxRecDepth 20000 in
theorem ggX6_readsGroup_X6_readsLetter : GoodIn wsX6_readsGroup wsX6_readsLetter := goodIn_r _ [9, 3, 4, 1, 2, 10, 11, 12, 8, 13, 14, 15, 16, 17, 18, 19, 20, 21, 22, 23, 24, 25, 26, 27, 28, 29, 30, 31, 32, 33] (by decide +kernel) (by decide +kernel)
set_option maxRecDepth 20000 in
theorem gX6_readsGroup_X6_readsLetter : GoodIn wsX6_readsGroup (wsV RX6 133 RX6 yX6_readsLetter wsX6_readsLetter) := goodIn_app (goodIn_of _ (by decide +kernel)) ggX6_readsGroup_X6_readsLetter
set_option maxRecDepth 20000 in
theorem ggX6_readsGroup_X6_letter : GoodIn wsX6_readsGroup wsX6_letter := goodIn_r _ [13, 2, 14, 15, 19, 20, 21, 22, 23, 24, 25, 26, 27, 28, 29, 30, 31, 32, 33] (by decide +kernel) (by decide +kernel)
set_option maxRecDepth 20000 in
theorem gX6_readsGroup_X6_letter : GoodIn wsX6_readsGroup (wsV RX6 127 RX6 yX6_letter wsX6_letter) := goodIn_app (goodIn_of _ (by decide +kernel)) ggX6_readsGroup_X6_letter
set_option maxRecDepth 20000 in
theorem ggX6_readsGroup_X6_in : GoodIn wsX6_readsGroup wsX6_in := goodIn_r _ [18] (by decide +kernel) (by decide +kernel)
set_option maxRecDepth 20000 in
theorem gX6_readsGroup_X6_in : GoodIn wsX6_readsGroup (va_wsS RX6 84 yX6_in wsX6_in) := goodIn_app (goodIn_of _ (by decide +kernel)) ggX6_readsGroup_X6_in
theorem dX6_readsGroup_0 : decode cX6_readsGroup 0 = .ok (.aload_n 0, 1) := by decide +kernel
theorem dX6_readsGroup_1 : decode cX6_readsGroup 1 = .ok (.getfield 130, 3) := by decide +kernel
theorem dX6_readsGroup_4 : decode cX6_readsGroup 4 = .ok (.istore_n 1, 1) := by decide +kernel
theorem dX6_readsGroup_5 : decode cX6_readsGroup 5 = .ok (.aload_n 0, 1) := by decide +kernel
theorem dX6_readsGroup_6 : decode cX6_readsGroup 6 = .ok (.dup, 1) := by decide +kernel
theorem dX6_readsGroup_7 : decode cX6_readsGroup 7 = .ok (.getfield 120, 3) := by decide +kernel
theorem dX6_readsGroup_10 : decode cX6_readsGroup 10 = .ok (.iconst 1, 1) := by decide +kernel
theorem dX6_readsGroup_11 : decode cX6_readsGroup 11 = .ok (.iadd, 1) := by decide +kernel
theorem dX6_readsGroup_12 : decode cX6_readsGroup 12 = .ok (.putfield 120, 3) := by decide +kernel
theorem dX6_readsGroup_15 : decode cX6_readsGroup 15 = .ok (.aload_n 0, 1) := by decide +kernel
theorem dX6_readsGroup_16 : decode cX6_readsGroup 16 = .ok (.invokevirtual 133, 3) := by decide +kernel
theorem dX6_readsGroup_19 : decode cX6_readsGroup 19 = .ok (.aload_n 0, 1) := by decide +kernel
theorem dX6_readsGroup_20 : decode cX6_readsGroup 20 = .ok (.getfield 123, 3) := by decide +kernel
theorem dX6_readsGroup_23 : decode cX6_readsGroup 23 = .ok (.ifCond .eq 19, 3) := by decide +kernel
theorem dX6_readsGroup_26 : decode cX6_readsGroup 26 = .ok (.aload_n 0, 1) := by decide +kernel
theorem dX6_readsGroup_27 : decode cX6_readsGroup 27 = .ok (.invokevirtual 127, 3) := by decide +kernel
theorem dX6_readsGroup_30 : decode cX6_readsGroup 30 = .ok (.bipush 41, 2) := by decide +kernel
theorem dX6_readsGroup_32 : decode cX6_readsGroup 32 = .ok (.if_icmp .eq 10, 3) := by decide +kernel
theorem dX6_readsGroup_35 : decode cX6_readsGroup 35 = .ok (.aload_n 0, 1) := by decide +kernel
theorem dX6_readsGroup_36 : decode cX6_readsGroup 36 = .ok (.invokevirtual 133, 3) := by decide +kernel
theorem dX6_readsGroup_39 : decode cX6_readsGroup 39 = .ok (.goto (-20), 3) := by decide +kernel
theorem dX6_readsGroup_42 : decode cX6_readsGroup 42 = .ok (.aload_n 0, 1) := by decide +kernel
theorem dX6_readsGroup_43 : decode cX6_readsGroup 43 = .ok (.dup, 1) := by decide +kernel
theorem dX6_readsGroup_44 : decode cX6_readsGroup 44 = .ok (.getfield 120, 3) := by decide +kernel
theorem dX6_readsGroup_47 : decode cX6_readsGroup 47 = .ok (.aload_n 0, 1) := by decide +kernel
theorem dX6_readsGroup_48 : decode cX6_readsGroup 48 = .ok (.getfield 123, 3) := by decide +kernel
theorem dX6_readsGroup_51 : decode cX6_readsGroup 51 = .ok (.ifCond .eq 7, 3) := by decide +kernel
theorem dX6_readsGroup_54 : decode cX6_readsGroup 54 = .ok (.iconst 1, 1) := by decide +kernel
theorem dX6_readsGroup_55 : decode cX6_readsGroup 55 = .ok (.goto 4, 3) := by decide +kernel
theorem dX6_readsGroup_58 : decode cX6_readsGroup 58 = .ok (.iconst 0, 1) := by decide +kernel
theorem dX6_readsGroup_59 : decode cX6_readsGroup 59 = .ok (.iadd, 1) := by decide +kernel
theorem dX6_readsGroup_60 : decode cX6_readsGroup 60 = .ok (.putfield 120, 3) := by decide +kernel
theorem dX6_readsGroup_63 : decode cX6_readsGroup 63 = .ok (.aload_n 0, 1) := by decide +kernel
theorem dX6_readsGroup_64 : decode cX6_readsGroup 64 = .ok (.invokevirtual 127, 3) := by decide +kernel
theorem dX6_readsGroup_67 : decode cX6_readsGroup 67 = .ok (.bipush 48, 2) := by decide +kernel
theorem dX6_readsGroup_69 : decode cX6_readsGroup 69 = .ok (.isub, 1) := by decide +kernel
theorem dX6_readsGroup_70 : decode cX6_readsGroup 70 = .ok (.istore_n 2, 1) := by decide +kernel
theorem dX6_readsGroup_71 : decode cX6_readsGroup 71 = .ok (.aload_n 0, 1) := by decide +kernel
theorem dX6_readsGroup_72 : decode cX6_readsGroup 72 = .ok (.aload_n 0, 1) := by decide +kernel
theorem dX6_readsGroup_73 : decode cX6_readsGroup 73 = .ok (.getfield 123, 3) := by decide +kernel
theorem dX6_readsGroup_76 : decode cX6_readsGroup 76 = .ok (.ifCond .eq 17, 3) := by decide +kernel
theorem dX6_readsGroup_79 : decode cX6_readsGroup 79 = .ok (.iload_n 2, 1) := by decide +kernel
theorem dX6_readsGroup_80 : decode cX6_readsGroup 80 = .ok (.iconst 2, 1) := by decide +kernel
theorem dX6_readsGroup_81 : decode cX6_readsGroup 81 = .ok (.bipush 9, 2) := by decide +kernel
theorem dX6_readsGroup_83 : decode cX6_readsGroup 83 = .ok (.invokestatic 84, 3) := by decide +kernel
theorem dX6_readsGroup_86 : decode cX6_readsGroup 86 = .ok (.ifCond .eq 7, 3) := by decide +kernel
theorem dX6_readsGroup_89 : decode cX6_readsGroup 89 = .ok (.iconst 1, 1) := by decide +kernel
theorem dX6_readsGroup_90 : decode cX6_readsGroup 90 = .ok (.goto 4, 3) := by decide +kernel
theorem dX6_readsGroup_93 : decode cX6_readsGroup 93 = .ok (.iconst 0, 1) := by decide +kernel
theorem dX6_readsGroup_94 : decode cX6_readsGroup 94 = .ok (.putfield 123, 3) := by decide +kernel
theorem dX6_readsGroup_97 : decode cX6_readsGroup 97 = .ok (.aload_n 0, 1) := by decide +kernel
theorem dX6_readsGroup_98 : decode cX6_readsGroup 98 = .ok (.dup, 1) := by decide +kernel
theorem dX6_readsGroup_99 : decode cX6_readsGroup 99 = .ok (.getfield 120, 3) := by decide +kernel
theorem dX6_readsGroup_102 : decode cX6_readsGroup 102 = .ok (.aload_n 0, 1) := by decide +kernel
theorem dX6_readsGroup_103 : decode cX6_readsGroup 103 = .ok (.getfield 123, 3) := by decide +kernel
theorem dX6_readsGroup_106 : decode cX6_readsGroup 106 = .ok (.ifCond .eq 7, 3) := by decide +kernel
theorem dX6_readsGroup_109 : decode cX6_readsGroup 109 = .ok (.iconst 1, 1) := by decide +kernel
theorem dX6_readsGroup_110 : decode cX6_readsGroup 110 = .ok (.goto 4, 3) := by decide +kernel
theorem dX6_readsGroup_113 : decode cX6_readsGroup 113 = .ok (.iconst 0, 1) := by decide +kernel
theorem dX6_readsGroup_114 : decode cX6_readsGroup 114 = .ok (.iadd, 1) := by decide +kernel
theorem dX6_readsGroup_115 : decode cX6_readsGroup 115 = .ok (.putfield 120, 3) := by decide +kernel
theorem dX6_readsGroup_118 : decode cX6_readsGroup 118 = .ok (.aload_n 0, 1) := by decide +kernel
theorem dX6_readsGroup_119 : decode cX6_readsGroup 119 = .ok (.getfield 130, 3) := by decide +kernel
theorem dX6_readsGroup_122 : decode cX6_readsGroup 122 = .ok (.iload_n 1, 1) := by decide +kernel
theorem dX6_readsGroup_123 : decode cX6_readsGroup 123 = .ok (.isub, 1) := by decide +kernel
theorem dX6_readsGroup_124 : decode cX6_readsGroup 124 = .ok (.istore_n 3, 1) := by decide +kernel
theorem dX6_readsGroup_125 : decode cX6_readsGroup 125 = .ok (.iconst 0, 1) := by decide +kernel
theorem dX6_readsGroup_126 : decode cX6_readsGroup 126 = .ok (.istore 4, 2) := by decide +kernel
theorem dX6_readsGroup_128 : decode cX6_readsGroup 128 = .ok (.iload 4, 2) := by decide +kernel
theorem dX6_readsGroup_130 : decode cX6_readsGroup 130 = .ok (.iload_n 3, 1) := by decide +kernel
theorem dX6_readsGroup_131 : decode cX6_readsGroup 131 = .ok (.iload_n 2, 1) := by decide +kernel
theorem dX6_readsGroup_132 : decode cX6_readsGroup 132 = .ok (.iconst 1, 1) := by decide +kernel
theorem dX6_readsGroup_133 : decode cX6_readsGroup 133 = .ok (.isub, 1) := by decide +kernel
theorem dX6_readsGroup_134 : decode cX6_readsGroup 134 = .ok (.imul, 1) := by decide +kernel
theorem dX6_readsGroup_135 : decode cX6_readsGroup 135 = .ok (.if_icmp .ge 44, 3) := by decide +kernel
theorem dX6_readsGroup_138 : decode cX6_readsGroup 138 = .ok (.aload_n 0, 1) := by decide +kernel
theorem dX6_readsGroup_139 : decode cX6_readsGroup 139 = .ok (.getfield 123, 3) := by decide +kernel
theorem dX6_readsGroup_142 : decode cX6_readsGroup 142 = .ok (.ifCond .eq 37, 3) := by decide +kernel
theorem dX6_readsGroup_145 : decode cX6_readsGroup 145 = .ok (.aload_n 0, 1) := by decide +kernel
theorem dX6_readsGroup_146 : decode cX6_readsGroup 146 = .ok (.getfield 31, 3) := by decide +kernel
theorem dX6_readsGroup_149 : decode cX6_readsGroup 149 = .ok (.aload_n 0, 1) := by decide +kernel
theorem dX6_readsGroup_150 : decode cX6_readsGroup 150 = .ok (.getfield 130, 3) := by decide +kernel
theorem dX6_readsGroup_153 : decode cX6_readsGroup 153 = .ok (.aload_n 0, 1) := by decide +kernel
theorem dX6_readsGroup_154 : decode cX6_readsGroup 154 = .ok (.getfield 31, 3) := by decide +kernel
theorem dX6_readsGroup_157 : decode cX6_readsGroup 157 = .ok (.iload_n 1, 1) := by decide +kernel
theorem dX6_readsGroup_158 : decode cX6_readsGroup 158 = .ok (.iload 4, 2) := by decide +kernel
theorem dX6_readsGroup_160 : decode cX6_readsGroup 160 = .ok (.iadd, 1) := by decide +kernel
theorem dX6_readsGroup_161 : decode cX6_readsGroup 161 = .ok (.iaload, 1) := by decide +kernel
theorem dX6_readsGroup_162 : decode cX6_readsGroup 162 = .ok (.iastore, 1) := by decide +kernel
theorem dX6_readsGroup_163 : decode cX6_readsGroup 163 = .ok (.aload_n 0, 1) := by decide +kernel
theorem dX6_readsGroup_164 : decode cX6_readsGroup 164 = .ok (.dup, 1) := by decide +kernel
theorem dX6_readsGroup_165 : decode cX6_readsGroup 165 = .ok (.getfield 130, 3) := by decide +kernel
theorem dX6_readsGroup_168 : decode cX6_readsGroup 168 = .ok (.iconst 1, 1) := by decide +kernel
theorem dX6_readsGroup_169 : decode cX6_readsGroup 169 = .ok (.iadd, 1) := by decide +kernel
theorem dX6_readsGroup_170 : decode cX6_readsGroup 170 = .ok (.putfield 130, 3) := by decide +kernel
theorem dX6_readsGroup_173 : decode cX6_readsGroup 173 = .ok (.iinc 4 1, 3) := by decide +kernel
theorem dX6_readsGroup_176 : decode cX6_readsGroup 176 = .ok (.goto (-48), 3) := by decide +kernel
theorem dX6_readsGroup_179 : decode cX6_readsGroup 179 = .ok (.return_, 1) := by decide +kernel
set_option maxRecDepth 20000 in
theorem ggX6_readsAll_X6_letter : GoodIn wsX6_readsAll wsX6_letter := goodIn_r _ [9, 1, 2, 10, 23, 24, 25, 26, 27, 28, 29, 30, 31, 32, 33, 34, 35, 36, 37] (by decide +kernel) (by decide +kernel)
set_option maxRecDepth 20000 in
theorem gX6_readsAll_X6_letter : GoodIn wsX6_readsAll (wsV RX6 127 RX6 yX6_letter wsX6_letter) := goodIn_app (goodIn_of _ (by decide +kernel)) ggX6_readsAll_X6_letter
set_option maxRecDepth 20000 in
theorem ggX6_readsAll_X6_readsGroup : GoodIn wsX6_readsAll wsX6_readsGroup := goodIn_r _ [14, 4, 1, 3, 15, 16, 17, 18, 8, 19, 5, 6, 7, 9, 2, 10, 20, 21, 22, 23, 24, 25, 26, 27, 28, 29, 30, 31, 32, 33, 34, 35, 36, 37] (by decide +kernel) (by decide +kernel)
set_option maxRecDepth 20000 in
theorem gX6_readsAll_X6_readsGroup : GoodIn wsX6_readsAll (wsV RX6 136 RX6 yX6_readsGroup wsX6_readsGroup) := goodIn_app (goodIn_of _ (by decide +kernel)) ggX6_readsAll_X6_readsGroup
set_option maxRecDepth 20000 in
theorem ggX6_readsAll_X6_readsLetter : GoodIn wsX6_readsAll wsX6_readsLetter := goodIn_r _ [19, 3, 15, 4, 1, 5, 6, 7, 8, 9, 2, 10, 20, 21, 22, 23, 24, 25, 26, 27, 28, 29, 30, 31, 32, 33, 34, 35, 36, 37] (by decide +kernel) (by decide +kernel)
set_option maxRecDepth 20000 in
theorem gX6_readsAll_X6_readsLetter : GoodIn wsX6_readsAll (wsV RX6 133 RX6 yX6_readsLetter wsX6_readsLetter) := goodIn_app (goodIn_of _ (by decide +kernel)) ggX6_readsAll_X6_readsLetter
theorem dX6_readsAll_0 : decode cX6_readsAll 0 = .ok (.aload_n 0, 1) := by decide +kernel
theorem dX6_readsAll_1 : decode cX6_readsAll 1 = .ok (.iconst 0, 1) := by decide +kernel
theorem dX6_readsAll_2 : decode cX6_readsAll 2 = .ok (.putfield 120, 3) := by decide +kernel
theorem dX6_readsAll_5 : decode cX6_readsAll 5 = .ok (.aload_n 0, 1) := by decide +kernel
theorem dX6_readsAll_6 : decode cX6_readsAll 6 = .ok (.aload_n 0, 1) := by decide +kernel
theorem dX6_readsAll_7 : decode cX6_readsAll 7 = .ok (.getfield 117, 3) := by decide +kernel
theorem dX6_readsAll_10 : decode cX6_readsAll 10 = .ok (.ifCond .le 7, 3) := by decide +kernel
theorem dX6_readsAll_13 : decode cX6_readsAll 13 = .ok (.iconst 1, 1) := by decide +kernel
theorem dX6_readsAll_14 : decode cX6_readsAll 14 = .ok (.goto 4, 3) := by decide +kernel
theorem dX6_readsAll_17 : decode cX6_readsAll 17 = .ok (.iconst 0, 1) := by decide +kernel
theorem dX6_readsAll_18 : decode cX6_readsAll 18 = .ok (.putfield 123, 3) := by decide +kernel
theorem dX6_readsAll_21 : decode cX6_readsAll 21 = .ok (.aload_n 0, 1) := by decide +kernel
theorem dX6_readsAll_22 : decode cX6_readsAll 22 = .ok (.iconst 0, 1) := by decide +kernel
theorem dX6_readsAll_23 : decode cX6_readsAll 23 = .ok (.putfield 130, 3) := by decide +kernel
theorem dX6_readsAll_26 : decode cX6_readsAll 26 = .ok (.aload_n 0, 1) := by decide +kernel
theorem dX6_readsAll_27 : decode cX6_readsAll 27 = .ok (.getfield 123, 3) := by decide +kernel
theorem dX6_readsAll_30 : decode cX6_readsAll 30 = .ok (.ifCond .eq 37, 3) := by decide +kernel
theorem dX6_readsAll_33 : decode cX6_readsAll 33 = .ok (.aload_n 0, 1) := by decide +kernel
theorem dX6_readsAll_34 : decode cX6_readsAll 34 = .ok (.getfield 120, 3) := by decide +kernel
theorem dX6_readsAll_37 : decode cX6_readsAll 37 = .ok (.aload_n 0, 1) := by decide +kernel
theorem dX6_readsAll_38 : decode cX6_readsAll 38 = .ok (.getfield 117, 3) := by decide +kernel
theorem dX6_readsAll_41 : decode cX6_readsAll 41 = .ok (.if_icmp .ge 26, 3) := by decide +kernel
theorem dX6_readsAll_44 : decode cX6_readsAll 44 = .ok (.aload_n 0, 1) := by decide +kernel
theorem dX6_readsAll_45 : decode cX6_readsAll 45 = .ok (.invokevirtual 127, 3) := by decide +kernel
theorem dX6_readsAll_48 : decode cX6_readsAll 48 = .ok (.bipush 40, 2) := by decide +kernel
theorem dX6_readsAll_50 : decode cX6_readsAll 50 = .ok (.if_icmp .ne 10, 3) := by decide +kernel
theorem dX6_readsAll_53 : decode cX6_readsAll 53 = .ok (.aload_n 0, 1) := by decide +kernel
theorem dX6_readsAll_54 : decode cX6_readsAll 54 = .ok (.invokevirtual 136, 3) := by decide +kernel
theorem dX6_readsAll_57 : decode cX6_readsAll 57 = .ok (.goto (-31), 3) := by decide +kernel
theorem dX6_readsAll_60 : decode cX6_readsAll 60 = .ok (.aload_n 0, 1) := by decide +kernel
theorem dX6_readsAll_61 : decode cX6_readsAll 61 = .ok (.invokevirtual 133, 3) := by decide +kernel
theorem dX6_readsAll_64 : decode cX6_readsAll 64 = .ok (.goto (-38), 3) := by decide +kernel
theorem dX6_readsAll_67 : decode cX6_readsAll 67 = .ok (.return_, 1) := by decide +kernel
set_option maxRecDepth 20000 in
theorem ggX6_firstError_X6_readsAll : GoodIn wsX6_firstError wsX6_readsAll := goodIn_r _ [7, 2, 8, 9, 10, 11, 12, 13, 6, 14, 15, 16, 17, 18, 19, 20, 21, 22, 23, 24, 25, 26, 27, 28, 29, 30, 31, 32, 33, 34, 35, 36, 37, 38, 39, 40, 41, 42] (by decide +kernel) (by decide +kernel)
set_option maxRecDepth 20000 in
theorem gX6_firstError_X6_readsAll : GoodIn wsX6_firstError (wsV RX6 139 RX6 yX6_readsAll wsX6_readsAll) := goodIn_app (goodIn_of _ (by decide +kernel)) ggX6_firstError_X6_readsAll
theorem dX6_firstError_0 : decode cX6_firstError 0 = .ok (.aload_n 0, 1) := by decide +kernel
theorem dX6_firstError_1 : decode cX6_firstError 1 = .ok (.iconst 0, 1) := by decide +kernel
theorem dX6_firstError_2 : decode cX6_firstError 2 = .ok (.putfield 34, 3) := by decide +kernel
theorem dX6_firstError_5 : decode cX6_firstError 5 = .ok (.aload_n 0, 1) := by decide +kernel
theorem dX6_firstError_6 : decode cX6_firstError 6 = .ok (.invokevirtual 139, 3) := by decide +kernel
theorem dX6_firstError_9 : decode cX6_firstError 9 = .ok (.aload_n 0, 1) := by decide +kernel
theorem dX6_firstError_10 : decode cX6_firstError 10 = .ok (.getfield 120, 3) := by decide +kernel
theorem dX6_firstError_13 : decode cX6_firstError 13 = .ok (.ireturn, 1) := by decide +kernel
set_option maxRecDepth 20000 in
theorem ggX6_putAll_X6_readsAll : GoodIn wsX6_putAll wsX6_readsAll := goodIn_r _ [11, 12, 5, 2, 4, 13, 14, 15, 10, 16, 17, 18, 19, 20, 21, 6, 22, 23, 24, 25, 26, 27, 28, 39, 40, 41, 42, 43, 44, 45, 46, 47, 48, 49, 50, 51, 52, 53] (by decide +kernel) (by decide +kernel)
set_option maxRecDepth 20000 in
theorem gX6_putAll_X6_readsAll : GoodIn wsX6_putAll (wsV RX6 139 RX6 yX6_readsAll wsX6_readsAll) := goodIn_app (goodIn_of _ (by decide +kernel)) ggX6_putAll_X6_readsAll
set_option maxRecDepth 20000 in
theorem ggX6_putAll_X6_fails : GoodIn wsX6_putAll wsX6_fails := goodIn_r _ [32, 1, 39, 40, 41, 42, 43, 44, 45, 46, 47, 48, 49, 50, 51, 52, 53] (by decide +kernel) (by decide +kernel)
set_option maxRecDepth 20000 in
theorem gX6_putAll_X6_fails : GoodIn wsX6_putAll (wsV RX6 88 RX6 yX6_fails wsX6_fails) := goodIn_app (goodIn_of _ (by decide +kernel)) ggX6_putAll_X6_fails
set_option maxRecDepth 20000 in
theorem ggX6_putAll_X6_saves : GoodIn wsX6_putAll wsX6_saves := goodIn_r _ [36, 37, 38, 3, 39, 40, 41, 42, 43, 44, 45, 46, 47, 48, 49, 50, 51, 52, 53] (by decide +kernel) (by decide +kernel)
set_option maxRecDepth 20000 in
theorem gX6_putAll_X6_saves : GoodIn wsX6_putAll (wsV RX6 91 RX6 yX6_saves wsX6_saves) := goodIn_app (goodIn_of _ (by decide +kernel)) ggX6_putAll_X6_saves
theorem dX6_putAll_0 : decode cX6_putAll 0 = .ok (.aload_n 0, 1) := by decide +kernel
theorem dX6_putAll_1 : decode cX6_putAll 1 = .ok (.iconst 0, 1) := by decide +kernel
theorem dX6_putAll_2 : decode cX6_putAll 2 = .ok (.putfield 34, 3) := by decide +kernel
theorem dX6_putAll_5 : decode cX6_putAll 5 = .ok (.aload_n 0, 1) := by decide +kernel
theorem dX6_putAll_6 : decode cX6_putAll 6 = .ok (.invokevirtual 139, 3) := by decide +kernel
theorem dX6_putAll_9 : decode cX6_putAll 9 = .ok (.aload_n 0, 1) := by decide +kernel
theorem dX6_putAll_10 : decode cX6_putAll 10 = .ok (.getfield 123, 3) := by decide +kernel
theorem dX6_putAll_13 : decode cX6_putAll 13 = .ok (.ifCond .ne 9, 3) := by decide +kernel
theorem dX6_putAll_16 : decode cX6_putAll 16 = .ok (.aload_n 0, 1) := by decide +kernel
theorem dX6_putAll_17 : decode cX6_putAll 17 = .ok (.iconst 1, 1) := by decide +kernel
theorem dX6_putAll_18 : decode cX6_putAll 18 = .ok (.invokevirtual 88, 3) := by decide +kernel
theorem dX6_putAll_21 : decode cX6_putAll 21 = .ok (.ireturn, 1) := by decide +kernel
theorem dX6_putAll_22 : decode cX6_putAll 22 = .ok (.aload_n 0, 1) := by decide +kernel
theorem dX6_putAll_23 : decode cX6_putAll 23 = .ok (.getfield 7, 3) := by decide +kernel
theorem dX6_putAll_26 : decode cX6_putAll 26 = .ok (.iconst 0, 1) := by decide +kernel
theorem dX6_putAll_27 : decode cX6_putAll 27 = .ok (.iaload, 1) := by decide +kernel
theorem dX6_putAll_28 : decode cX6_putAll 28 = .ok (.aload_n 0, 1) := by decide +kernel
theorem dX6_putAll_29 : decode cX6_putAll 29 = .ok (.getfield 130, 3) := by decide +kernel
theorem dX6_putAll_32 : decode cX6_putAll 32 = .ok (.iadd, 1) := by decide +kernel
theorem dX6_putAll_33 : decode cX6_putAll 33 = .ok (.sipush 240, 3) := by decide +kernel
theorem dX6_putAll_36 : decode cX6_putAll 36 = .ok (.if_icmp .le 9, 3) := by decide +kernel
theorem dX6_putAll_39 : decode cX6_putAll 39 = .ok (.aload_n 0, 1) := by decide +kernel
theorem dX6_putAll_40 : decode cX6_putAll 40 = .ok (.iconst 2, 1) := by decide +kernel
theorem dX6_putAll_41 : decode cX6_putAll 41 = .ok (.invokevirtual 88, 3) := by decide +kernel
theorem dX6_putAll_44 : decode cX6_putAll 44 = .ok (.ireturn, 1) := by decide +kernel
theorem dX6_putAll_45 : decode cX6_putAll 45 = .ok (.aload_n 0, 1) := by decide +kernel
theorem dX6_putAll_46 : decode cX6_putAll 46 = .ok (.invokevirtual 91, 3) := by decide +kernel
theorem dX6_putAll_49 : decode cX6_putAll 49 = .ok (.aload_n 0, 1) := by decide +kernel
theorem dX6_putAll_50 : decode cX6_putAll 50 = .ok (.iconst 0, 1) := by decide +kernel
theorem dX6_putAll_51 : decode cX6_putAll 51 = .ok (.putfield 117, 3) := by decide +kernel
theorem dX6_putAll_54 : decode cX6_putAll 54 = .ok (.iconst 0, 1) := by decide +kernel
theorem dX6_putAll_55 : decode cX6_putAll 55 = .ok (.istore_n 1, 1) := by decide +kernel
theorem dX6_putAll_56 : decode cX6_putAll 56 = .ok (.iload_n 1, 1) := by decide +kernel
theorem dX6_putAll_57 : decode cX6_putAll 57 = .ok (.aload_n 0, 1) := by decide +kernel
theorem dX6_putAll_58 : decode cX6_putAll 58 = .ok (.getfield 130, 3) := by decide +kernel
theorem dX6_putAll_61 : decode cX6_putAll 61 = .ok (.if_icmp .ge 39, 3) := by decide +kernel
theorem dX6_putAll_64 : decode cX6_putAll 64 = .ok (.aload_n 0, 1) := by decide +kernel
theorem dX6_putAll_65 : decode cX6_putAll 65 = .ok (.getfield 7, 3) := by decide +kernel
theorem dX6_putAll_68 : decode cX6_putAll 68 = .ok (.bipush 13, 2) := by decide +kernel
theorem dX6_putAll_70 : decode cX6_putAll 70 = .ok (.aload_n 0, 1) := by decide +kernel
theorem dX6_putAll_71 : decode cX6_putAll 71 = .ok (.getfield 7, 3) := by decide +kernel
theorem dX6_putAll_74 : decode cX6_putAll 74 = .ok (.iconst 0, 1) := by decide +kernel
theorem dX6_putAll_75 : decode cX6_putAll 75 = .ok (.iaload, 1) := by decide +kernel
theorem dX6_putAll_76 : decode cX6_putAll 76 = .ok (.iadd, 1) := by decide +kernel
theorem dX6_putAll_77 : decode cX6_putAll 77 = .ok (.aload_n 0, 1) := by decide +kernel
theorem dX6_putAll_78 : decode cX6_putAll 78 = .ok (.getfield 31, 3) := by decide +kernel
theorem dX6_putAll_81 : decode cX6_putAll 81 = .ok (.iload_n 1, 1) := by decide +kernel
theorem dX6_putAll_82 : decode cX6_putAll 82 = .ok (.iaload, 1) := by decide +kernel
theorem dX6_putAll_83 : decode cX6_putAll 83 = .ok (.iastore, 1) := by decide +kernel
theorem dX6_putAll_84 : decode cX6_putAll 84 = .ok (.aload_n 0, 1) := by decide +kernel
theorem dX6_putAll_85 : decode cX6_putAll 85 = .ok (.getfield 7, 3) := by decide +kernel
theorem dX6_putAll_88 : decode cX6_putAll 88 = .ok (.iconst 0, 1) := by decide +kernel
theorem dX6_putAll_89 : decode cX6_putAll 89 = .ok (.dup2, 1) := by decide +kernel
theorem dX6_putAll_90 : decode cX6_putAll 90 = .ok (.iaload, 1) := by decide +kernel
theorem dX6_putAll_91 : decode cX6_putAll 91 = .ok (.iconst 1, 1) := by decide +kernel
theorem dX6_putAll_92 : decode cX6_putAll 92 = .ok (.iadd, 1) := by decide +kernel
theorem dX6_putAll_93 : decode cX6_putAll 93 = .ok (.iastore, 1) := by decide +kernel
theorem dX6_putAll_94 : decode cX6_putAll 94 = .ok (.iinc 1 1, 3) := by decide +kernel
