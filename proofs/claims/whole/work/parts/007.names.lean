theorem dX6_putAll_97 : decode cX6_putAll 97 = .ok (.goto (-41), 3) := by decide +kernel
theorem dX6_putAll_100 : decode cX6_putAll 100 = .ok (.aload_n 0, 1) := by decide +kernel
theorem dX6_putAll_101 : decode cX6_putAll 101 = .ok (.getfield 7, 3) := by decide +kernel
theorem dX6_putAll_104 : decode cX6_putAll 104 = .ok (.iconst 0, 1) := by decide +kernel
theorem dX6_putAll_105 : decode cX6_putAll 105 = .ok (.iaload, 1) := by decide +kernel
theorem dX6_putAll_106 : decode cX6_putAll 106 = .ok (.ireturn, 1) := by decide +kernel
set_option maxRecDepth 20000 in
theorem ggX6_undo_X6_fails : GoodIn wsX6_undo wsX6_fails := goodIn_r _ [9, 1, 10, 11, 12, 13, 14, 15, 16, 17, 18, 19, 20, 21, 22, 23, 24] (by decide +kernel) (by decide +kernel)
set_option maxRecDepth 20000 in
theorem gX6_undo_X6_fails : GoodIn wsX6_undo (wsV RX6 88 RX6 yX6_fails wsX6_fails) := goodIn_app (goodIn_of _ (by decide +kernel)) ggX6_undo_X6_fails
theorem dX6_undo_0 : decode cX6_undo 0 = .ok (.aload_n 0, 1) := by decide +kernel
theorem dX6_undo_1 : decode cX6_undo 1 = .ok (.iconst 0, 1) := by decide +kernel
theorem dX6_undo_2 : decode cX6_undo 2 = .ok (.putfield 34, 3) := by decide +kernel
theorem dX6_undo_5 : decode cX6_undo 5 = .ok (.aload_n 0, 1) := by decide +kernel
theorem dX6_undo_6 : decode cX6_undo 6 = .ok (.getfield 38, 3) := by decide +kernel
theorem dX6_undo_9 : decode cX6_undo 9 = .ok (.ifCond .ne 9, 3) := by decide +kernel
theorem dX6_undo_12 : decode cX6_undo 12 = .ok (.aload_n 0, 1) := by decide +kernel
theorem dX6_undo_13 : decode cX6_undo 13 = .ok (.iconst 1, 1) := by decide +kernel
theorem dX6_undo_14 : decode cX6_undo 14 = .ok (.invokevirtual 88, 3) := by decide +kernel
theorem dX6_undo_17 : decode cX6_undo 17 = .ok (.ireturn, 1) := by decide +kernel
theorem dX6_undo_18 : decode cX6_undo 18 = .ok (.aload_n 0, 1) := by decide +kernel
theorem dX6_undo_19 : decode cX6_undo 19 = .ok (.dup, 1) := by decide +kernel
theorem dX6_undo_20 : decode cX6_undo 20 = .ok (.getfield 38, 3) := by decide +kernel
theorem dX6_undo_23 : decode cX6_undo 23 = .ok (.iconst 1, 1) := by decide +kernel
theorem dX6_undo_24 : decode cX6_undo 24 = .ok (.isub, 1) := by decide +kernel
theorem dX6_undo_25 : decode cX6_undo 25 = .ok (.putfield 38, 3) := by decide +kernel
theorem dX6_undo_28 : decode cX6_undo 28 = .ok (.iconst 0, 1) := by decide +kernel
theorem dX6_undo_29 : decode cX6_undo 29 = .ok (.istore_n 1, 1) := by decide +kernel
theorem dX6_undo_30 : decode cX6_undo 30 = .ok (.iload_n 1, 1) := by decide +kernel
theorem dX6_undo_31 : decode cX6_undo 31 = .ok (.sipush 253, 3) := by decide +kernel
theorem dX6_undo_34 : decode cX6_undo 34 = .ok (.if_icmp .ge 30, 3) := by decide +kernel
theorem dX6_undo_37 : decode cX6_undo 37 = .ok (.aload_n 0, 1) := by decide +kernel
theorem dX6_undo_38 : decode cX6_undo 38 = .ok (.getfield 7, 3) := by decide +kernel
theorem dX6_undo_41 : decode cX6_undo 41 = .ok (.iload_n 1, 1) := by decide +kernel
theorem dX6_undo_42 : decode cX6_undo 42 = .ok (.aload_n 0, 1) := by decide +kernel
theorem dX6_undo_43 : decode cX6_undo 43 = .ok (.getfield 13, 3) := by decide +kernel
theorem dX6_undo_46 : decode cX6_undo 46 = .ok (.sipush 253, 3) := by decide +kernel
theorem dX6_undo_49 : decode cX6_undo 49 = .ok (.aload_n 0, 1) := by decide +kernel
theorem dX6_undo_50 : decode cX6_undo 50 = .ok (.getfield 38, 3) := by decide +kernel
theorem dX6_undo_53 : decode cX6_undo 53 = .ok (.imul, 1) := by decide +kernel
theorem dX6_undo_54 : decode cX6_undo 54 = .ok (.iload_n 1, 1) := by decide +kernel
theorem dX6_undo_55 : decode cX6_undo 55 = .ok (.iadd, 1) := by decide +kernel
theorem dX6_undo_56 : decode cX6_undo 56 = .ok (.iaload, 1) := by decide +kernel
theorem dX6_undo_57 : decode cX6_undo 57 = .ok (.iastore, 1) := by decide +kernel
theorem dX6_undo_58 : decode cX6_undo 58 = .ok (.iinc 1 1, 3) := by decide +kernel
theorem dX6_undo_61 : decode cX6_undo 61 = .ok (.goto (-31), 3) := by decide +kernel
theorem dX6_undo_64 : decode cX6_undo 64 = .ok (.aload_n 0, 1) := by decide +kernel
theorem dX6_undo_65 : decode cX6_undo 65 = .ok (.getfield 38, 3) := by decide +kernel
theorem dX6_undo_68 : decode cX6_undo 68 = .ok (.ireturn, 1) := by decide +kernel
set_option maxRecDepth 20000 in
theorem ggX6_sign_X6_fails : GoodIn wsX6_sign wsX6_fails := goodIn_r _ [7, 1, 8, 9, 10, 11, 12, 13, 14, 15, 16, 17, 18, 19, 20, 21, 22] (by decide +kernel) (by decide +kernel)
set_option maxRecDepth 20000 in
theorem gX6_sign_X6_fails : GoodIn wsX6_sign (wsV RX6 88 RX6 yX6_fails wsX6_fails) := goodIn_app (goodIn_of _ (by decide +kernel)) ggX6_sign_X6_fails
theorem dX6_sign_0 : decode cX6_sign 0 = .ok (.aload_n 0, 1) := by decide +kernel
theorem dX6_sign_1 : decode cX6_sign 1 = .ok (.iconst 0, 1) := by decide +kernel
theorem dX6_sign_2 : decode cX6_sign 2 = .ok (.putfield 34, 3) := by decide +kernel
theorem dX6_sign_5 : decode cX6_sign 5 = .ok (.iload_n 1, 1) := by decide +kernel
theorem dX6_sign_6 : decode cX6_sign 6 = .ok (.ifCond .ge 9, 3) := by decide +kernel
theorem dX6_sign_9 : decode cX6_sign 9 = .ok (.aload_n 0, 1) := by decide +kernel
theorem dX6_sign_10 : decode cX6_sign 10 = .ok (.iconst 1, 1) := by decide +kernel
theorem dX6_sign_11 : decode cX6_sign 11 = .ok (.invokevirtual 88, 3) := by decide +kernel
theorem dX6_sign_14 : decode cX6_sign 14 = .ok (.ireturn, 1) := by decide +kernel
theorem dX6_sign_15 : decode cX6_sign 15 = .ok (.iload_n 1, 1) := by decide +kernel
theorem dX6_sign_16 : decode cX6_sign 16 = .ok (.aload_n 0, 1) := by decide +kernel
theorem dX6_sign_17 : decode cX6_sign 17 = .ok (.getfield 7, 3) := by decide +kernel
theorem dX6_sign_20 : decode cX6_sign 20 = .ok (.iconst 0, 1) := by decide +kernel
theorem dX6_sign_21 : decode cX6_sign 21 = .ok (.iaload, 1) := by decide +kernel
theorem dX6_sign_22 : decode cX6_sign 22 = .ok (.if_icmp .ge 15, 3) := by decide +kernel
theorem dX6_sign_25 : decode cX6_sign 25 = .ok (.aload_n 0, 1) := by decide +kernel
theorem dX6_sign_26 : decode cX6_sign 26 = .ok (.getfield 7, 3) := by decide +kernel
theorem dX6_sign_29 : decode cX6_sign 29 = .ok (.bipush 13, 2) := by decide +kernel
theorem dX6_sign_31 : decode cX6_sign 31 = .ok (.iload_n 1, 1) := by decide +kernel
theorem dX6_sign_32 : decode cX6_sign 32 = .ok (.iadd, 1) := by decide +kernel
theorem dX6_sign_33 : decode cX6_sign 33 = .ok (.iaload, 1) := by decide +kernel
theorem dX6_sign_34 : decode cX6_sign 34 = .ok (.goto 4, 3) := by decide +kernel
theorem dX6_sign_37 : decode cX6_sign 37 = .ok (.iconst (-1), 1) := by decide +kernel
theorem dX6_sign_38 : decode cX6_sign 38 = .ok (.ireturn, 1) := by decide +kernel
set_option maxRecDepth 20000 in
theorem ggX6_strongMany_X6_laysPeriod : GoodIn wsX6_strongMany wsX6_laysPeriod := goodIn_r _ [5, 6, 7, 8, 4, 9, 10, 11, 12, 13, 14, 15, 16, 17, 18, 19, 20, 21, 22, 23, 24, 25, 26, 27, 28, 29, 30, 31, 32, 33, 46, 47, 48, 49, 50, 51, 52, 53, 54, 55, 56, 57, 58, 59, 60] (by decide +kernel) (by decide +kernel)
set_option maxRecDepth 20000 in
theorem gX6_strongMany_X6_laysPeriod : GoodIn wsX6_strongMany (wsV RX6 76 RX6 yX6_laysPeriod wsX6_laysPeriod) := goodIn_app (goodIn_of _ (by decide +kernel)) ggX6_strongMany_X6_laysPeriod
set_option maxRecDepth 20000 in
theorem ggX6_strongMany_X6_tenthsOf : GoodIn wsX6_strongMany wsX6_tenthsOf := goodIn_r _ [9, 10, 46, 47, 48, 49, 50, 51, 52, 53, 54, 55, 56, 57, 58, 59, 60] (by decide +kernel) (by decide +kernel)
set_option maxRecDepth 20000 in
theorem gX6_strongMany_X6_tenthsOf : GoodIn wsX6_strongMany (wsV RX6 70 RX6 yX6_tenthsOf wsX6_tenthsOf) := goodIn_app (goodIn_of _ (by decide +kernel)) ggX6_strongMany_X6_tenthsOf
set_option maxRecDepth 20000 in
theorem ggX6_strongMany_X6_classesOf : GoodIn wsX6_strongMany wsX6_classesOf := goodIn_r _ [30] (by decide +kernel) (by decide +kernel)
set_option maxRecDepth 20000 in
theorem gX6_strongMany_X6_classesOf : GoodIn wsX6_strongMany (va_wsS RX6 45 yX6_classesOf wsX6_classesOf) := goodIn_app (goodIn_of _ (by decide +kernel)) ggX6_strongMany_X6_classesOf
set_option maxRecDepth 20000 in
theorem ggX6_strongMany_X6_isStrong : GoodIn wsX6_strongMany wsX6_isStrong := goodIn_r _ [37, 27, 10, 38, 39, 40, 4, 41, 42, 43, 44, 45, 46, 47, 48, 49, 50, 51, 52, 53, 54, 55, 56, 57, 58, 59, 60] (by decide +kernel) (by decide +kernel)
set_option maxRecDepth 20000 in
theorem gX6_strongMany_X6_isStrong : GoodIn wsX6_strongMany (wsV RX6 80 RX6 yX6_isStrong wsX6_isStrong) := goodIn_app (goodIn_of _ (by decide +kernel)) ggX6_strongMany_X6_isStrong
theorem dX6_strongMany_0 : decode cX6_strongMany 0 = .ok (.aload_n 0, 1) := by decide +kernel
theorem dX6_strongMany_1 : decode cX6_strongMany 1 = .ok (.iload_n 1, 1) := by decide +kernel
theorem dX6_strongMany_2 : decode cX6_strongMany 2 = .ok (.invokevirtual 76, 3) := by decide +kernel
theorem dX6_strongMany_5 : decode cX6_strongMany 5 = .ok (.iconst 0, 1) := by decide +kernel
theorem dX6_strongMany_6 : decode cX6_strongMany 6 = .ok (.istore_n 2, 1) := by decide +kernel
theorem dX6_strongMany_7 : decode cX6_strongMany 7 = .ok (.iconst 0, 1) := by decide +kernel
theorem dX6_strongMany_8 : decode cX6_strongMany 8 = .ok (.istore_n 3, 1) := by decide +kernel
theorem dX6_strongMany_9 : decode cX6_strongMany 9 = .ok (.iload_n 3, 1) := by decide +kernel
theorem dX6_strongMany_10 : decode cX6_strongMany 10 = .ok (.aload_n 0, 1) := by decide +kernel
theorem dX6_strongMany_11 : decode cX6_strongMany 11 = .ok (.iload_n 1, 1) := by decide +kernel
theorem dX6_strongMany_12 : decode cX6_strongMany 12 = .ok (.invokevirtual 70, 3) := by decide +kernel
theorem dX6_strongMany_15 : decode cX6_strongMany 15 = .ok (.invokestatic 45, 3) := by decide +kernel
theorem dX6_strongMany_18 : decode cX6_strongMany 18 = .ok (.if_icmp .ge 25, 3) := by decide +kernel
theorem dX6_strongMany_21 : decode cX6_strongMany 21 = .ok (.iload_n 2, 1) := by decide +kernel
theorem dX6_strongMany_22 : decode cX6_strongMany 22 = .ok (.aload_n 0, 1) := by decide +kernel
theorem dX6_strongMany_23 : decode cX6_strongMany 23 = .ok (.iload_n 3, 1) := by decide +kernel
theorem dX6_strongMany_24 : decode cX6_strongMany 24 = .ok (.invokevirtual 80, 3) := by decide +kernel
theorem dX6_strongMany_27 : decode cX6_strongMany 27 = .ok (.ifCond .eq 7, 3) := by decide +kernel
theorem dX6_strongMany_30 : decode cX6_strongMany 30 = .ok (.iconst 1, 1) := by decide +kernel
theorem dX6_strongMany_31 : decode cX6_strongMany 31 = .ok (.goto 4, 3) := by decide +kernel
theorem dX6_strongMany_34 : decode cX6_strongMany 34 = .ok (.iconst 0, 1) := by decide +kernel
theorem dX6_strongMany_35 : decode cX6_strongMany 35 = .ok (.iadd, 1) := by decide +kernel
theorem dX6_strongMany_36 : decode cX6_strongMany 36 = .ok (.istore_n 2, 1) := by decide +kernel
theorem dX6_strongMany_37 : decode cX6_strongMany 37 = .ok (.iinc 3 1, 3) := by decide +kernel
theorem dX6_strongMany_40 : decode cX6_strongMany 40 = .ok (.goto (-31), 3) := by decide +kernel
theorem dX6_strongMany_43 : decode cX6_strongMany 43 = .ok (.iload_n 2, 1) := by decide +kernel
theorem dX6_strongMany_44 : decode cX6_strongMany 44 = .ok (.ireturn, 1) := by decide +kernel
set_option maxRecDepth 20000 in
theorem ggX6_toldBy_X6_laysTold : GoodIn wsX6_toldBy wsX6_laysTold := goodIn_r _ [7, 1, 8, 9, 2, 10, 11, 12, 6, 13, 14, 15, 16, 17, 18, 19, 20, 21, 22, 23, 24, 25, 26, 27, 28, 29, 30, 31, 32, 33, 34, 35, 36, 37, 38, 39, 40, 41, 42, 43, 44, 45, 46, 47, 48, 49, 50, 51, 52, 53, 54, 55, 56, 57, 58, 59, 60, 61, 62, 63, 64, 65, 66, 67, 68, 69, 70] (by decide +kernel) (by decide +kernel)
set_option maxRecDepth 20000 in
theorem gX6_toldBy_X6_laysTold : GoodIn wsX6_toldBy (wsV RX6 111 RX6 yX6_laysTold wsX6_laysTold) := goodIn_app (goodIn_of _ (by decide +kernel)) ggX6_toldBy_X6_laysTold
set_option maxRecDepth 20000 in
theorem ggX6_toldBy_X6_firstPlace : GoodIn wsX6_toldBy wsX6_firstPlace := goodIn_r _ [25, 1, 56, 57, 58, 59, 60, 61, 62, 63, 64, 65, 66, 67, 68, 69, 70] (by decide +kernel) (by decide +kernel)
set_option maxRecDepth 20000 in
theorem gX6_toldBy_X6_firstPlace : GoodIn wsX6_toldBy (wsV RX6 41 RX6 yX6_firstPlace wsX6_firstPlace) := goodIn_app (goodIn_of _ (by decide +kernel)) ggX6_toldBy_X6_firstPlace
set_option maxRecDepth 20000 in
theorem ggX6_toldBy_X6_lastPlace : GoodIn wsX6_toldBy wsX6_lastPlace := goodIn_r _ [29, 1, 22, 23, 24, 6, 25, 56, 57, 58, 59, 60, 61, 62, 63, 64, 65, 66, 67, 68, 69, 70] (by decide +kernel) (by decide +kernel)
set_option maxRecDepth 20000 in
theorem gX6_toldBy_X6_lastPlace : GoodIn wsX6_toldBy (wsV RX6 63 RX6 yX6_lastPlace wsX6_lastPlace) := goodIn_app (goodIn_of _ (by decide +kernel)) ggX6_toldBy_X6_lastPlace
set_option maxRecDepth 20000 in
theorem ggX6_toldBy_X6_in : GoodIn wsX6_toldBy wsX6_in := goodIn_r _ [55] (by decide +kernel) (by decide +kernel)
set_option maxRecDepth 20000 in
theorem gX6_toldBy_X6_in : GoodIn wsX6_toldBy (va_wsS RX6 84 yX6_in wsX6_in) := goodIn_app (goodIn_of _ (by decide +kernel)) ggX6_toldBy_X6_in
theorem dX6_toldBy_0 : decode cX6_toldBy 0 = .ok (.aload_n 0, 1) := by decide +kernel
theorem dX6_toldBy_1 : decode cX6_toldBy 1 = .ok (.invokevirtual 111, 3) := by decide +kernel
theorem dX6_toldBy_4 : decode cX6_toldBy 4 = .ok (.iconst 0, 1) := by decide +kernel
theorem dX6_toldBy_5 : decode cX6_toldBy 5 = .ok (.istore_n 2, 1) := by decide +kernel
theorem dX6_toldBy_6 : decode cX6_toldBy 6 = .ok (.iconst 0, 1) := by decide +kernel
theorem dX6_toldBy_7 : decode cX6_toldBy 7 = .ok (.istore_n 3, 1) := by decide +kernel
theorem dX6_toldBy_8 : decode cX6_toldBy 8 = .ok (.iload_n 3, 1) := by decide +kernel
theorem dX6_toldBy_9 : decode cX6_toldBy 9 = .ok (.aload_n 0, 1) := by decide +kernel
theorem dX6_toldBy_10 : decode cX6_toldBy 10 = .ok (.getfield 7, 3) := by decide +kernel
theorem dX6_toldBy_13 : decode cX6_toldBy 13 = .ok (.iconst 0, 1) := by decide +kernel
theorem dX6_toldBy_14 : decode cX6_toldBy 14 = .ok (.iaload, 1) := by decide +kernel
theorem dX6_toldBy_15 : decode cX6_toldBy 15 = .ok (.if_icmp .ge 44, 3) := by decide +kernel
theorem dX6_toldBy_18 : decode cX6_toldBy 18 = .ok (.iload_n 2, 1) := by decide +kernel
theorem dX6_toldBy_19 : decode cX6_toldBy 19 = .ok (.aload_n 0, 1) := by decide +kernel
theorem dX6_toldBy_20 : decode cX6_toldBy 20 = .ok (.getfield 28, 3) := by decide +kernel
theorem dX6_toldBy_23 : decode cX6_toldBy 23 = .ok (.iload_n 3, 1) := by decide +kernel
theorem dX6_toldBy_24 : decode cX6_toldBy 24 = .ok (.iaload, 1) := by decide +kernel
theorem dX6_toldBy_25 : decode cX6_toldBy 25 = .ok (.iload_n 1, 1) := by decide +kernel
theorem dX6_toldBy_26 : decode cX6_toldBy 26 = .ok (.if_icmp .ne 24, 3) := by decide +kernel
theorem dX6_toldBy_29 : decode cX6_toldBy 29 = .ok (.iload_n 3, 1) := by decide +kernel
theorem dX6_toldBy_30 : decode cX6_toldBy 30 = .ok (.aload_n 0, 1) := by decide +kernel
theorem dX6_toldBy_31 : decode cX6_toldBy 31 = .ok (.invokevirtual 41, 3) := by decide +kernel
theorem dX6_toldBy_34 : decode cX6_toldBy 34 = .ok (.aload_n 0, 1) := by decide +kernel
theorem dX6_toldBy_35 : decode cX6_toldBy 35 = .ok (.invokevirtual 63, 3) := by decide +kernel
theorem dX6_toldBy_38 : decode cX6_toldBy 38 = .ok (.iconst 1, 1) := by decide +kernel
theorem dX6_toldBy_39 : decode cX6_toldBy 39 = .ok (.isub, 1) := by decide +kernel
theorem dX6_toldBy_40 : decode cX6_toldBy 40 = .ok (.invokestatic 84, 3) := by decide +kernel
theorem dX6_toldBy_43 : decode cX6_toldBy 43 = .ok (.ifCond .eq 7, 3) := by decide +kernel
theorem dX6_toldBy_46 : decode cX6_toldBy 46 = .ok (.iconst 1, 1) := by decide +kernel
theorem dX6_toldBy_47 : decode cX6_toldBy 47 = .ok (.goto 4, 3) := by decide +kernel
theorem dX6_toldBy_50 : decode cX6_toldBy 50 = .ok (.iconst 0, 1) := by decide +kernel
theorem dX6_toldBy_51 : decode cX6_toldBy 51 = .ok (.iadd, 1) := by decide +kernel
theorem dX6_toldBy_52 : decode cX6_toldBy 52 = .ok (.istore_n 2, 1) := by decide +kernel
theorem dX6_toldBy_53 : decode cX6_toldBy 53 = .ok (.iinc 3 1, 3) := by decide +kernel
theorem dX6_toldBy_56 : decode cX6_toldBy 56 = .ok (.goto (-48), 3) := by decide +kernel
theorem dX6_toldBy_59 : decode cX6_toldBy 59 = .ok (.iload_n 2, 1) := by decide +kernel
theorem dX6_toldBy_60 : decode cX6_toldBy 60 = .ok (.ireturn, 1) := by decide +kernel
set_option maxRecDepth 20000 in
theorem ggX6_tellsPeriod_X6_tenthsOf : GoodIn wsX6_tellsPeriod wsX6_tenthsOf := goodIn_r _ [5, 6, 76, 77, 78, 79, 80, 81, 82, 83, 84, 85, 86, 87, 88, 89, 90] (by decide +kernel) (by decide +kernel)
set_option maxRecDepth 20000 in
theorem gX6_tellsPeriod_X6_tenthsOf : GoodIn wsX6_tellsPeriod (wsV RX6 70 RX6 yX6_tenthsOf wsX6_tenthsOf) := goodIn_app (goodIn_of _ (by decide +kernel)) ggX6_tellsPeriod_X6_tenthsOf
set_option maxRecDepth 20000 in
theorem ggX6_tellsPeriod_X6_phaseOf : GoodIn wsX6_tellsPeriod wsX6_phaseOf := goodIn_r _ [10, 6, 76, 77, 78, 79, 80, 81, 82, 83, 84, 85, 86, 87, 88, 89, 90] (by decide +kernel) (by decide +kernel)
set_option maxRecDepth 20000 in
theorem gX6_tellsPeriod_X6_phaseOf : GoodIn wsX6_tellsPeriod (wsV RX6 73 RX6 yX6_phaseOf wsX6_phaseOf) := goodIn_app (goodIn_of _ (by decide +kernel)) ggX6_tellsPeriod_X6_phaseOf
set_option maxRecDepth 20000 in
theorem ggX6_tellsPeriod_X6_classesOf : GoodIn wsX6_tellsPeriod wsX6_classesOf := goodIn_r _ [13] (by decide +kernel) (by decide +kernel)
set_option maxRecDepth 20000 in
theorem gX6_tellsPeriod_X6_classesOf : GoodIn wsX6_tellsPeriod (va_wsS RX6 45 yX6_classesOf wsX6_classesOf) := goodIn_app (goodIn_of _ (by decide +kernel)) ggX6_tellsPeriod_X6_classesOf
set_option maxRecDepth 20000 in
theorem ggX6_tellsPeriod_X6_explainedNow : GoodIn wsX6_tellsPeriod wsX6_explainedNow := goodIn_r _ [17, 18, 19, 20, 4, 21, 6, 22, 23, 24, 25, 26, 27, 28, 29, 30, 31, 32, 33, 34, 11, 12, 13, 35, 36, 37, 38, 39, 40, 41, 76, 77, 78, 79, 80, 81, 82, 83, 84, 85, 86, 87, 88, 89, 90] (by decide +kernel) (by decide +kernel)
set_option maxRecDepth 20000 in
theorem gX6_tellsPeriod_X6_explainedNow : GoodIn wsX6_tellsPeriod (wsV RX6 105 RX6 yX6_explainedNow wsX6_explainedNow) := goodIn_app (goodIn_of _ (by decide +kernel)) ggX6_tellsPeriod_X6_explainedNow
set_option maxRecDepth 20000 in
theorem ggX6_tellsPeriod_X6_mostCommon : GoodIn wsX6_tellsPeriod wsX6_mostCommon := goodIn_r _ [45, 6, 18, 19, 20, 4, 21, 22, 23, 24, 25, 76, 77, 78, 79, 80, 81, 82, 83, 84, 85, 86, 87, 88, 89, 90] (by decide +kernel) (by decide +kernel)
set_option maxRecDepth 20000 in
theorem gX6_tellsPeriod_X6_mostCommon : GoodIn wsX6_tellsPeriod (wsV RX6 142 RX6 yX6_mostCommon wsX6_mostCommon) := goodIn_app (goodIn_of _ (by decide +kernel)) ggX6_tellsPeriod_X6_mostCommon
set_option maxRecDepth 20000 in
theorem ggX6_tellsPeriod_X6_strongMany : GoodIn wsX6_tellsPeriod wsX6_strongMany := goodIn_r _ [49, 50, 51, 52, 4, 53, 1, 2, 3, 5, 6, 7, 8, 9, 10, 18, 19, 20, 21, 22, 23, 24, 25, 31, 32, 33, 34, 30, 11, 12, 13, 35, 36, 37, 54, 55, 56, 57, 38, 39, 40, 41, 58, 59, 60, 61, 76, 77, 78, 79, 80, 81, 82, 83, 84, 85, 86, 87, 88, 89, 90] (by decide +kernel) (by decide +kernel)
set_option maxRecDepth 20000 in
theorem gX6_tellsPeriod_X6_strongMany : GoodIn wsX6_tellsPeriod (wsV RX6 146 RX6 yX6_strongMany wsX6_strongMany) := goodIn_app (goodIn_of _ (by decide +kernel)) ggX6_tellsPeriod_X6_strongMany
set_option maxRecDepth 20000 in
theorem ggX6_tellsPeriod_X6_toldBy : GoodIn wsX6_tellsPeriod wsX6_toldBy := goodIn_r _ [65, 6, 66, 67, 68, 69, 4, 70, 71, 72, 50, 51, 52, 53, 1, 2, 3, 5, 7, 8, 9, 10, 18, 19, 20, 21, 22, 23, 24, 25, 31, 32, 33, 34, 30, 11, 12, 13, 35, 36, 37, 54, 55, 56, 57, 38, 39, 40, 41, 58, 59, 60, 61, 73, 74, 75, 76, 77, 78, 79, 80, 81, 82, 83, 84, 85, 86, 87, 88, 89, 90] (by decide +kernel) (by decide +kernel)
set_option maxRecDepth 20000 in
theorem gX6_tellsPeriod_X6_toldBy : GoodIn wsX6_tellsPeriod (wsV RX6 149 RX6 yX6_toldBy wsX6_toldBy) := goodIn_app (goodIn_of _ (by decide +kernel)) ggX6_tellsPeriod_X6_toldBy
theorem dX6_tellsPeriod_0 : decode cX6_tellsPeriod 0 = .ok (.iload_n 2, 1) := by decide +kernel
theorem dX6_tellsPeriod_1 : decode cX6_tellsPeriod 1 = .ok (.tableswitch 102 0 5 #[39, 45, 51, 60, 75, 96], 39) := by decide +kernel
theorem dX6_tellsPeriod_40 : decode cX6_tellsPeriod 40 = .ok (.aload_n 0, 1) := by decide +kernel
theorem dX6_tellsPeriod_41 : decode cX6_tellsPeriod 41 = .ok (.iload_n 1, 1) := by decide +kernel
theorem dX6_tellsPeriod_42 : decode cX6_tellsPeriod 42 = .ok (.invokevirtual 70, 3) := by decide +kernel
theorem dX6_tellsPeriod_45 : decode cX6_tellsPeriod 45 = .ok (.ireturn, 1) := by decide +kernel
theorem dX6_tellsPeriod_46 : decode cX6_tellsPeriod 46 = .ok (.aload_n 0, 1) := by decide +kernel
theorem dX6_tellsPeriod_47 : decode cX6_tellsPeriod 47 = .ok (.iload_n 1, 1) := by decide +kernel
theorem dX6_tellsPeriod_48 : decode cX6_tellsPeriod 48 = .ok (.invokevirtual 73, 3) := by decide +kernel
theorem dX6_tellsPeriod_51 : decode cX6_tellsPeriod 51 = .ok (.ireturn, 1) := by decide +kernel
theorem dX6_tellsPeriod_52 : decode cX6_tellsPeriod 52 = .ok (.aload_n 0, 1) := by decide +kernel
theorem dX6_tellsPeriod_53 : decode cX6_tellsPeriod 53 = .ok (.iload_n 1, 1) := by decide +kernel
theorem dX6_tellsPeriod_54 : decode cX6_tellsPeriod 54 = .ok (.invokevirtual 70, 3) := by decide +kernel
theorem dX6_tellsPeriod_57 : decode cX6_tellsPeriod 57 = .ok (.invokestatic 45, 3) := by decide +kernel
theorem dX6_tellsPeriod_60 : decode cX6_tellsPeriod 60 = .ok (.ireturn, 1) := by decide +kernel
theorem dX6_tellsPeriod_61 : decode cX6_tellsPeriod 61 = .ok (.aload_n 0, 1) := by decide +kernel
theorem dX6_tellsPeriod_62 : decode cX6_tellsPeriod 62 = .ok (.aload_n 0, 1) := by decide +kernel
theorem dX6_tellsPeriod_63 : decode cX6_tellsPeriod 63 = .ok (.iload_n 1, 1) := by decide +kernel
theorem dX6_tellsPeriod_64 : decode cX6_tellsPeriod 64 = .ok (.invokevirtual 70, 3) := by decide +kernel
theorem dX6_tellsPeriod_67 : decode cX6_tellsPeriod 67 = .ok (.aload_n 0, 1) := by decide +kernel
theorem dX6_tellsPeriod_68 : decode cX6_tellsPeriod 68 = .ok (.iload_n 1, 1) := by decide +kernel
theorem dX6_tellsPeriod_69 : decode cX6_tellsPeriod 69 = .ok (.invokevirtual 73, 3) := by decide +kernel
theorem dX6_tellsPeriod_72 : decode cX6_tellsPeriod 72 = .ok (.invokevirtual 105, 3) := by decide +kernel
theorem dX6_tellsPeriod_75 : decode cX6_tellsPeriod 75 = .ok (.ireturn, 1) := by decide +kernel
theorem dX6_tellsPeriod_76 : decode cX6_tellsPeriod 76 = .ok (.aload_n 0, 1) := by decide +kernel
theorem dX6_tellsPeriod_77 : decode cX6_tellsPeriod 77 = .ok (.aload_n 0, 1) := by decide +kernel
theorem dX6_tellsPeriod_78 : decode cX6_tellsPeriod 78 = .ok (.iload_n 1, 1) := by decide +kernel
theorem dX6_tellsPeriod_79 : decode cX6_tellsPeriod 79 = .ok (.invokevirtual 70, 3) := by decide +kernel
theorem dX6_tellsPeriod_82 : decode cX6_tellsPeriod 82 = .ok (.aload_n 0, 1) := by decide +kernel
theorem dX6_tellsPeriod_83 : decode cX6_tellsPeriod 83 = .ok (.iload_n 1, 1) := by decide +kernel
theorem dX6_tellsPeriod_84 : decode cX6_tellsPeriod 84 = .ok (.invokevirtual 73, 3) := by decide +kernel
theorem dX6_tellsPeriod_87 : decode cX6_tellsPeriod 87 = .ok (.invokevirtual 105, 3) := by decide +kernel
theorem dX6_tellsPeriod_90 : decode cX6_tellsPeriod 90 = .ok (.aload_n 0, 1) := by decide +kernel
theorem dX6_tellsPeriod_91 : decode cX6_tellsPeriod 91 = .ok (.iconst 1, 1) := by decide +kernel
theorem dX6_tellsPeriod_92 : decode cX6_tellsPeriod 92 = .ok (.invokevirtual 142, 3) := by decide +kernel
theorem dX6_tellsPeriod_95 : decode cX6_tellsPeriod 95 = .ok (.isub, 1) := by decide +kernel
theorem dX6_tellsPeriod_96 : decode cX6_tellsPeriod 96 = .ok (.ireturn, 1) := by decide +kernel
theorem dX6_tellsPeriod_97 : decode cX6_tellsPeriod 97 = .ok (.aload_n 0, 1) := by decide +kernel
theorem dX6_tellsPeriod_98 : decode cX6_tellsPeriod 98 = .ok (.iload_n 1, 1) := by decide +kernel
theorem dX6_tellsPeriod_99 : decode cX6_tellsPeriod 99 = .ok (.invokevirtual 146, 3) := by decide +kernel
theorem dX6_tellsPeriod_102 : decode cX6_tellsPeriod 102 = .ok (.ireturn, 1) := by decide +kernel
theorem dX6_tellsPeriod_103 : decode cX6_tellsPeriod 103 = .ok (.aload_n 0, 1) := by decide +kernel
theorem dX6_tellsPeriod_104 : decode cX6_tellsPeriod 104 = .ok (.iload_n 1, 1) := by decide +kernel
theorem dX6_tellsPeriod_105 : decode cX6_tellsPeriod 105 = .ok (.invokevirtual 149, 3) := by decide +kernel
theorem dX6_tellsPeriod_108 : decode cX6_tellsPeriod 108 = .ok (.ireturn, 1) := by decide +kernel
set_option maxRecDepth 20000 in
theorem ggX6_period_X6_in : GoodIn wsX6_period wsX6_in := goodIn_r _ [6] (by decide +kernel) (by decide +kernel)
set_option maxRecDepth 20000 in
theorem gX6_period_X6_in : GoodIn wsX6_period (va_wsS RX6 84 yX6_in wsX6_in) := goodIn_app (goodIn_of _ (by decide +kernel)) ggX6_period_X6_in
set_option maxRecDepth 20000 in
theorem ggX6_period_X6_fails : GoodIn wsX6_period wsX6_fails := goodIn_r _ [10, 1, 85, 86, 87, 88, 89, 90, 91, 92, 93, 94, 95, 96, 97, 98, 99] (by decide +kernel) (by decide +kernel)
set_option maxRecDepth 20000 in
theorem gX6_period_X6_fails : GoodIn wsX6_period (wsV RX6 88 RX6 yX6_fails wsX6_fails) := goodIn_app (goodIn_of _ (by decide +kernel)) ggX6_period_X6_fails
set_option maxRecDepth 20000 in
theorem ggX6_period_X6_tellsPeriod : GoodIn wsX6_period wsX6_tellsPeriod := goodIn_r _ [14, 15, 16, 17, 5, 18, 2, 19, 20, 21, 22, 23, 24, 25, 26, 27, 28, 29, 30, 31, 32, 33, 34, 35, 36, 37, 38, 39, 40, 41, 42, 43, 44, 45, 46, 47, 48, 49, 50, 51, 52, 53, 54, 55, 56, 57, 58, 59, 60, 61, 62, 63, 64, 65, 66, 67, 68, 69, 70, 71, 72, 73, 74, 75, 76, 77, 78, 79, 80, 81, 82, 83, 84, 3, 4, 6, 85, 86, 87, 88, 89, 90, 91, 92, 93, 94, 95, 96, 97, 98, 99] (by decide +kernel) (by decide +kernel)
set_option maxRecDepth 20000 in
theorem gX6_period_X6_tellsPeriod : GoodIn wsX6_period (wsV RX6 152 RX6 yX6_tellsPeriod wsX6_tellsPeriod) := goodIn_app (goodIn_of _ (by decide +kernel)) ggX6_period_X6_tellsPeriod
theorem dX6_period_0 : decode cX6_period 0 = .ok (.aload_n 0, 1) := by decide +kernel
theorem dX6_period_1 : decode cX6_period 1 = .ok (.iconst 0, 1) := by decide +kernel
theorem dX6_period_2 : decode cX6_period 2 = .ok (.putfield 34, 3) := by decide +kernel
theorem dX6_period_5 : decode cX6_period 5 = .ok (.iload_n 1, 1) := by decide +kernel
theorem dX6_period_6 : decode cX6_period 6 = .ok (.iconst 0, 1) := by decide +kernel
theorem dX6_period_7 : decode cX6_period 7 = .ok (.aload_n 0, 1) := by decide +kernel
theorem dX6_period_8 : decode cX6_period 8 = .ok (.getfield 7, 3) := by decide +kernel
theorem dX6_period_11 : decode cX6_period 11 = .ok (.iconst 4, 1) := by decide +kernel
theorem dX6_period_12 : decode cX6_period 12 = .ok (.iaload, 1) := by decide +kernel
theorem dX6_period_13 : decode cX6_period 13 = .ok (.iconst 1, 1) := by decide +kernel
theorem dX6_period_14 : decode cX6_period 14 = .ok (.isub, 1) := by decide +kernel
theorem dX6_period_15 : decode cX6_period 15 = .ok (.invokestatic 84, 3) := by decide +kernel
theorem dX6_period_18 : decode cX6_period 18 = .ok (.ifCond .ne 9, 3) := by decide +kernel
theorem dX6_period_21 : decode cX6_period 21 = .ok (.aload_n 0, 1) := by decide +kernel
theorem dX6_period_22 : decode cX6_period 22 = .ok (.iconst 1, 1) := by decide +kernel
theorem dX6_period_23 : decode cX6_period 23 = .ok (.invokevirtual 88, 3) := by decide +kernel
theorem dX6_period_26 : decode cX6_period 26 = .ok (.ireturn, 1) := by decide +kernel
theorem dX6_period_27 : decode cX6_period 27 = .ok (.iload_n 2, 1) := by decide +kernel
theorem dX6_period_28 : decode cX6_period 28 = .ok (.iconst 0, 1) := by decide +kernel
theorem dX6_period_29 : decode cX6_period 29 = .ok (.bipush 6, 2) := by decide +kernel
theorem dX6_period_31 : decode cX6_period 31 = .ok (.invokestatic 84, 3) := by decide +kernel
theorem dX6_period_34 : decode cX6_period 34 = .ok (.ifCond .eq 12, 3) := by decide +kernel
theorem dX6_period_37 : decode cX6_period 37 = .ok (.aload_n 0, 1) := by decide +kernel
theorem dX6_period_38 : decode cX6_period 38 = .ok (.iload_n 1, 1) := by decide +kernel
theorem dX6_period_39 : decode cX6_period 39 = .ok (.iload_n 2, 1) := by decide +kernel
theorem dX6_period_40 : decode cX6_period 40 = .ok (.invokevirtual 152, 3) := by decide +kernel
theorem dX6_period_43 : decode cX6_period 43 = .ok (.goto 8, 3) := by decide +kernel
theorem dX6_period_46 : decode cX6_period 46 = .ok (.aload_n 0, 1) := by decide +kernel
theorem dX6_period_47 : decode cX6_period 47 = .ok (.iconst 2, 1) := by decide +kernel
theorem dX6_period_48 : decode cX6_period 48 = .ok (.invokevirtual 88, 3) := by decide +kernel
theorem dX6_period_51 : decode cX6_period 51 = .ok (.ireturn, 1) := by decide +kernel
set_option maxRecDepth 20000 in
theorem ggX6_tellsRemainder_X6_laysPeriod : GoodIn wsX6_tellsRemainder wsX6_laysPeriod := goodIn_r _ [6, 7, 8, 9, 5, 10, 11, 12, 13, 14, 15, 16, 17, 18, 19, 20, 21, 22, 23, 24, 25, 26, 27, 1, 28, 29, 30, 31, 32, 33, 38, 39, 40, 41, 42, 43, 44, 45, 46, 47, 48, 49, 50, 51, 52] (by decide +kernel) (by decide +kernel)
set_option maxRecDepth 20000 in
theorem gX6_tellsRemainder_X6_laysPeriod : GoodIn wsX6_tellsRemainder (wsV RX6 76 RX6 yX6_laysPeriod wsX6_laysPeriod) := goodIn_app (goodIn_of _ (by decide +kernel)) ggX6_tellsRemainder_X6_laysPeriod
set_option maxRecDepth 20000 in
theorem ggX6_tellsRemainder_X6_signOf : GoodIn wsX6_tellsRemainder wsX6_signOf := goodIn_r _ [37, 1, 38, 39, 40, 41, 42, 43, 44, 45, 46, 47, 48, 49, 50, 51, 52] (by decide +kernel) (by decide +kernel)
set_option maxRecDepth 20000 in
theorem gX6_tellsRemainder_X6_signOf : GoodIn wsX6_tellsRemainder (wsV RX6 53 RX6 yX6_signOf wsX6_signOf) := goodIn_app (goodIn_of _ (by decide +kernel)) ggX6_tellsRemainder_X6_signOf
theorem dX6_tellsRemainder_0 : decode cX6_tellsRemainder 0 = .ok (.aload_n 0, 1) := by decide +kernel
theorem dX6_tellsRemainder_1 : decode cX6_tellsRemainder 1 = .ok (.iload_n 1, 1) := by decide +kernel
theorem dX6_tellsRemainder_2 : decode cX6_tellsRemainder 2 = .ok (.invokevirtual 76, 3) := by decide +kernel
theorem dX6_tellsRemainder_5 : decode cX6_tellsRemainder 5 = .ok (.iload_n 3, 1) := by decide +kernel
theorem dX6_tellsRemainder_6 : decode cX6_tellsRemainder 6 = .ok (.iconst 4, 1) := by decide +kernel
theorem dX6_tellsRemainder_7 : decode cX6_tellsRemainder 7 = .ok (.if_icmp .ne 11, 3) := by decide +kernel
theorem dX6_tellsRemainder_10 : decode cX6_tellsRemainder 10 = .ok (.aload_n 0, 1) := by decide +kernel
theorem dX6_tellsRemainder_11 : decode cX6_tellsRemainder 11 = .ok (.iload_n 2, 1) := by decide +kernel
theorem dX6_tellsRemainder_12 : decode cX6_tellsRemainder 12 = .ok (.invokevirtual 53, 3) := by decide +kernel
theorem dX6_tellsRemainder_15 : decode cX6_tellsRemainder 15 = .ok (.goto 13, 3) := by decide +kernel
theorem dX6_tellsRemainder_18 : decode cX6_tellsRemainder 18 = .ok (.aload_n 0, 1) := by decide +kernel
theorem dX6_tellsRemainder_19 : decode cX6_tellsRemainder 19 = .ok (.getfield 19, 3) := by decide +kernel
theorem dX6_tellsRemainder_22 : decode cX6_tellsRemainder 22 = .ok (.iconst 4, 1) := by decide +kernel
theorem dX6_tellsRemainder_23 : decode cX6_tellsRemainder 23 = .ok (.iload_n 2, 1) := by decide +kernel
theorem dX6_tellsRemainder_24 : decode cX6_tellsRemainder 24 = .ok (.imul, 1) := by decide +kernel
theorem dX6_tellsRemainder_25 : decode cX6_tellsRemainder 25 = .ok (.iload_n 3, 1) := by decide +kernel
theorem dX6_tellsRemainder_26 : decode cX6_tellsRemainder 26 = .ok (.iadd, 1) := by decide +kernel
theorem dX6_tellsRemainder_27 : decode cX6_tellsRemainder 27 = .ok (.iaload, 1) := by decide +kernel
theorem dX6_tellsRemainder_28 : decode cX6_tellsRemainder 28 = .ok (.ireturn, 1) := by decide +kernel
set_option maxRecDepth 20000 in
theorem ggX6_remainder_X6_in : GoodIn wsX6_remainder wsX6_in := goodIn_r _ [6] (by decide +kernel) (by decide +kernel)
set_option maxRecDepth 20000 in
theorem gX6_remainder_X6_in : GoodIn wsX6_remainder (va_wsS RX6 84 yX6_in wsX6_in) := goodIn_app (goodIn_of _ (by decide +kernel)) ggX6_remainder_X6_in
set_option maxRecDepth 20000 in
theorem ggX6_remainder_X6_tenthsOf : GoodIn wsX6_remainder wsX6_tenthsOf := goodIn_r _ [10, 2, 50, 51, 52, 53, 54, 55, 56, 57, 58, 59, 60, 61, 62, 63, 64] (by decide +kernel) (by decide +kernel)
set_option maxRecDepth 20000 in
theorem gX6_remainder_X6_tenthsOf : GoodIn wsX6_remainder (wsV RX6 70 RX6 yX6_tenthsOf wsX6_tenthsOf) := goodIn_app (goodIn_of _ (by decide +kernel)) ggX6_remainder_X6_tenthsOf
set_option maxRecDepth 20000 in
theorem ggX6_remainder_X6_classesOf : GoodIn wsX6_remainder wsX6_classesOf := goodIn_r _ [13] (by decide +kernel) (by decide +kernel)
set_option maxRecDepth 20000 in
theorem gX6_remainder_X6_classesOf : GoodIn wsX6_remainder (va_wsS RX6 45 yX6_classesOf wsX6_classesOf) := goodIn_app (goodIn_of _ (by decide +kernel)) ggX6_remainder_X6_classesOf
set_option maxRecDepth 20000 in
theorem ggX6_remainder_X6_fails : GoodIn wsX6_remainder wsX6_fails := goodIn_r _ [17, 1, 50, 51, 52, 53, 54, 55, 56, 57, 58, 59, 60, 61, 62, 63, 64] (by decide +kernel) (by decide +kernel)
set_option maxRecDepth 20000 in
theorem gX6_remainder_X6_fails : GoodIn wsX6_remainder (wsV RX6 88 RX6 yX6_fails wsX6_fails) := goodIn_app (goodIn_of _ (by decide +kernel)) ggX6_remainder_X6_fails
set_option maxRecDepth 20000 in
theorem ggX6_remainder_X6_tellsRemainder : GoodIn wsX6_remainder wsX6_tellsRemainder := goodIn_r _ [21, 22, 23, 24, 25, 5, 26, 7, 8, 9, 10, 2, 27, 28, 29, 30, 31, 32, 33, 34, 35, 36, 37, 38, 39, 40, 41, 42, 11, 12, 13, 43, 44, 45, 46, 47, 48, 49, 50, 51, 52, 53, 54, 55, 56, 57, 58, 59, 60, 61, 62, 63, 64] (by decide +kernel) (by decide +kernel)
set_option maxRecDepth 20000 in
theorem gX6_remainder_X6_tellsRemainder : GoodIn wsX6_remainder (wsV RX6 155 RX6 yX6_tellsRemainder wsX6_tellsRemainder) := goodIn_app (goodIn_of _ (by decide +kernel)) ggX6_remainder_X6_tellsRemainder
theorem dX6_remainder_0 : decode cX6_remainder 0 = .ok (.aload_n 0, 1) := by decide +kernel
theorem dX6_remainder_1 : decode cX6_remainder 1 = .ok (.iconst 0, 1) := by decide +kernel
theorem dX6_remainder_2 : decode cX6_remainder 2 = .ok (.putfield 34, 3) := by decide +kernel
theorem dX6_remainder_5 : decode cX6_remainder 5 = .ok (.iload_n 1, 1) := by decide +kernel
theorem dX6_remainder_6 : decode cX6_remainder 6 = .ok (.iconst 0, 1) := by decide +kernel
theorem dX6_remainder_7 : decode cX6_remainder 7 = .ok (.aload_n 0, 1) := by decide +kernel
theorem dX6_remainder_8 : decode cX6_remainder 8 = .ok (.getfield 7, 3) := by decide +kernel
theorem dX6_remainder_11 : decode cX6_remainder 11 = .ok (.iconst 4, 1) := by decide +kernel
theorem dX6_remainder_12 : decode cX6_remainder 12 = .ok (.iaload, 1) := by decide +kernel
theorem dX6_remainder_13 : decode cX6_remainder 13 = .ok (.iconst 1, 1) := by decide +kernel
theorem dX6_remainder_14 : decode cX6_remainder 14 = .ok (.isub, 1) := by decide +kernel
theorem dX6_remainder_15 : decode cX6_remainder 15 = .ok (.invokestatic 84, 3) := by decide +kernel
theorem dX6_remainder_18 : decode cX6_remainder 18 = .ok (.ifCond .eq 21, 3) := by decide +kernel
theorem dX6_remainder_21 : decode cX6_remainder 21 = .ok (.iload_n 2, 1) := by decide +kernel
theorem dX6_remainder_22 : decode cX6_remainder 22 = .ok (.iconst 0, 1) := by decide +kernel
theorem dX6_remainder_23 : decode cX6_remainder 23 = .ok (.aload_n 0, 1) := by decide +kernel
theorem dX6_remainder_24 : decode cX6_remainder 24 = .ok (.iload_n 1, 1) := by decide +kernel
theorem dX6_remainder_25 : decode cX6_remainder 25 = .ok (.invokevirtual 70, 3) := by decide +kernel
theorem dX6_remainder_28 : decode cX6_remainder 28 = .ok (.invokestatic 45, 3) := by decide +kernel
theorem dX6_remainder_31 : decode cX6_remainder 31 = .ok (.iconst 1, 1) := by decide +kernel
theorem dX6_remainder_32 : decode cX6_remainder 32 = .ok (.isub, 1) := by decide +kernel
theorem dX6_remainder_33 : decode cX6_remainder 33 = .ok (.invokestatic 84, 3) := by decide +kernel
theorem dX6_remainder_36 : decode cX6_remainder 36 = .ok (.ifCond .ne 9, 3) := by decide +kernel
theorem dX6_remainder_39 : decode cX6_remainder 39 = .ok (.aload_n 0, 1) := by decide +kernel
theorem dX6_remainder_40 : decode cX6_remainder 40 = .ok (.iconst 1, 1) := by decide +kernel
theorem dX6_remainder_41 : decode cX6_remainder 41 = .ok (.invokevirtual 88, 3) := by decide +kernel
theorem dX6_remainder_44 : decode cX6_remainder 44 = .ok (.ireturn, 1) := by decide +kernel
theorem dX6_remainder_45 : decode cX6_remainder 45 = .ok (.iload_n 3, 1) := by decide +kernel
theorem dX6_remainder_46 : decode cX6_remainder 46 = .ok (.iconst 0, 1) := by decide +kernel
theorem dX6_remainder_47 : decode cX6_remainder 47 = .ok (.iconst 4, 1) := by decide +kernel
theorem dX6_remainder_48 : decode cX6_remainder 48 = .ok (.invokestatic 84, 3) := by decide +kernel
theorem dX6_remainder_51 : decode cX6_remainder 51 = .ok (.ifCond .eq 13, 3) := by decide +kernel
theorem dX6_remainder_54 : decode cX6_remainder 54 = .ok (.aload_n 0, 1) := by decide +kernel
theorem dX6_remainder_55 : decode cX6_remainder 55 = .ok (.iload_n 1, 1) := by decide +kernel
theorem dX6_remainder_56 : decode cX6_remainder 56 = .ok (.iload_n 2, 1) := by decide +kernel
theorem dX6_remainder_57 : decode cX6_remainder 57 = .ok (.iload_n 3, 1) := by decide +kernel
theorem dX6_remainder_58 : decode cX6_remainder 58 = .ok (.invokevirtual 155, 3) := by decide +kernel
theorem dX6_remainder_61 : decode cX6_remainder 61 = .ok (.goto 8, 3) := by decide +kernel
theorem dX6_remainder_64 : decode cX6_remainder 64 = .ok (.aload_n 0, 1) := by decide +kernel
theorem dX6_remainder_65 : decode cX6_remainder 65 = .ok (.iconst 2, 1) := by decide +kernel
theorem dX6_remainder_66 : decode cX6_remainder 66 = .ok (.invokevirtual 88, 3) := by decide +kernel
theorem dX6_remainder_69 : decode cX6_remainder 69 = .ok (.ireturn, 1) := by decide +kernel
set_option maxRecDepth 20000 in
theorem ggX6_tellsPlace_X6_laysTold : GoodIn wsX6_tellsPlace wsX6_laysTold := goodIn_r _ [7, 8, 9, 1, 2, 10, 11, 12, 6, 13, 14, 15, 16, 17, 18, 19, 20, 21, 22, 23, 24, 25, 26, 27, 28, 29, 30, 31, 32, 33, 34, 35, 36, 37, 38, 39, 40, 41, 42, 43, 44, 45, 46, 47, 48, 49, 50, 51, 52, 53, 54, 55, 60, 61, 62, 63, 64, 65, 66, 67, 68, 69, 70, 71, 72, 73, 74] (by decide +kernel) (by decide +kernel)
set_option maxRecDepth 20000 in
theorem gX6_tellsPlace_X6_laysTold : GoodIn wsX6_tellsPlace (wsV RX6 111 RX6 yX6_laysTold wsX6_laysTold) := goodIn_app (goodIn_of _ (by decide +kernel)) ggX6_tellsPlace_X6_laysTold
set_option maxRecDepth 20000 in
theorem ggX6_tellsPlace_X6_isExplained : GoodIn wsX6_tellsPlace wsX6_isExplained := goodIn_r _ [59, 1, 8, 60, 61, 62, 63, 64, 65, 66, 67, 68, 69, 70, 71, 72, 73, 74] (by decide +kernel) (by decide +kernel)
set_option maxRecDepth 20000 in
theorem gX6_tellsPlace_X6_isExplained : GoodIn wsX6_tellsPlace (wsV RX6 114 RX6 yX6_isExplained wsX6_isExplained) := goodIn_app (goodIn_of _ (by decide +kernel)) ggX6_tellsPlace_X6_isExplained
theorem dX6_tellsPlace_0 : decode cX6_tellsPlace 0 = .ok (.aload_n 0, 1) := by decide +kernel
theorem dX6_tellsPlace_1 : decode cX6_tellsPlace 1 = .ok (.invokevirtual 111, 3) := by decide +kernel
theorem dX6_tellsPlace_4 : decode cX6_tellsPlace 4 = .ok (.iload_n 2, 1) := by decide +kernel
theorem dX6_tellsPlace_5 : decode cX6_tellsPlace 5 = .ok (.ifCond .ne 12, 3) := by decide +kernel
theorem dX6_tellsPlace_8 : decode cX6_tellsPlace 8 = .ok (.aload_n 0, 1) := by decide +kernel
theorem dX6_tellsPlace_9 : decode cX6_tellsPlace 9 = .ok (.getfield 25, 3) := by decide +kernel
theorem dX6_tellsPlace_12 : decode cX6_tellsPlace 12 = .ok (.iload_n 1, 1) := by decide +kernel
theorem dX6_tellsPlace_13 : decode cX6_tellsPlace 13 = .ok (.iaload, 1) := by decide +kernel
theorem dX6_tellsPlace_14 : decode cX6_tellsPlace 14 = .ok (.goto 30, 3) := by decide +kernel
theorem dX6_tellsPlace_17 : decode cX6_tellsPlace 17 = .ok (.iload_n 2, 1) := by decide +kernel
theorem dX6_tellsPlace_18 : decode cX6_tellsPlace 18 = .ok (.iconst 1, 1) := by decide +kernel
theorem dX6_tellsPlace_19 : decode cX6_tellsPlace 19 = .ok (.if_icmp .ne 12, 3) := by decide +kernel
theorem dX6_tellsPlace_22 : decode cX6_tellsPlace 22 = .ok (.aload_n 0, 1) := by decide +kernel
theorem dX6_tellsPlace_23 : decode cX6_tellsPlace 23 = .ok (.getfield 28, 3) := by decide +kernel
theorem dX6_tellsPlace_26 : decode cX6_tellsPlace 26 = .ok (.iload_n 1, 1) := by decide +kernel
theorem dX6_tellsPlace_27 : decode cX6_tellsPlace 27 = .ok (.iaload, 1) := by decide +kernel
theorem dX6_tellsPlace_28 : decode cX6_tellsPlace 28 = .ok (.goto 16, 3) := by decide +kernel
theorem dX6_tellsPlace_31 : decode cX6_tellsPlace 31 = .ok (.aload_n 0, 1) := by decide +kernel
theorem dX6_tellsPlace_32 : decode cX6_tellsPlace 32 = .ok (.iload_n 1, 1) := by decide +kernel
theorem dX6_tellsPlace_33 : decode cX6_tellsPlace 33 = .ok (.invokevirtual 114, 3) := by decide +kernel
theorem dX6_tellsPlace_36 : decode cX6_tellsPlace 36 = .ok (.ifCond .eq 7, 3) := by decide +kernel
theorem dX6_tellsPlace_39 : decode cX6_tellsPlace 39 = .ok (.iconst 1, 1) := by decide +kernel
theorem dX6_tellsPlace_40 : decode cX6_tellsPlace 40 = .ok (.goto 4, 3) := by decide +kernel
theorem dX6_tellsPlace_43 : decode cX6_tellsPlace 43 = .ok (.iconst 0, 1) := by decide +kernel
theorem dX6_tellsPlace_44 : decode cX6_tellsPlace 44 = .ok (.ireturn, 1) := by decide +kernel
set_option maxRecDepth 20000 in
theorem ggX6_told_X6_in : GoodIn wsX6_told wsX6_in := goodIn_r _ [6] (by decide +kernel) (by decide +kernel)
set_option maxRecDepth 20000 in
theorem gX6_told_X6_in : GoodIn wsX6_told (va_wsS RX6 84 yX6_in wsX6_in) := goodIn_app (goodIn_of _ (by decide +kernel)) ggX6_told_X6_in
set_option maxRecDepth 20000 in
theorem ggX6_told_X6_fails : GoodIn wsX6_told wsX6_fails := goodIn_r _ [10, 1, 69, 70, 71, 72, 73, 74, 75, 76, 77, 78, 79, 80, 81, 82, 83] (by decide +kernel) (by decide +kernel)
set_option maxRecDepth 20000 in
theorem gX6_told_X6_fails : GoodIn wsX6_told (wsV RX6 88 RX6 yX6_fails wsX6_fails) := goodIn_app (goodIn_of _ (by decide +kernel)) ggX6_told_X6_fails
set_option maxRecDepth 20000 in
theorem ggX6_told_X6_tellsPlace : GoodIn wsX6_told wsX6_tellsPlace := goodIn_r _ [14, 15, 16, 17, 18, 19, 5, 20, 2, 21, 22, 23, 24, 25, 26, 27, 28, 29, 30, 31, 32, 33, 34, 35, 36, 37, 38, 39, 40, 41, 42, 43, 44, 45, 46, 47, 48, 49, 50, 51, 52, 53, 54, 55, 56, 57, 58, 59, 60, 61, 62, 63, 64, 3, 4, 6, 65, 66, 67, 68, 69, 70, 71, 72, 73, 74, 75, 76, 77, 78, 79, 80, 81, 82, 83] (by decide +kernel) (by decide +kernel)
set_option maxRecDepth 20000 in
theorem gX6_told_X6_tellsPlace : GoodIn wsX6_told (wsV RX6 158 RX6 yX6_tellsPlace wsX6_tellsPlace) := goodIn_app (goodIn_of _ (by decide +kernel)) ggX6_told_X6_tellsPlace
theorem dX6_told_0 : decode cX6_told 0 = .ok (.aload_n 0, 1) := by decide +kernel
theorem dX6_told_1 : decode cX6_told 1 = .ok (.iconst 0, 1) := by decide +kernel
theorem dX6_told_2 : decode cX6_told 2 = .ok (.putfield 34, 3) := by decide +kernel
theorem dX6_told_5 : decode cX6_told 5 = .ok (.iload_n 1, 1) := by decide +kernel
theorem dX6_told_6 : decode cX6_told 6 = .ok (.iconst 0, 1) := by decide +kernel
theorem dX6_told_7 : decode cX6_told 7 = .ok (.aload_n 0, 1) := by decide +kernel
theorem dX6_told_8 : decode cX6_told 8 = .ok (.getfield 7, 3) := by decide +kernel
theorem dX6_told_11 : decode cX6_told 11 = .ok (.iconst 0, 1) := by decide +kernel
theorem dX6_told_12 : decode cX6_told 12 = .ok (.iaload, 1) := by decide +kernel
theorem dX6_told_13 : decode cX6_told 13 = .ok (.iconst 1, 1) := by decide +kernel
theorem dX6_told_14 : decode cX6_told 14 = .ok (.isub, 1) := by decide +kernel
theorem dX6_told_15 : decode cX6_told 15 = .ok (.invokestatic 84, 3) := by decide +kernel
theorem dX6_told_18 : decode cX6_told 18 = .ok (.ifCond .ne 9, 3) := by decide +kernel
theorem dX6_told_21 : decode cX6_told 21 = .ok (.aload_n 0, 1) := by decide +kernel
theorem dX6_told_22 : decode cX6_told 22 = .ok (.iconst 1, 1) := by decide +kernel
theorem dX6_told_23 : decode cX6_told 23 = .ok (.invokevirtual 88, 3) := by decide +kernel
theorem dX6_told_26 : decode cX6_told 26 = .ok (.ireturn, 1) := by decide +kernel
theorem dX6_told_27 : decode cX6_told 27 = .ok (.iload_n 2, 1) := by decide +kernel
theorem dX6_told_28 : decode cX6_told 28 = .ok (.iconst 0, 1) := by decide +kernel
theorem dX6_told_29 : decode cX6_told 29 = .ok (.iconst 2, 1) := by decide +kernel
theorem dX6_told_30 : decode cX6_told 30 = .ok (.invokestatic 84, 3) := by decide +kernel
theorem dX6_told_33 : decode cX6_told 33 = .ok (.ifCond .eq 12, 3) := by decide +kernel
theorem dX6_told_36 : decode cX6_told 36 = .ok (.aload_n 0, 1) := by decide +kernel
theorem dX6_told_37 : decode cX6_told 37 = .ok (.iload_n 1, 1) := by decide +kernel
theorem dX6_told_38 : decode cX6_told 38 = .ok (.iload_n 2, 1) := by decide +kernel
theorem dX6_told_39 : decode cX6_told 39 = .ok (.invokevirtual 158, 3) := by decide +kernel
theorem dX6_told_42 : decode cX6_told 42 = .ok (.goto 8, 3) := by decide +kernel
theorem dX6_told_45 : decode cX6_told 45 = .ok (.aload_n 0, 1) := by decide +kernel
theorem dX6_told_46 : decode cX6_told 46 = .ok (.iconst 2, 1) := by decide +kernel
theorem dX6_told_47 : decode cX6_told 47 = .ok (.invokevirtual 88, 3) := by decide +kernel
theorem dX6_told_50 : decode cX6_told 50 = .ok (.ireturn, 1) := by decide +kernel
set_option maxRecDepth 20000 in
theorem ggX6_mostCommon_X6_firstPlace : GoodIn wsX6_mostCommon wsX6_firstPlace := goodIn_r _ [6, 1, 11, 12, 13, 14, 15, 16, 17, 18, 19, 20, 21, 22, 23, 24, 25] (by decide +kernel) (by decide +kernel)
set_option maxRecDepth 20000 in
theorem gX6_mostCommon_X6_firstPlace : GoodIn wsX6_mostCommon (wsV RX6 41 RX6 yX6_firstPlace wsX6_firstPlace) := goodIn_app (goodIn_of _ (by decide +kernel)) ggX6_mostCommon_X6_firstPlace
set_option maxRecDepth 20000 in
theorem ggX6_mostCommon_X6_lastPlace : GoodIn wsX6_mostCommon wsX6_lastPlace := goodIn_r _ [10, 1, 2, 3, 4, 5, 6, 11, 12, 13, 14, 15, 16, 17, 18, 19, 20, 21, 22, 23, 24, 25] (by decide +kernel) (by decide +kernel)
set_option maxRecDepth 20000 in
theorem gX6_mostCommon_X6_lastPlace : GoodIn wsX6_mostCommon (wsV RX6 63 RX6 yX6_lastPlace wsX6_lastPlace) := goodIn_app (goodIn_of _ (by decide +kernel)) ggX6_mostCommon_X6_lastPlace
theorem dX6_mostCommon_0 : decode cX6_mostCommon 0 = .ok (.iconst (-1), 1) := by decide +kernel
theorem dX6_mostCommon_1 : decode cX6_mostCommon 1 = .ok (.istore_n 2, 1) := by decide +kernel
theorem dX6_mostCommon_2 : decode cX6_mostCommon 2 = .ok (.iconst 0, 1) := by decide +kernel
theorem dX6_mostCommon_3 : decode cX6_mostCommon 3 = .ok (.istore_n 3, 1) := by decide +kernel
theorem dX6_mostCommon_4 : decode cX6_mostCommon 4 = .ok (.iconst 0, 1) := by decide +kernel
theorem dX6_mostCommon_5 : decode cX6_mostCommon 5 = .ok (.istore 4, 2) := by decide +kernel
theorem dX6_mostCommon_7 : decode cX6_mostCommon 7 = .ok (.iload 4, 2) := by decide +kernel
theorem dX6_mostCommon_9 : decode cX6_mostCommon 9 = .ok (.iconst 4, 1) := by decide +kernel
theorem dX6_mostCommon_10 : decode cX6_mostCommon 10 = .ok (.if_icmp .ge 84, 3) := by decide +kernel
theorem dX6_mostCommon_13 : decode cX6_mostCommon 13 = .ok (.iconst 0, 1) := by decide +kernel
theorem dX6_mostCommon_14 : decode cX6_mostCommon 14 = .ok (.istore 5, 2) := by decide +kernel
theorem dX6_mostCommon_16 : decode cX6_mostCommon 16 = .ok (.aload_n 0, 1) := by decide +kernel
theorem dX6_mostCommon_17 : decode cX6_mostCommon 17 = .ok (.invokevirtual 41, 3) := by decide +kernel
theorem dX6_mostCommon_20 : decode cX6_mostCommon 20 = .ok (.istore 6, 2) := by decide +kernel
theorem dX6_mostCommon_22 : decode cX6_mostCommon 22 = .ok (.iload 6, 2) := by decide +kernel
theorem dX6_mostCommon_24 : decode cX6_mostCommon 24 = .ok (.aload_n 0, 1) := by decide +kernel
theorem dX6_mostCommon_25 : decode cX6_mostCommon 25 = .ok (.invokevirtual 63, 3) := by decide +kernel
theorem dX6_mostCommon_28 : decode cX6_mostCommon 28 = .ok (.if_icmp .ge 34, 3) := by decide +kernel
theorem dX6_mostCommon_31 : decode cX6_mostCommon 31 = .ok (.iload 5, 2) := by decide +kernel
theorem dX6_mostCommon_33 : decode cX6_mostCommon 33 = .ok (.aload_n 0, 1) := by decide +kernel
theorem dX6_mostCommon_34 : decode cX6_mostCommon 34 = .ok (.getfield 7, 3) := by decide +kernel
theorem dX6_mostCommon_37 : decode cX6_mostCommon 37 = .ok (.bipush 13, 2) := by decide +kernel
theorem dX6_mostCommon_39 : decode cX6_mostCommon 39 = .ok (.iload 6, 2) := by decide +kernel
theorem dX6_mostCommon_41 : decode cX6_mostCommon 41 = .ok (.iadd, 1) := by decide +kernel
theorem dX6_mostCommon_42 : decode cX6_mostCommon 42 = .ok (.iaload, 1) := by decide +kernel
theorem dX6_mostCommon_43 : decode cX6_mostCommon 43 = .ok (.iload 4, 2) := by decide +kernel
theorem dX6_mostCommon_45 : decode cX6_mostCommon 45 = .ok (.if_icmp .ne 7, 3) := by decide +kernel
theorem dX6_mostCommon_48 : decode cX6_mostCommon 48 = .ok (.iconst 1, 1) := by decide +kernel
theorem dX6_mostCommon_49 : decode cX6_mostCommon 49 = .ok (.goto 4, 3) := by decide +kernel
theorem dX6_mostCommon_52 : decode cX6_mostCommon 52 = .ok (.iconst 0, 1) := by decide +kernel
theorem dX6_mostCommon_53 : decode cX6_mostCommon 53 = .ok (.iadd, 1) := by decide +kernel
theorem dX6_mostCommon_54 : decode cX6_mostCommon 54 = .ok (.istore 5, 2) := by decide +kernel
theorem dX6_mostCommon_56 : decode cX6_mostCommon 56 = .ok (.iinc 6 1, 3) := by decide +kernel
theorem dX6_mostCommon_59 : decode cX6_mostCommon 59 = .ok (.goto (-37), 3) := by decide +kernel
theorem dX6_mostCommon_62 : decode cX6_mostCommon 62 = .ok (.iload 5, 2) := by decide +kernel
theorem dX6_mostCommon_64 : decode cX6_mostCommon 64 = .ok (.iload_n 3, 1) := by decide +kernel
theorem dX6_mostCommon_65 : decode cX6_mostCommon 65 = .ok (.if_icmp .le 8, 3) := by decide +kernel
theorem dX6_mostCommon_68 : decode cX6_mostCommon 68 = .ok (.iload 4, 2) := by decide +kernel
theorem dX6_mostCommon_70 : decode cX6_mostCommon 70 = .ok (.goto 4, 3) := by decide +kernel
theorem dX6_mostCommon_73 : decode cX6_mostCommon 73 = .ok (.iload_n 2, 1) := by decide +kernel
theorem dX6_mostCommon_74 : decode cX6_mostCommon 74 = .ok (.istore_n 2, 1) := by decide +kernel
theorem dX6_mostCommon_75 : decode cX6_mostCommon 75 = .ok (.iload 5, 2) := by decide +kernel
theorem dX6_mostCommon_77 : decode cX6_mostCommon 77 = .ok (.iload_n 3, 1) := by decide +kernel
theorem dX6_mostCommon_78 : decode cX6_mostCommon 78 = .ok (.if_icmp .le 8, 3) := by decide +kernel
theorem dX6_mostCommon_81 : decode cX6_mostCommon 81 = .ok (.iload 5, 2) := by decide +kernel
theorem dX6_mostCommon_83 : decode cX6_mostCommon 83 = .ok (.goto 4, 3) := by decide +kernel
theorem dX6_mostCommon_86 : decode cX6_mostCommon 86 = .ok (.iload_n 3, 1) := by decide +kernel
theorem dX6_mostCommon_87 : decode cX6_mostCommon 87 = .ok (.istore_n 3, 1) := by decide +kernel
theorem dX6_mostCommon_88 : decode cX6_mostCommon 88 = .ok (.iinc 4 1, 3) := by decide +kernel
theorem dX6_mostCommon_91 : decode cX6_mostCommon 91 = .ok (.goto (-84), 3) := by decide +kernel
theorem dX6_mostCommon_94 : decode cX6_mostCommon 94 = .ok (.iload_n 1, 1) := by decide +kernel
theorem dX6_mostCommon_95 : decode cX6_mostCommon 95 = .ok (.ifCond .eq 7, 3) := by decide +kernel
theorem dX6_mostCommon_98 : decode cX6_mostCommon 98 = .ok (.iload_n 3, 1) := by decide +kernel
theorem dX6_mostCommon_99 : decode cX6_mostCommon 99 = .ok (.goto 4, 3) := by decide +kernel
theorem dX6_mostCommon_102 : decode cX6_mostCommon 102 = .ok (.iload_n 2, 1) := by decide +kernel
theorem dX6_mostCommon_103 : decode cX6_mostCommon 103 = .ok (.ireturn, 1) := by decide +kernel
set_option maxRecDepth 20000 in
theorem ggX6_overWindow_X6_laysTold : GoodIn wsX6_overWindow wsX6_laysTold := goodIn_r _ [6, 7, 8, 9, 1, 10, 11, 12, 5, 13, 14, 15, 16, 17, 18, 19, 20, 21, 22, 23, 24, 25, 26, 27, 28, 29, 30, 31, 32, 33, 34, 35, 36, 37, 38, 39, 40, 41, 42, 43, 44, 45, 46, 47, 48, 49, 50, 51, 52, 53, 54, 55, 60, 61, 62, 63, 64, 65, 66, 67, 68, 69, 70, 71, 72, 73, 74] (by decide +kernel) (by decide +kernel)
set_option maxRecDepth 20000 in
theorem gX6_overWindow_X6_laysTold : GoodIn wsX6_overWindow (wsV RX6 111 RX6 yX6_laysTold wsX6_laysTold) := goodIn_app (goodIn_of _ (by decide +kernel)) ggX6_overWindow_X6_laysTold
set_option maxRecDepth 20000 in
theorem ggX6_overWindow_X6_firstPlace : GoodIn wsX6_overWindow wsX6_firstPlace := goodIn_r _ [25, 7, 60, 61, 62, 63, 64, 65, 66, 67, 68, 69, 70, 71, 72, 73, 74] (by decide +kernel) (by decide +kernel)
set_option maxRecDepth 20000 in
theorem gX6_overWindow_X6_firstPlace : GoodIn wsX6_overWindow (wsV RX6 41 RX6 yX6_firstPlace wsX6_firstPlace) := goodIn_app (goodIn_of _ (by decide +kernel)) ggX6_overWindow_X6_firstPlace
set_option maxRecDepth 20000 in
theorem ggX6_overWindow_X6_lastPlace : GoodIn wsX6_overWindow wsX6_lastPlace := goodIn_r _ [29, 7, 22, 23, 24, 5, 25, 60, 61, 62, 63, 64, 65, 66, 67, 68, 69, 70, 71, 72, 73, 74] (by decide +kernel) (by decide +kernel)
set_option maxRecDepth 20000 in
theorem gX6_overWindow_X6_lastPlace : GoodIn wsX6_overWindow (wsV RX6 63 RX6 yX6_lastPlace wsX6_lastPlace) := goodIn_app (goodIn_of _ (by decide +kernel)) ggX6_overWindow_X6_lastPlace
set_option maxRecDepth 20000 in
theorem ggX6_overWindow_X6_isExplained : GoodIn wsX6_overWindow wsX6_isExplained := goodIn_r _ [59, 9, 7, 60, 61, 62, 63, 64, 65, 66, 67, 68, 69, 70, 71, 72, 73, 74] (by decide +kernel) (by decide +kernel)
set_option maxRecDepth 20000 in
theorem gX6_overWindow_X6_isExplained : GoodIn wsX6_overWindow (wsV RX6 114 RX6 yX6_isExplained wsX6_isExplained) := goodIn_app (goodIn_of _ (by decide +kernel)) ggX6_overWindow_X6_isExplained
theorem dX6_overWindow_0 : decode cX6_overWindow 0 = .ok (.aload_n 0, 1) := by decide +kernel
theorem dX6_overWindow_1 : decode cX6_overWindow 1 = .ok (.invokevirtual 111, 3) := by decide +kernel
theorem dX6_overWindow_4 : decode cX6_overWindow 4 = .ok (.iconst 0, 1) := by decide +kernel
theorem dX6_overWindow_5 : decode cX6_overWindow 5 = .ok (.istore_n 2, 1) := by decide +kernel
theorem dX6_overWindow_6 : decode cX6_overWindow 6 = .ok (.iconst 0, 1) := by decide +kernel
theorem dX6_overWindow_7 : decode cX6_overWindow 7 = .ok (.istore_n 3, 1) := by decide +kernel
theorem dX6_overWindow_8 : decode cX6_overWindow 8 = .ok (.iconst 0, 1) := by decide +kernel
theorem dX6_overWindow_9 : decode cX6_overWindow 9 = .ok (.istore 4, 2) := by decide +kernel
theorem dX6_overWindow_11 : decode cX6_overWindow 11 = .ok (.aload_n 0, 1) := by decide +kernel
theorem dX6_overWindow_12 : decode cX6_overWindow 12 = .ok (.invokevirtual 41, 3) := by decide +kernel
theorem dX6_overWindow_15 : decode cX6_overWindow 15 = .ok (.istore 5, 2) := by decide +kernel
theorem dX6_overWindow_17 : decode cX6_overWindow 17 = .ok (.iload 5, 2) := by decide +kernel
theorem dX6_overWindow_19 : decode cX6_overWindow 19 = .ok (.aload_n 0, 1) := by decide +kernel
theorem dX6_overWindow_20 : decode cX6_overWindow 20 = .ok (.invokevirtual 63, 3) := by decide +kernel
theorem dX6_overWindow_23 : decode cX6_overWindow 23 = .ok (.if_icmp .ge 81, 3) := by decide +kernel
theorem dX6_overWindow_26 : decode cX6_overWindow 26 = .ok (.iload_n 2, 1) := by decide +kernel
theorem dX6_overWindow_27 : decode cX6_overWindow 27 = .ok (.iload_n 1, 1) := by decide +kernel
theorem dX6_overWindow_28 : decode cX6_overWindow 28 = .ok (.iconst 4, 1) := by decide +kernel
theorem dX6_overWindow_29 : decode cX6_overWindow 29 = .ok (.if_icmp .ne 20, 3) := by decide +kernel
theorem dX6_overWindow_32 : decode cX6_overWindow 32 = .ok (.aload_n 0, 1) := by decide +kernel
theorem dX6_overWindow_33 : decode cX6_overWindow 33 = .ok (.iload 5, 2) := by decide +kernel
theorem dX6_overWindow_35 : decode cX6_overWindow 35 = .ok (.invokevirtual 114, 3) := by decide +kernel
theorem dX6_overWindow_38 : decode cX6_overWindow 38 = .ok (.ifCond .eq 7, 3) := by decide +kernel
theorem dX6_overWindow_41 : decode cX6_overWindow 41 = .ok (.iconst 1, 1) := by decide +kernel
theorem dX6_overWindow_42 : decode cX6_overWindow 42 = .ok (.goto 23, 3) := by decide +kernel
theorem dX6_overWindow_45 : decode cX6_overWindow 45 = .ok (.iconst 0, 1) := by decide +kernel
theorem dX6_overWindow_46 : decode cX6_overWindow 46 = .ok (.goto 19, 3) := by decide +kernel
theorem dX6_overWindow_49 : decode cX6_overWindow 49 = .ok (.aload_n 0, 1) := by decide +kernel
theorem dX6_overWindow_50 : decode cX6_overWindow 50 = .ok (.getfield 28, 3) := by decide +kernel
theorem dX6_overWindow_53 : decode cX6_overWindow 53 = .ok (.iload 5, 2) := by decide +kernel
theorem dX6_overWindow_55 : decode cX6_overWindow 55 = .ok (.iaload, 1) := by decide +kernel
theorem dX6_overWindow_56 : decode cX6_overWindow 56 = .ok (.iconst (-1), 1) := by decide +kernel
theorem dX6_overWindow_57 : decode cX6_overWindow 57 = .ok (.if_icmp .ne 7, 3) := by decide +kernel
theorem dX6_overWindow_60 : decode cX6_overWindow 60 = .ok (.iconst 1, 1) := by decide +kernel
theorem dX6_overWindow_61 : decode cX6_overWindow 61 = .ok (.goto 4, 3) := by decide +kernel
theorem dX6_overWindow_64 : decode cX6_overWindow 64 = .ok (.iconst 0, 1) := by decide +kernel
theorem dX6_overWindow_65 : decode cX6_overWindow 65 = .ok (.iadd, 1) := by decide +kernel
theorem dX6_overWindow_66 : decode cX6_overWindow 66 = .ok (.istore_n 2, 1) := by decide +kernel
theorem dX6_overWindow_67 : decode cX6_overWindow 67 = .ok (.aload_n 0, 1) := by decide +kernel
theorem dX6_overWindow_68 : decode cX6_overWindow 68 = .ok (.iload 5, 2) := by decide +kernel
theorem dX6_overWindow_70 : decode cX6_overWindow 70 = .ok (.invokevirtual 114, 3) := by decide +kernel
theorem dX6_overWindow_73 : decode cX6_overWindow 73 = .ok (.ifCond .eq 9, 3) := by decide +kernel
theorem dX6_overWindow_76 : decode cX6_overWindow 76 = .ok (.iload_n 3, 1) := by decide +kernel
theorem dX6_overWindow_77 : decode cX6_overWindow 77 = .ok (.iconst 1, 1) := by decide +kernel
theorem dX6_overWindow_78 : decode cX6_overWindow 78 = .ok (.iadd, 1) := by decide +kernel
theorem dX6_overWindow_79 : decode cX6_overWindow 79 = .ok (.goto 4, 3) := by decide +kernel
theorem dX6_overWindow_82 : decode cX6_overWindow 82 = .ok (.iconst 0, 1) := by decide +kernel
theorem dX6_overWindow_83 : decode cX6_overWindow 83 = .ok (.istore_n 3, 1) := by decide +kernel
theorem dX6_overWindow_84 : decode cX6_overWindow 84 = .ok (.iload_n 3, 1) := by decide +kernel
theorem dX6_overWindow_85 : decode cX6_overWindow 85 = .ok (.iload 4, 2) := by decide +kernel
theorem dX6_overWindow_87 : decode cX6_overWindow 87 = .ok (.if_icmp .le 7, 3) := by decide +kernel
theorem dX6_overWindow_90 : decode cX6_overWindow 90 = .ok (.iload_n 3, 1) := by decide +kernel
theorem dX6_overWindow_91 : decode cX6_overWindow 91 = .ok (.goto 5, 3) := by decide +kernel
theorem dX6_overWindow_94 : decode cX6_overWindow 94 = .ok (.iload 4, 2) := by decide +kernel
theorem dX6_overWindow_96 : decode cX6_overWindow 96 = .ok (.istore 4, 2) := by decide +kernel
theorem dX6_overWindow_98 : decode cX6_overWindow 98 = .ok (.iinc 5 1, 3) := by decide +kernel
theorem dX6_overWindow_101 : decode cX6_overWindow 101 = .ok (.goto (-84), 3) := by decide +kernel
theorem dX6_overWindow_104 : decode cX6_overWindow 104 = .ok (.iload_n 1, 1) := by decide +kernel
theorem dX6_overWindow_105 : decode cX6_overWindow 105 = .ok (.bipush 8, 2) := by decide +kernel
theorem dX6_overWindow_107 : decode cX6_overWindow 107 = .ok (.if_icmp .ne 8, 3) := by decide +kernel
theorem dX6_overWindow_110 : decode cX6_overWindow 110 = .ok (.iload 4, 2) := by decide +kernel
theorem dX6_overWindow_112 : decode cX6_overWindow 112 = .ok (.goto 4, 3) := by decide +kernel
theorem dX6_overWindow_115 : decode cX6_overWindow 115 = .ok (.iload_n 2, 1) := by decide +kernel
theorem dX6_overWindow_116 : decode cX6_overWindow 116 = .ok (.ireturn, 1) := by decide +kernel
set_option maxRecDepth 20000 in
theorem ggX6_tellsCount_X6_lastPlace : GoodIn wsX6_tellsCount wsX6_lastPlace := goodIn_r _ [7, 1, 8, 9, 10, 6, 11, 69, 70, 71, 72, 73, 74, 75, 76, 77, 78, 79, 80, 81, 82, 83] (by decide +kernel) (by decide +kernel)
set_option maxRecDepth 20000 in
theorem gX6_tellsCount_X6_lastPlace : GoodIn wsX6_tellsCount (wsV RX6 63 RX6 yX6_lastPlace wsX6_lastPlace) := goodIn_app (goodIn_of _ (by decide +kernel)) ggX6_tellsCount_X6_lastPlace
set_option maxRecDepth 20000 in
theorem ggX6_tellsCount_X6_firstPlace : GoodIn wsX6_tellsCount wsX6_firstPlace := goodIn_r _ [11, 1, 69, 70, 71, 72, 73, 74, 75, 76, 77, 78, 79, 80, 81, 82, 83] (by decide +kernel) (by decide +kernel)
set_option maxRecDepth 20000 in
theorem gX6_tellsCount_X6_firstPlace : GoodIn wsX6_tellsCount (wsV RX6 41 RX6 yX6_firstPlace wsX6_firstPlace) := goodIn_app (goodIn_of _ (by decide +kernel)) ggX6_tellsCount_X6_firstPlace
set_option maxRecDepth 20000 in
theorem ggX6_tellsCount_X6_overWindow : GoodIn wsX6_tellsCount wsX6_overWindow := goodIn_r _ [15, 16, 17, 18, 19, 6, 20, 1, 21, 22, 23, 24, 25, 26, 27, 28, 29, 30, 31, 32, 33, 34, 8, 9, 10, 11, 3, 4, 5, 7, 35, 36, 37, 38, 39, 40, 41, 42, 43, 44, 45, 46, 47, 48, 49, 50, 51, 52, 53, 54, 55, 56, 57, 58, 59, 60, 61, 62, 63, 64, 69, 70, 71, 72, 73, 74, 75, 76, 77, 78, 79, 80, 81, 82, 83] (by decide +kernel) (by decide +kernel)
set_option maxRecDepth 20000 in
theorem gX6_tellsCount_X6_overWindow : GoodIn wsX6_tellsCount (wsV RX6 161 RX6 yX6_overWindow wsX6_overWindow) := goodIn_app (goodIn_of _ (by decide +kernel)) ggX6_tellsCount_X6_overWindow
set_option maxRecDepth 20000 in
theorem ggX6_tellsCount_X6_mostCommon : GoodIn wsX6_tellsCount wsX6_mostCommon := goodIn_r _ [68, 1, 8, 9, 10, 6, 11, 3, 4, 5, 7, 69, 70, 71, 72, 73, 74, 75, 76, 77, 78, 79, 80, 81, 82, 83] (by decide +kernel) (by decide +kernel)
set_option maxRecDepth 20000 in
theorem gX6_tellsCount_X6_mostCommon : GoodIn wsX6_tellsCount (wsV RX6 142 RX6 yX6_mostCommon wsX6_mostCommon) := goodIn_app (goodIn_of _ (by decide +kernel)) ggX6_tellsCount_X6_mostCommon
theorem dX6_tellsCount_0 : decode cX6_tellsCount 0 = .ok (.iload_n 1, 1) := by decide +kernel
theorem dX6_tellsCount_1 : decode cX6_tellsCount 1 = .ok (.tableswitch 102 0 8 #[51, 58, 68, 73, 80, 80, 86, 86, 80], 51) := by decide +kernel
theorem dX6_tellsCount_52 : decode cX6_tellsCount 52 = .ok (.aload_n 0, 1) := by decide +kernel
theorem dX6_tellsCount_53 : decode cX6_tellsCount 53 = .ok (.getfield 7, 3) := by decide +kernel
theorem dX6_tellsCount_56 : decode cX6_tellsCount 56 = .ok (.iconst 0, 1) := by decide +kernel
theorem dX6_tellsCount_57 : decode cX6_tellsCount 57 = .ok (.iaload, 1) := by decide +kernel
theorem dX6_tellsCount_58 : decode cX6_tellsCount 58 = .ok (.ireturn, 1) := by decide +kernel
theorem dX6_tellsCount_59 : decode cX6_tellsCount 59 = .ok (.aload_n 0, 1) := by decide +kernel
theorem dX6_tellsCount_60 : decode cX6_tellsCount 60 = .ok (.invokevirtual 63, 3) := by decide +kernel
theorem dX6_tellsCount_63 : decode cX6_tellsCount 63 = .ok (.aload_n 0, 1) := by decide +kernel
theorem dX6_tellsCount_64 : decode cX6_tellsCount 64 = .ok (.invokevirtual 41, 3) := by decide +kernel
theorem dX6_tellsCount_67 : decode cX6_tellsCount 67 = .ok (.isub, 1) := by decide +kernel
theorem dX6_tellsCount_68 : decode cX6_tellsCount 68 = .ok (.ireturn, 1) := by decide +kernel
theorem dX6_tellsCount_69 : decode cX6_tellsCount 69 = .ok (.aload_n 0, 1) := by decide +kernel
theorem dX6_tellsCount_70 : decode cX6_tellsCount 70 = .ok (.invokevirtual 41, 3) := by decide +kernel
theorem dX6_tellsCount_73 : decode cX6_tellsCount 73 = .ok (.ireturn, 1) := by decide +kernel
theorem dX6_tellsCount_74 : decode cX6_tellsCount 74 = .ok (.aload_n 0, 1) := by decide +kernel
theorem dX6_tellsCount_75 : decode cX6_tellsCount 75 = .ok (.getfield 7, 3) := by decide +kernel
theorem dX6_tellsCount_78 : decode cX6_tellsCount 78 = .ok (.iconst 4, 1) := by decide +kernel
theorem dX6_tellsCount_79 : decode cX6_tellsCount 79 = .ok (.iaload, 1) := by decide +kernel
theorem dX6_tellsCount_80 : decode cX6_tellsCount 80 = .ok (.ireturn, 1) := by decide +kernel
theorem dX6_tellsCount_81 : decode cX6_tellsCount 81 = .ok (.aload_n 0, 1) := by decide +kernel
theorem dX6_tellsCount_82 : decode cX6_tellsCount 82 = .ok (.iload_n 1, 1) := by decide +kernel
theorem dX6_tellsCount_83 : decode cX6_tellsCount 83 = .ok (.invokevirtual 161, 3) := by decide +kernel
theorem dX6_tellsCount_86 : decode cX6_tellsCount 86 = .ok (.ireturn, 1) := by decide +kernel
theorem dX6_tellsCount_87 : decode cX6_tellsCount 87 = .ok (.aload_n 0, 1) := by decide +kernel
theorem dX6_tellsCount_88 : decode cX6_tellsCount 88 = .ok (.iload_n 1, 1) := by decide +kernel
theorem dX6_tellsCount_89 : decode cX6_tellsCount 89 = .ok (.bipush 7, 2) := by decide +kernel
theorem dX6_tellsCount_91 : decode cX6_tellsCount 91 = .ok (.if_icmp .ne 7, 3) := by decide +kernel
theorem dX6_tellsCount_94 : decode cX6_tellsCount 94 = .ok (.iconst 1, 1) := by decide +kernel
theorem dX6_tellsCount_95 : decode cX6_tellsCount 95 = .ok (.goto 4, 3) := by decide +kernel
theorem dX6_tellsCount_98 : decode cX6_tellsCount 98 = .ok (.iconst 0, 1) := by decide +kernel
theorem dX6_tellsCount_99 : decode cX6_tellsCount 99 = .ok (.invokevirtual 142, 3) := by decide +kernel
theorem dX6_tellsCount_102 : decode cX6_tellsCount 102 = .ok (.ireturn, 1) := by decide +kernel
theorem dX6_tellsCount_103 : decode cX6_tellsCount 103 = .ok (.aload_n 0, 1) := by decide +kernel
theorem dX6_tellsCount_104 : decode cX6_tellsCount 104 = .ok (.getfield 38, 3) := by decide +kernel
theorem dX6_tellsCount_107 : decode cX6_tellsCount 107 = .ok (.ireturn, 1) := by decide +kernel
set_option maxRecDepth 20000 in
theorem ggX6_count_X6_in : GoodIn wsX6_count wsX6_in := goodIn_r _ [5] (by decide +kernel) (by decide +kernel)
set_option maxRecDepth 20000 in
theorem gX6_count_X6_in : GoodIn wsX6_count (va_wsS RX6 84 yX6_in wsX6_in) := goodIn_app (goodIn_of _ (by decide +kernel)) ggX6_count_X6_in
set_option maxRecDepth 20000 in
theorem ggX6_count_X6_tellsCount : GoodIn wsX6_count wsX6_tellsCount := goodIn_r _ [9, 10, 11, 12, 13, 14, 4, 15, 16, 17, 18, 19, 20, 21, 22, 23, 24, 25, 26, 27, 28, 29, 30, 31, 32, 33, 34, 35, 36, 37, 38, 39, 40, 41, 42, 43, 44, 45, 46, 47, 48, 49, 50, 51, 52, 53, 54, 55, 56, 57, 58, 59, 60, 61, 62, 63, 64, 65, 2, 3, 5, 66, 67, 68, 69, 70, 71, 72, 73, 78, 79, 80, 81, 82, 83, 84, 85, 86, 87, 88, 89, 90, 91, 92] (by decide +kernel) (by decide +kernel)
set_option maxRecDepth 20000 in
theorem gX6_count_X6_tellsCount : GoodIn wsX6_count (wsV RX6 164 RX6 yX6_tellsCount wsX6_tellsCount) := goodIn_app (goodIn_of _ (by decide +kernel)) ggX6_count_X6_tellsCount
set_option maxRecDepth 20000 in
theorem ggX6_count_X6_fails : GoodIn wsX6_count wsX6_fails := goodIn_r _ [77, 1, 78, 79, 80, 81, 82, 83, 84, 85, 86, 87, 88, 89, 90, 91, 92] (by decide +kernel) (by decide +kernel)
set_option maxRecDepth 20000 in
theorem gX6_count_X6_fails : GoodIn wsX6_count (wsV RX6 88 RX6 yX6_fails wsX6_fails) := goodIn_app (goodIn_of _ (by decide +kernel)) ggX6_count_X6_fails
theorem dX6_count_0 : decode cX6_count 0 = .ok (.aload_n 0, 1) := by decide +kernel
theorem dX6_count_1 : decode cX6_count 1 = .ok (.iconst 0, 1) := by decide +kernel
theorem dX6_count_2 : decode cX6_count 2 = .ok (.putfield 34, 3) := by decide +kernel
theorem dX6_count_5 : decode cX6_count 5 = .ok (.iload_n 1, 1) := by decide +kernel
theorem dX6_count_6 : decode cX6_count 6 = .ok (.iconst 0, 1) := by decide +kernel
theorem dX6_count_7 : decode cX6_count 7 = .ok (.bipush 9, 2) := by decide +kernel
theorem dX6_count_9 : decode cX6_count 9 = .ok (.invokestatic 84, 3) := by decide +kernel
theorem dX6_count_12 : decode cX6_count 12 = .ok (.ifCond .eq 11, 3) := by decide +kernel
theorem dX6_count_15 : decode cX6_count 15 = .ok (.aload_n 0, 1) := by decide +kernel
theorem dX6_count_16 : decode cX6_count 16 = .ok (.iload_n 1, 1) := by decide +kernel
theorem dX6_count_17 : decode cX6_count 17 = .ok (.invokevirtual 164, 3) := by decide +kernel
theorem dX6_count_20 : decode cX6_count 20 = .ok (.goto 8, 3) := by decide +kernel
theorem dX6_count_23 : decode cX6_count 23 = .ok (.aload_n 0, 1) := by decide +kernel
theorem dX6_count_24 : decode cX6_count 24 = .ok (.iconst 1, 1) := by decide +kernel
theorem dX6_count_25 : decode cX6_count 25 = .ok (.invokevirtual 88, 3) := by decide +kernel
theorem dX6_count_28 : decode cX6_count 28 = .ok (.ireturn, 1) := by decide +kernel
set_option maxRecDepth 20000 in
theorem ggX6_setting_X6_in : GoodIn wsX6_setting wsX6_in := goodIn_r _ [6] (by decide +kernel) (by decide +kernel)
set_option maxRecDepth 20000 in
theorem gX6_setting_X6_in : GoodIn wsX6_setting (va_wsS RX6 84 yX6_in wsX6_in) := goodIn_app (goodIn_of _ (by decide +kernel)) ggX6_setting_X6_in
set_option maxRecDepth 20000 in
theorem ggX6_setting_X6_fails : GoodIn wsX6_setting wsX6_fails := goodIn_r _ [10, 1, 11, 12, 13, 14, 15, 16, 17, 18, 19, 20, 21, 22, 23, 24, 25] (by decide +kernel) (by decide +kernel)
set_option maxRecDepth 20000 in
theorem gX6_setting_X6_fails : GoodIn wsX6_setting (wsV RX6 88 RX6 yX6_fails wsX6_fails) := goodIn_app (goodIn_of _ (by decide +kernel)) ggX6_setting_X6_fails
theorem dX6_setting_0 : decode cX6_setting 0 = .ok (.aload_n 0, 1) := by decide +kernel
theorem dX6_setting_1 : decode cX6_setting 1 = .ok (.iconst 0, 1) := by decide +kernel
theorem dX6_setting_2 : decode cX6_setting 2 = .ok (.putfield 34, 3) := by decide +kernel
theorem dX6_setting_5 : decode cX6_setting 5 = .ok (.iload_n 1, 1) := by decide +kernel
theorem dX6_setting_6 : decode cX6_setting 6 = .ok (.iconst 0, 1) := by decide +kernel
theorem dX6_setting_7 : decode cX6_setting 7 = .ok (.iconst 2, 1) := by decide +kernel
theorem dX6_setting_8 : decode cX6_setting 8 = .ok (.invokestatic 84, 3) := by decide +kernel
theorem dX6_setting_11 : decode cX6_setting 11 = .ok (.ifCond .eq 14, 3) := by decide +kernel
theorem dX6_setting_14 : decode cX6_setting 14 = .ok (.aload_n 0, 1) := by decide +kernel
theorem dX6_setting_15 : decode cX6_setting 15 = .ok (.getfield 7, 3) := by decide +kernel
theorem dX6_setting_18 : decode cX6_setting 18 = .ok (.iconst 1, 1) := by decide +kernel
theorem dX6_setting_19 : decode cX6_setting 19 = .ok (.iload_n 1, 1) := by decide +kernel
theorem dX6_setting_20 : decode cX6_setting 20 = .ok (.iadd, 1) := by decide +kernel
theorem dX6_setting_21 : decode cX6_setting 21 = .ok (.iaload, 1) := by decide +kernel
theorem dX6_setting_22 : decode cX6_setting 22 = .ok (.goto 8, 3) := by decide +kernel
theorem dX6_setting_25 : decode cX6_setting 25 = .ok (.aload_n 0, 1) := by decide +kernel
theorem dX6_setting_26 : decode cX6_setting 26 = .ok (.iconst 1, 1) := by decide +kernel
theorem dX6_setting_27 : decode cX6_setting 27 = .ok (.invokevirtual 88, 3) := by decide +kernel
theorem dX6_setting_30 : decode cX6_setting 30 = .ok (.ireturn, 1) := by decide +kernel
set_option maxRecDepth 20000 in
theorem ggX6_explains_X6_isPeriod : GoodIn wsX6_explains wsX6_isPeriod := goodIn_r _ [5, 6, 7, 4, 8] (by decide +kernel) (by decide +kernel)
set_option maxRecDepth 20000 in
theorem gX6_explains_X6_isPeriod : GoodIn wsX6_explains (va_wsS RX6 94 yX6_isPeriod wsX6_isPeriod) := goodIn_app (goodIn_of _ (by decide +kernel)) ggX6_explains_X6_isPeriod
set_option maxRecDepth 20000 in
theorem ggX6_explains_X6_explainedNow : GoodIn wsX6_explains wsX6_explainedNow := goodIn_r _ [12, 13, 14, 15, 4, 16, 17, 18, 19, 20, 21, 22, 23, 24, 25, 26, 27, 28, 29, 30, 31, 32, 33, 34, 35, 36, 37, 38, 39, 40, 45, 46, 47, 48, 49, 50, 51, 52, 53, 54, 55, 56, 57, 58, 59] (by decide +kernel) (by decide +kernel)
set_option maxRecDepth 20000 in
theorem gX6_explains_X6_explainedNow : GoodIn wsX6_explains (wsV RX6 105 RX6 yX6_explainedNow wsX6_explainedNow) := goodIn_app (goodIn_of _ (by decide +kernel)) ggX6_explains_X6_explainedNow
set_option maxRecDepth 20000 in
theorem ggX6_explains_X6_fails : GoodIn wsX6_explains wsX6_fails := goodIn_r _ [44, 1, 45, 46, 47, 48, 49, 50, 51, 52, 53, 54, 55, 56, 57, 58, 59] (by decide +kernel) (by decide +kernel)
set_option maxRecDepth 20000 in
theorem gX6_explains_X6_fails : GoodIn wsX6_explains (wsV RX6 88 RX6 yX6_fails wsX6_fails) := goodIn_app (goodIn_of _ (by decide +kernel)) ggX6_explains_X6_fails
theorem dX6_explains_0 : decode cX6_explains 0 = .ok (.aload_n 0, 1) := by decide +kernel
theorem dX6_explains_1 : decode cX6_explains 1 = .ok (.iconst 0, 1) := by decide +kernel
theorem dX6_explains_2 : decode cX6_explains 2 = .ok (.putfield 34, 3) := by decide +kernel
theorem dX6_explains_5 : decode cX6_explains 5 = .ok (.iload_n 1, 1) := by decide +kernel
theorem dX6_explains_6 : decode cX6_explains 6 = .ok (.iload_n 2, 1) := by decide +kernel
theorem dX6_explains_7 : decode cX6_explains 7 = .ok (.invokestatic 94, 3) := by decide +kernel
theorem dX6_explains_10 : decode cX6_explains 10 = .ok (.ifCond .eq 12, 3) := by decide +kernel
theorem dX6_explains_13 : decode cX6_explains 13 = .ok (.aload_n 0, 1) := by decide +kernel
theorem dX6_explains_14 : decode cX6_explains 14 = .ok (.iload_n 1, 1) := by decide +kernel
theorem dX6_explains_15 : decode cX6_explains 15 = .ok (.iload_n 2, 1) := by decide +kernel
theorem dX6_explains_16 : decode cX6_explains 16 = .ok (.invokevirtual 105, 3) := by decide +kernel
theorem dX6_explains_19 : decode cX6_explains 19 = .ok (.goto 8, 3) := by decide +kernel
theorem dX6_explains_22 : decode cX6_explains 22 = .ok (.aload_n 0, 1) := by decide +kernel
theorem dX6_explains_23 : decode cX6_explains 23 = .ok (.iconst 1, 1) := by decide +kernel
theorem dX6_explains_24 : decode cX6_explains 24 = .ok (.invokevirtual 88, 3) := by decide +kernel
theorem dX6_explains_27 : decode cX6_explains 27 = .ok (.ireturn, 1) := by decide +kernel
set_option maxRecDepth 20000 in
theorem ggX6_best_X6_in : GoodIn wsX6_best wsX6_in := goodIn_r _ [5] (by decide +kernel) (by decide +kernel)
set_option maxRecDepth 20000 in
theorem gX6_best_X6_in : GoodIn wsX6_best (va_wsS RX6 84 yX6_in wsX6_in) := goodIn_app (goodIn_of _ (by decide +kernel)) ggX6_best_X6_in
set_option maxRecDepth 20000 in
theorem ggX6_best_X6_bestOf : GoodIn wsX6_best wsX6_bestOf := goodIn_r _ [9, 10, 11, 12, 4, 13, 14, 15, 16, 17, 18, 19, 20, 21, 22, 23, 24, 25, 26, 27, 28, 29, 30, 31, 32, 33, 34, 35, 36, 37, 38, 39, 40, 41, 46, 47, 48, 49, 50, 51, 52, 53, 54, 55, 56, 57, 58, 59, 60] (by decide +kernel) (by decide +kernel)
set_option maxRecDepth 20000 in
theorem gX6_best_X6_bestOf : GoodIn wsX6_best (wsV RX6 108 RX6 yX6_bestOf wsX6_bestOf) := goodIn_app (goodIn_of _ (by decide +kernel)) ggX6_best_X6_bestOf
set_option maxRecDepth 20000 in
theorem ggX6_best_X6_fails : GoodIn wsX6_best wsX6_fails := goodIn_r _ [45, 1, 46, 47, 48, 49, 50, 51, 52, 53, 54, 55, 56, 57, 58, 59, 60] (by decide +kernel) (by decide +kernel)
set_option maxRecDepth 20000 in
theorem gX6_best_X6_fails : GoodIn wsX6_best (wsV RX6 88 RX6 yX6_fails wsX6_fails) := goodIn_app (goodIn_of _ (by decide +kernel)) ggX6_best_X6_fails
theorem dX6_best_0 : decode cX6_best 0 = .ok (.aload_n 0, 1) := by decide +kernel
theorem dX6_best_1 : decode cX6_best 1 = .ok (.iconst 0, 1) := by decide +kernel
theorem dX6_best_2 : decode cX6_best 2 = .ok (.putfield 34, 3) := by decide +kernel
theorem dX6_best_5 : decode cX6_best 5 = .ok (.iload_n 1, 1) := by decide +kernel
theorem dX6_best_6 : decode cX6_best 6 = .ok (.bipush 10, 2) := by decide +kernel
theorem dX6_best_8 : decode cX6_best 8 = .ok (.sipush 400, 3) := by decide +kernel
theorem dX6_best_11 : decode cX6_best 11 = .ok (.invokestatic 84, 3) := by decide +kernel
theorem dX6_best_14 : decode cX6_best 14 = .ok (.ifCond .eq 23, 3) := by decide +kernel
theorem dX6_best_17 : decode cX6_best 17 = .ok (.iload_n 2, 1) := by decide +kernel
theorem dX6_best_18 : decode cX6_best 18 = .ok (.iload_n 1, 1) := by decide +kernel
theorem dX6_best_19 : decode cX6_best 19 = .ok (.sipush 400, 3) := by decide +kernel
theorem dX6_best_22 : decode cX6_best 22 = .ok (.invokestatic 84, 3) := by decide +kernel
theorem dX6_best_25 : decode cX6_best 25 = .ok (.ifCond .eq 12, 3) := by decide +kernel
theorem dX6_best_28 : decode cX6_best 28 = .ok (.aload_n 0, 1) := by decide +kernel
theorem dX6_best_29 : decode cX6_best 29 = .ok (.iload_n 1, 1) := by decide +kernel
theorem dX6_best_30 : decode cX6_best 30 = .ok (.iload_n 2, 1) := by decide +kernel
theorem dX6_best_31 : decode cX6_best 31 = .ok (.invokevirtual 108, 3) := by decide +kernel
theorem dX6_best_34 : decode cX6_best 34 = .ok (.goto 8, 3) := by decide +kernel
theorem dX6_best_37 : decode cX6_best 37 = .ok (.aload_n 0, 1) := by decide +kernel
theorem dX6_best_38 : decode cX6_best 38 = .ok (.iconst 1, 1) := by decide +kernel
theorem dX6_best_39 : decode cX6_best 39 = .ok (.invokevirtual 88, 3) := by decide +kernel
theorem dX6_best_42 : decode cX6_best 42 = .ok (.ireturn, 1) := by decide +kernel
set_option maxRecDepth 20000 in
theorem ggX6_phaseFor_X6_explainedNow : GoodIn wsX6_phaseFor wsX6_explainedNow := goodIn_r _ [5, 6, 7, 8, 4, 9, 10, 11, 12, 13, 14, 15, 16, 17, 18, 19, 20, 21, 22, 23, 24, 25, 26, 27, 28, 29, 30, 31, 32, 33, 34, 35, 36, 37, 38, 39, 40, 41, 42, 43, 44, 45, 46, 47, 48] (by decide +kernel) (by decide +kernel)
set_option maxRecDepth 20000 in
theorem gX6_phaseFor_X6_explainedNow : GoodIn wsX6_phaseFor (wsV RX6 105 RX6 yX6_explainedNow wsX6_explainedNow) := goodIn_app (goodIn_of _ (by decide +kernel)) ggX6_phaseFor_X6_explainedNow
theorem dX6_phaseFor_0 : decode cX6_phaseFor 0 = .ok (.iconst 0, 1) := by decide +kernel
theorem dX6_phaseFor_1 : decode cX6_phaseFor 1 = .ok (.istore_n 2, 1) := by decide +kernel
theorem dX6_phaseFor_2 : decode cX6_phaseFor 2 = .ok (.aload_n 0, 1) := by decide +kernel
theorem dX6_phaseFor_3 : decode cX6_phaseFor 3 = .ok (.iload_n 1, 1) := by decide +kernel
theorem dX6_phaseFor_4 : decode cX6_phaseFor 4 = .ok (.iconst 0, 1) := by decide +kernel
theorem dX6_phaseFor_5 : decode cX6_phaseFor 5 = .ok (.invokevirtual 105, 3) := by decide +kernel
theorem dX6_phaseFor_8 : decode cX6_phaseFor 8 = .ok (.istore_n 3, 1) := by decide +kernel
theorem dX6_phaseFor_9 : decode cX6_phaseFor 9 = .ok (.iconst 1, 1) := by decide +kernel
theorem dX6_phaseFor_10 : decode cX6_phaseFor 10 = .ok (.istore 4, 2) := by decide +kernel
theorem dX6_phaseFor_12 : decode cX6_phaseFor 12 = .ok (.iload 4, 2) := by decide +kernel
theorem dX6_phaseFor_14 : decode cX6_phaseFor 14 = .ok (.iload_n 1, 1) := by decide +kernel
theorem dX6_phaseFor_15 : decode cX6_phaseFor 15 = .ok (.if_icmp .ge 44, 3) := by decide +kernel
theorem dX6_phaseFor_18 : decode cX6_phaseFor 18 = .ok (.aload_n 0, 1) := by decide +kernel
theorem dX6_phaseFor_19 : decode cX6_phaseFor 19 = .ok (.iload_n 1, 1) := by decide +kernel
theorem dX6_phaseFor_20 : decode cX6_phaseFor 20 = .ok (.iload 4, 2) := by decide +kernel
theorem dX6_phaseFor_22 : decode cX6_phaseFor 22 = .ok (.invokevirtual 105, 3) := by decide +kernel
theorem dX6_phaseFor_25 : decode cX6_phaseFor 25 = .ok (.istore 5, 2) := by decide +kernel
theorem dX6_phaseFor_27 : decode cX6_phaseFor 27 = .ok (.iload 5, 2) := by decide +kernel
theorem dX6_phaseFor_29 : decode cX6_phaseFor 29 = .ok (.iload_n 3, 1) := by decide +kernel
theorem dX6_phaseFor_30 : decode cX6_phaseFor 30 = .ok (.if_icmp .le 8, 3) := by decide +kernel
theorem dX6_phaseFor_33 : decode cX6_phaseFor 33 = .ok (.iload 4, 2) := by decide +kernel
theorem dX6_phaseFor_35 : decode cX6_phaseFor 35 = .ok (.goto 4, 3) := by decide +kernel
theorem dX6_phaseFor_38 : decode cX6_phaseFor 38 = .ok (.iload_n 2, 1) := by decide +kernel
theorem dX6_phaseFor_39 : decode cX6_phaseFor 39 = .ok (.istore_n 2, 1) := by decide +kernel
theorem dX6_phaseFor_40 : decode cX6_phaseFor 40 = .ok (.iload 5, 2) := by decide +kernel
theorem dX6_phaseFor_42 : decode cX6_phaseFor 42 = .ok (.iload_n 3, 1) := by decide +kernel
theorem dX6_phaseFor_43 : decode cX6_phaseFor 43 = .ok (.if_icmp .le 8, 3) := by decide +kernel
theorem dX6_phaseFor_46 : decode cX6_phaseFor 46 = .ok (.iload 5, 2) := by decide +kernel
theorem dX6_phaseFor_48 : decode cX6_phaseFor 48 = .ok (.goto 4, 3) := by decide +kernel
theorem dX6_phaseFor_51 : decode cX6_phaseFor 51 = .ok (.iload_n 3, 1) := by decide +kernel
theorem dX6_phaseFor_52 : decode cX6_phaseFor 52 = .ok (.istore_n 3, 1) := by decide +kernel
theorem dX6_phaseFor_53 : decode cX6_phaseFor 53 = .ok (.iinc 4 1, 3) := by decide +kernel
theorem dX6_phaseFor_56 : decode cX6_phaseFor 56 = .ok (.goto (-44), 3) := by decide +kernel
theorem dX6_phaseFor_59 : decode cX6_phaseFor 59 = .ok (.iload_n 2, 1) := by decide +kernel
theorem dX6_phaseFor_60 : decode cX6_phaseFor 60 = .ok (.ireturn, 1) := by decide +kernel
set_option maxRecDepth 20000 in
theorem ggX6_bestPhase_X6_in : GoodIn wsX6_bestPhase wsX6_in := goodIn_r _ [5] (by decide +kernel) (by decide +kernel)
set_option maxRecDepth 20000 in
theorem gX6_bestPhase_X6_in : GoodIn wsX6_bestPhase (va_wsS RX6 84 yX6_in wsX6_in) := goodIn_app (goodIn_of _ (by decide +kernel)) ggX6_bestPhase_X6_in
set_option maxRecDepth 20000 in
theorem ggX6_bestPhase_X6_phaseFor : GoodIn wsX6_bestPhase wsX6_phaseFor := goodIn_r _ [9, 10, 11, 12, 4, 13, 14, 15, 16, 17, 18, 19, 20, 21, 22, 23, 24, 25, 26, 27, 28, 29, 30, 31, 32, 33, 34, 35, 36, 37, 38, 39, 40, 41, 46, 47, 48, 49, 50, 51, 52, 53, 54, 55, 56, 57, 58, 59, 60] (by decide +kernel) (by decide +kernel)
set_option maxRecDepth 20000 in
theorem gX6_bestPhase_X6_phaseFor : GoodIn wsX6_bestPhase (wsV RX6 167 RX6 yX6_phaseFor wsX6_phaseFor) := goodIn_app (goodIn_of _ (by decide +kernel)) ggX6_bestPhase_X6_phaseFor
set_option maxRecDepth 20000 in
theorem ggX6_bestPhase_X6_fails : GoodIn wsX6_bestPhase wsX6_fails := goodIn_r _ [45, 1, 46, 47, 48, 49, 50, 51, 52, 53, 54, 55, 56, 57, 58, 59, 60] (by decide +kernel) (by decide +kernel)
set_option maxRecDepth 20000 in
theorem gX6_bestPhase_X6_fails : GoodIn wsX6_bestPhase (wsV RX6 88 RX6 yX6_fails wsX6_fails) := goodIn_app (goodIn_of _ (by decide +kernel)) ggX6_bestPhase_X6_fails
theorem dX6_bestPhase_0 : decode cX6_bestPhase 0 = .ok (.aload_n 0, 1) := by decide +kernel
theorem dX6_bestPhase_1 : decode cX6_bestPhase 1 = .ok (.iconst 0, 1) := by decide +kernel
theorem dX6_bestPhase_2 : decode cX6_bestPhase 2 = .ok (.putfield 34, 3) := by decide +kernel
theorem dX6_bestPhase_5 : decode cX6_bestPhase 5 = .ok (.iload_n 1, 1) := by decide +kernel
theorem dX6_bestPhase_6 : decode cX6_bestPhase 6 = .ok (.bipush 10, 2) := by decide +kernel
theorem dX6_bestPhase_8 : decode cX6_bestPhase 8 = .ok (.sipush 400, 3) := by decide +kernel
theorem dX6_bestPhase_11 : decode cX6_bestPhase 11 = .ok (.invokestatic 84, 3) := by decide +kernel
theorem dX6_bestPhase_14 : decode cX6_bestPhase 14 = .ok (.ifCond .eq 11, 3) := by decide +kernel
theorem dX6_bestPhase_17 : decode cX6_bestPhase 17 = .ok (.aload_n 0, 1) := by decide +kernel
theorem dX6_bestPhase_18 : decode cX6_bestPhase 18 = .ok (.iload_n 1, 1) := by decide +kernel
theorem dX6_bestPhase_19 : decode cX6_bestPhase 19 = .ok (.invokevirtual 167, 3) := by decide +kernel
theorem dX6_bestPhase_22 : decode cX6_bestPhase 22 = .ok (.goto 8, 3) := by decide +kernel
theorem dX6_bestPhase_25 : decode cX6_bestPhase 25 = .ok (.aload_n 0, 1) := by decide +kernel
theorem dX6_bestPhase_26 : decode cX6_bestPhase 26 = .ok (.iconst 1, 1) := by decide +kernel
theorem dX6_bestPhase_27 : decode cX6_bestPhase 27 = .ok (.invokevirtual 88, 3) := by decide +kernel
theorem dX6_bestPhase_30 : decode cX6_bestPhase 30 = .ok (.ireturn, 1) := by decide +kernel
set_option maxRecDepth 20000 in
theorem ggX6_windowFor_X6_explained : GoodIn wsX6_windowFor wsX6_explained := goodIn_r _ [6, 7, 8, 9, 10, 5, 11, 1, 12, 13, 14, 15, 16, 17, 18, 19, 20, 21, 22, 23, 24, 25, 26, 27, 28, 29, 30, 31, 32, 33, 34, 35, 36] (by decide +kernel) (by decide +kernel)
set_option maxRecDepth 20000 in
theorem gX6_windowFor_X6_explained : GoodIn wsX6_windowFor (wsV RX6 66 RX6 yX6_explained wsX6_explained) := goodIn_app (goodIn_of _ (by decide +kernel)) ggX6_windowFor_X6_explained
theorem dX6_windowFor_0 : decode cX6_windowFor 0 = .ok (.iconst (-1), 1) := by decide +kernel
theorem dX6_windowFor_1 : decode cX6_windowFor 1 = .ok (.istore_n 3, 1) := by decide +kernel
theorem dX6_windowFor_2 : decode cX6_windowFor 2 = .ok (.iconst (-1), 1) := by decide +kernel
theorem dX6_windowFor_3 : decode cX6_windowFor 3 = .ok (.istore 4, 2) := by decide +kernel
theorem dX6_windowFor_5 : decode cX6_windowFor 5 = .ok (.iconst 0, 1) := by decide +kernel
theorem dX6_windowFor_6 : decode cX6_windowFor 6 = .ok (.istore 5, 2) := by decide +kernel
theorem dX6_windowFor_8 : decode cX6_windowFor 8 = .ok (.iload 5, 2) := by decide +kernel
theorem dX6_windowFor_10 : decode cX6_windowFor 10 = .ok (.iload_n 2, 1) := by decide +kernel
theorem dX6_windowFor_11 : decode cX6_windowFor 11 = .ok (.iadd, 1) := by decide +kernel
theorem dX6_windowFor_12 : decode cX6_windowFor 12 = .ok (.aload_n 0, 1) := by decide +kernel
theorem dX6_windowFor_13 : decode cX6_windowFor 13 = .ok (.getfield 7, 3) := by decide +kernel
theorem dX6_windowFor_16 : decode cX6_windowFor 16 = .ok (.iconst 0, 1) := by decide +kernel
theorem dX6_windowFor_17 : decode cX6_windowFor 17 = .ok (.iaload, 1) := by decide +kernel
theorem dX6_windowFor_18 : decode cX6_windowFor 18 = .ok (.if_icmp .gt 53, 3) := by decide +kernel
theorem dX6_windowFor_21 : decode cX6_windowFor 21 = .ok (.aload_n 0, 1) := by decide +kernel
theorem dX6_windowFor_22 : decode cX6_windowFor 22 = .ok (.iload_n 1, 1) := by decide +kernel
theorem dX6_windowFor_23 : decode cX6_windowFor 23 = .ok (.iconst 0, 1) := by decide +kernel
theorem dX6_windowFor_24 : decode cX6_windowFor 24 = .ok (.iload 5, 2) := by decide +kernel
theorem dX6_windowFor_26 : decode cX6_windowFor 26 = .ok (.iload 5, 2) := by decide +kernel
theorem dX6_windowFor_28 : decode cX6_windowFor 28 = .ok (.iload_n 2, 1) := by decide +kernel
theorem dX6_windowFor_29 : decode cX6_windowFor 29 = .ok (.iadd, 1) := by decide +kernel
theorem dX6_windowFor_30 : decode cX6_windowFor 30 = .ok (.invokevirtual 66, 3) := by decide +kernel
theorem dX6_windowFor_33 : decode cX6_windowFor 33 = .ok (.istore 6, 2) := by decide +kernel
theorem dX6_windowFor_35 : decode cX6_windowFor 35 = .ok (.iload 6, 2) := by decide +kernel
theorem dX6_windowFor_37 : decode cX6_windowFor 37 = .ok (.iload 4, 2) := by decide +kernel
theorem dX6_windowFor_39 : decode cX6_windowFor 39 = .ok (.if_icmp .le 8, 3) := by decide +kernel
theorem dX6_windowFor_42 : decode cX6_windowFor 42 = .ok (.iload 5, 2) := by decide +kernel
theorem dX6_windowFor_44 : decode cX6_windowFor 44 = .ok (.goto 4, 3) := by decide +kernel
theorem dX6_windowFor_47 : decode cX6_windowFor 47 = .ok (.iload_n 3, 1) := by decide +kernel
theorem dX6_windowFor_48 : decode cX6_windowFor 48 = .ok (.istore_n 3, 1) := by decide +kernel
theorem dX6_windowFor_49 : decode cX6_windowFor 49 = .ok (.iload 6, 2) := by decide +kernel
theorem dX6_windowFor_51 : decode cX6_windowFor 51 = .ok (.iload 4, 2) := by decide +kernel
theorem dX6_windowFor_53 : decode cX6_windowFor 53 = .ok (.if_icmp .le 8, 3) := by decide +kernel
theorem dX6_windowFor_56 : decode cX6_windowFor 56 = .ok (.iload 6, 2) := by decide +kernel
theorem dX6_windowFor_58 : decode cX6_windowFor 58 = .ok (.goto 5, 3) := by decide +kernel
theorem dX6_windowFor_61 : decode cX6_windowFor 61 = .ok (.iload 4, 2) := by decide +kernel
theorem dX6_windowFor_63 : decode cX6_windowFor 63 = .ok (.istore 4, 2) := by decide +kernel
theorem dX6_windowFor_65 : decode cX6_windowFor 65 = .ok (.iinc 5 1, 3) := by decide +kernel
theorem dX6_windowFor_68 : decode cX6_windowFor 68 = .ok (.goto (-60), 3) := by decide +kernel
theorem dX6_windowFor_71 : decode cX6_windowFor 71 = .ok (.iload_n 3, 1) := by decide +kernel
theorem dX6_windowFor_72 : decode cX6_windowFor 72 = .ok (.ireturn, 1) := by decide +kernel
set_option maxRecDepth 20000 in
theorem ggX6_bestWindow_X6_in : GoodIn wsX6_bestWindow wsX6_in := goodIn_r _ [5] (by decide +kernel) (by decide +kernel)
set_option maxRecDepth 20000 in
theorem gX6_bestWindow_X6_in : GoodIn wsX6_bestWindow (va_wsS RX6 84 yX6_in wsX6_in) := goodIn_app (goodIn_of _ (by decide +kernel)) ggX6_bestWindow_X6_in
set_option maxRecDepth 20000 in
theorem ggX6_bestWindow_X6_windowFor : GoodIn wsX6_bestWindow wsX6_windowFor := goodIn_r _ [9, 10, 11, 12, 13, 4, 14, 15, 16, 17, 18, 19, 20, 21, 22, 23, 24, 25, 26, 27, 28, 29, 34, 35, 36, 37, 38, 39, 40, 41, 42, 43, 44, 45, 46, 47, 48] (by decide +kernel) (by decide +kernel)
set_option maxRecDepth 20000 in
theorem gX6_bestWindow_X6_windowFor : GoodIn wsX6_bestWindow (wsV RX6 170 RX6 yX6_windowFor wsX6_windowFor) := goodIn_app (goodIn_of _ (by decide +kernel)) ggX6_bestWindow_X6_windowFor
set_option maxRecDepth 20000 in
theorem ggX6_bestWindow_X6_fails : GoodIn wsX6_bestWindow wsX6_fails := goodIn_r _ [33, 1, 34, 35, 36, 37, 38, 39, 40, 41, 42, 43, 44, 45, 46, 47, 48] (by decide +kernel) (by decide +kernel)
set_option maxRecDepth 20000 in
theorem gX6_bestWindow_X6_fails : GoodIn wsX6_bestWindow (wsV RX6 88 RX6 yX6_fails wsX6_fails) := goodIn_app (goodIn_of _ (by decide +kernel)) ggX6_bestWindow_X6_fails
theorem dX6_bestWindow_0 : decode cX6_bestWindow 0 = .ok (.aload_n 0, 1) := by decide +kernel
theorem dX6_bestWindow_1 : decode cX6_bestWindow 1 = .ok (.iconst 0, 1) := by decide +kernel
theorem dX6_bestWindow_2 : decode cX6_bestWindow 2 = .ok (.putfield 34, 3) := by decide +kernel
theorem dX6_bestWindow_5 : decode cX6_bestWindow 5 = .ok (.iload_n 1, 1) := by decide +kernel
theorem dX6_bestWindow_6 : decode cX6_bestWindow 6 = .ok (.bipush 10, 2) := by decide +kernel
theorem dX6_bestWindow_8 : decode cX6_bestWindow 8 = .ok (.sipush 400, 3) := by decide +kernel
theorem dX6_bestWindow_11 : decode cX6_bestWindow 11 = .ok (.invokestatic 84, 3) := by decide +kernel
theorem dX6_bestWindow_14 : decode cX6_bestWindow 14 = .ok (.ifCond .eq 23, 3) := by decide +kernel
theorem dX6_bestWindow_17 : decode cX6_bestWindow 17 = .ok (.iload_n 2, 1) := by decide +kernel
theorem dX6_bestWindow_18 : decode cX6_bestWindow 18 = .ok (.iconst 1, 1) := by decide +kernel
theorem dX6_bestWindow_19 : decode cX6_bestWindow 19 = .ok (.sipush 240, 3) := by decide +kernel
theorem dX6_bestWindow_22 : decode cX6_bestWindow 22 = .ok (.invokestatic 84, 3) := by decide +kernel
theorem dX6_bestWindow_25 : decode cX6_bestWindow 25 = .ok (.ifCond .eq 12, 3) := by decide +kernel
theorem dX6_bestWindow_28 : decode cX6_bestWindow 28 = .ok (.aload_n 0, 1) := by decide +kernel
theorem dX6_bestWindow_29 : decode cX6_bestWindow 29 = .ok (.iload_n 1, 1) := by decide +kernel
theorem dX6_bestWindow_30 : decode cX6_bestWindow 30 = .ok (.iload_n 2, 1) := by decide +kernel
theorem dX6_bestWindow_31 : decode cX6_bestWindow 31 = .ok (.invokevirtual 170, 3) := by decide +kernel
theorem dX6_bestWindow_34 : decode cX6_bestWindow 34 = .ok (.goto 8, 3) := by decide +kernel
theorem dX6_bestWindow_37 : decode cX6_bestWindow 37 = .ok (.aload_n 0, 1) := by decide +kernel
theorem dX6_bestWindow_38 : decode cX6_bestWindow 38 = .ok (.iconst 1, 1) := by decide +kernel
theorem dX6_bestWindow_39 : decode cX6_bestWindow 39 = .ok (.invokevirtual 88, 3) := by decide +kernel
theorem dX6_bestWindow_42 : decode cX6_bestWindow 42 = .ok (.ireturn, 1) := by decide +kernel
set_option maxRecDepth 20000 in
theorem ggX6_shareNow_X6_lastPlace : GoodIn wsX6_shareNow wsX6_lastPlace := goodIn_r _ [5, 6, 7, 8, 9, 4, 10, 64, 65, 66, 67, 68, 69, 70, 71, 72, 73, 74, 75, 76, 77, 78] (by decide +kernel) (by decide +kernel)
set_option maxRecDepth 20000 in
theorem gX6_shareNow_X6_lastPlace : GoodIn wsX6_shareNow (wsV RX6 63 RX6 yX6_lastPlace wsX6_lastPlace) := goodIn_app (goodIn_of _ (by decide +kernel)) ggX6_shareNow_X6_lastPlace
set_option maxRecDepth 20000 in
theorem ggX6_shareNow_X6_firstPlace : GoodIn wsX6_shareNow wsX6_firstPlace := goodIn_r _ [10, 6, 64, 65, 66, 67, 68, 69, 70, 71, 72, 73, 74, 75, 76, 77, 78] (by decide +kernel) (by decide +kernel)
set_option maxRecDepth 20000 in
theorem gX6_shareNow_X6_firstPlace : GoodIn wsX6_shareNow (wsV RX6 41 RX6 yX6_firstPlace wsX6_firstPlace) := goodIn_app (goodIn_of _ (by decide +kernel)) ggX6_shareNow_X6_firstPlace
set_option maxRecDepth 20000 in
theorem ggX6_shareNow_X6_overWindow : GoodIn wsX6_shareNow wsX6_overWindow := goodIn_r _ [14, 15, 16, 17, 18, 4, 19, 6, 20, 21, 22, 23, 24, 25, 26, 27, 28, 29, 30, 31, 32, 33, 7, 8, 9, 10, 1, 2, 3, 5, 34, 35, 36, 37, 38, 39, 40, 41, 42, 43, 44, 45, 46, 47, 48, 49, 50, 51, 52, 53, 54, 55, 56, 57, 58, 59, 60, 61, 62, 63, 64, 65, 66, 67, 68, 69, 70, 71, 72, 73, 74, 75, 76, 77, 78] (by decide +kernel) (by decide +kernel)
set_option maxRecDepth 20000 in
theorem gX6_shareNow_X6_overWindow : GoodIn wsX6_shareNow (wsV RX6 161 RX6 yX6_overWindow wsX6_overWindow) := goodIn_app (goodIn_of _ (by decide +kernel)) ggX6_shareNow_X6_overWindow
theorem dX6_shareNow_0 : decode cX6_shareNow 0 = .ok (.aload_n 0, 1) := by decide +kernel
theorem dX6_shareNow_1 : decode cX6_shareNow 1 = .ok (.invokevirtual 63, 3) := by decide +kernel
theorem dX6_shareNow_4 : decode cX6_shareNow 4 = .ok (.aload_n 0, 1) := by decide +kernel
theorem dX6_shareNow_5 : decode cX6_shareNow 5 = .ok (.invokevirtual 41, 3) := by decide +kernel
theorem dX6_shareNow_8 : decode cX6_shareNow 8 = .ok (.isub, 1) := by decide +kernel
theorem dX6_shareNow_9 : decode cX6_shareNow 9 = .ok (.istore_n 1, 1) := by decide +kernel
theorem dX6_shareNow_10 : decode cX6_shareNow 10 = .ok (.iload_n 1, 1) := by decide +kernel
theorem dX6_shareNow_11 : decode cX6_shareNow 11 = .ok (.ifCond .ne 7, 3) := by decide +kernel
theorem dX6_shareNow_14 : decode cX6_shareNow 14 = .ok (.dconst 1, 1) := by decide +kernel
theorem dX6_shareNow_15 : decode cX6_shareNow 15 = .ok (.goto 12, 3) := by decide +kernel
theorem dX6_shareNow_18 : decode cX6_shareNow 18 = .ok (.aload_n 0, 1) := by decide +kernel
theorem dX6_shareNow_19 : decode cX6_shareNow 19 = .ok (.iconst 4, 1) := by decide +kernel
theorem dX6_shareNow_20 : decode cX6_shareNow 20 = .ok (.invokevirtual 161, 3) := by decide +kernel
theorem dX6_shareNow_23 : decode cX6_shareNow 23 = .ok (.i2d, 1) := by decide +kernel
theorem dX6_shareNow_24 : decode cX6_shareNow 24 = .ok (.iload_n 1, 1) := by decide +kernel
theorem dX6_shareNow_25 : decode cX6_shareNow 25 = .ok (.i2d, 1) := by decide +kernel
theorem dX6_shareNow_26 : decode cX6_shareNow 26 = .ok (.ddiv, 1) := by decide +kernel
theorem dX6_shareNow_27 : decode cX6_shareNow 27 = .ok (.dreturn, 1) := by decide +kernel
set_option maxRecDepth 20000 in
theorem ggX6_share_X6_shareNow : GoodIn wsX6_share wsX6_shareNow := goodIn_r _ [6, 7, 8, 9, 5, 10, 11, 12, 13, 14, 15, 16, 17, 18, 19, 20, 21, 22, 23, 24, 25, 26, 27, 28, 29, 30, 31, 32, 33, 34, 35, 36, 37, 38, 39, 40, 41, 42, 43, 44, 45, 46, 47, 48, 49, 50, 51, 52, 53, 54, 55, 56, 57, 58, 59, 60, 61, 62, 63, 64, 65, 66, 67, 68, 69, 70, 71, 72, 73, 74, 75, 76, 77, 78, 79, 80, 81, 82, 83] (by decide +kernel) (by decide +kernel)
set_option maxRecDepth 20000 in
theorem gX6_share_X6_shareNow : GoodIn wsX6_share (wsV RX6 173 RX6 yX6_shareNow wsX6_shareNow) := goodIn_app (goodIn_of _ (by decide +kernel)) ggX6_share_X6_shareNow
theorem dX6_share_0 : decode cX6_share 0 = .ok (.aload_n 0, 1) := by decide +kernel
theorem dX6_share_1 : decode cX6_share 1 = .ok (.iconst 0, 1) := by decide +kernel
theorem dX6_share_2 : decode cX6_share 2 = .ok (.putfield 34, 3) := by decide +kernel
theorem dX6_share_5 : decode cX6_share 5 = .ok (.aload_n 0, 1) := by decide +kernel
theorem dX6_share_6 : decode cX6_share 6 = .ok (.invokevirtual 173, 3) := by decide +kernel
theorem dX6_share_9 : decode cX6_share 9 = .ok (.dreturn, 1) := by decide +kernel
theorem dX6_hashes_0 : decode cX6_hashes 0 = .ok (.aload_n 0, 1) := by decide +kernel
theorem dX6_hashes_1 : decode cX6_hashes 1 = .ok (.ldc2_w 177, 3) := by decide +kernel
theorem dX6_hashes_4 : decode cX6_hashes 4 = .ok (.aload_n 0, 1) := by decide +kernel
theorem dX6_hashes_5 : decode cX6_hashes 5 = .ok (.getfield 179, 3) := by decide +kernel
theorem dX6_hashes_8 : decode cX6_hashes 8 = .ok (.lmul, 1) := by decide +kernel
theorem dX6_hashes_9 : decode cX6_hashes 9 = .ok (.lload_n 1, 1) := by decide +kernel
theorem dX6_hashes_10 : decode cX6_hashes 10 = .ok (.ladd, 1) := by decide +kernel
theorem dX6_hashes_11 : decode cX6_hashes 11 = .ok (.putfield 179, 3) := by decide +kernel
theorem dX6_hashes_14 : decode cX6_hashes 14 = .ok (.return_, 1) := by decide +kernel
set_option maxRecDepth 20000 in
theorem ggX6_hashesPeriods_X6_tellsPeriod : GoodIn wsX6_hashesPeriods wsX6_tellsPeriod := goodIn_r _ [6, 7, 8, 9, 5, 10, 1, 11, 12, 13, 14, 15, 16, 17, 18, 19, 20, 21, 22, 23, 24, 25, 26, 27, 28, 29, 30, 31, 32, 33, 34, 35, 36, 37, 38, 39, 40, 41, 42, 43, 44, 45, 46, 47, 48, 49, 50, 51, 52, 53, 54, 55, 56, 57, 58, 59, 60, 61, 62, 63, 64, 65, 66, 67, 68, 69, 70, 71, 72, 73, 74, 75, 76, 77, 78, 79, 90, 91, 92, 93, 94, 95, 96, 97, 98, 99, 100, 101, 102, 103, 104] (by decide +kernel) (by decide +kernel)
set_option maxRecDepth 20000 in
theorem gX6_hashesPeriods_X6_tellsPeriod : GoodIn wsX6_hashesPeriods (wsV RX6 152 RX6 yX6_tellsPeriod wsX6_tellsPeriod) := goodIn_app (goodIn_of _ (by decide +kernel)) ggX6_hashesPeriods_X6_tellsPeriod
set_option maxRecDepth 20000 in
theorem ggX6_hashesPeriods_X6_hashes : GoodIn wsX6_hashesPeriods wsX6_hashes := goodIn_r _ [83, 84, 85, 90, 91, 92, 93, 94, 95, 96, 97, 98, 99, 100, 101, 102, 103, 104] (by decide +kernel) (by decide +kernel)
set_option maxRecDepth 20000 in
theorem gX6_hashesPeriods_X6_hashes : GoodIn wsX6_hashesPeriods (wsV RX6 183 RX6 yX6_hashes wsX6_hashes) := goodIn_app (goodIn_of _ (by decide +kernel)) ggX6_hashesPeriods_X6_hashes
set_option maxRecDepth 20000 in
theorem ggX6_hashesPeriods_X6_tenthsOf : GoodIn wsX6_hashesPeriods wsX6_tenthsOf := goodIn_r _ [10, 1, 90, 91, 92, 93, 94, 95, 96, 97, 98, 99, 100, 101, 102, 103, 104] (by decide +kernel) (by decide +kernel)
set_option maxRecDepth 20000 in
theorem gX6_hashesPeriods_X6_tenthsOf : GoodIn wsX6_hashesPeriods (wsV RX6 70 RX6 yX6_tenthsOf wsX6_tenthsOf) := goodIn_app (goodIn_of _ (by decide +kernel)) ggX6_hashesPeriods_X6_tenthsOf
set_option maxRecDepth 20000 in
theorem ggX6_hashesPeriods_X6_classesOf : GoodIn wsX6_hashesPeriods wsX6_classesOf := goodIn_r _ [17] (by decide +kernel) (by decide +kernel)
set_option maxRecDepth 20000 in
theorem gX6_hashesPeriods_X6_classesOf : GoodIn wsX6_hashesPeriods (va_wsS RX6 45 yX6_classesOf wsX6_classesOf) := goodIn_app (goodIn_of _ (by decide +kernel)) ggX6_hashesPeriods_X6_classesOf
set_option maxRecDepth 20000 in
theorem ggX6_hashesPeriods_X6_tellsRemainder : GoodIn wsX6_hashesPeriods wsX6_tellsRemainder := goodIn_r _ [89, 34, 54, 55, 56, 5, 57, 7, 8, 9, 10, 1, 11, 12, 13, 14, 22, 23, 24, 25, 26, 27, 28, 29, 35, 36, 37, 38, 15, 16, 17, 39, 40, 41, 42, 43, 44, 45, 90, 91, 92, 93, 94, 95, 96, 97, 98, 99, 100, 101, 102, 103, 104] (by decide +kernel) (by decide +kernel)
set_option maxRecDepth 20000 in
theorem gX6_hashesPeriods_X6_tellsRemainder : GoodIn wsX6_hashesPeriods (wsV RX6 155 RX6 yX6_tellsRemainder wsX6_tellsRemainder) := goodIn_app (goodIn_of _ (by decide +kernel)) ggX6_hashesPeriods_X6_tellsRemainder
theorem dX6_hashesPeriods_0 : decode cX6_hashesPeriods 0 = .ok (.iconst 0, 1) := by decide +kernel
theorem dX6_hashesPeriods_1 : decode cX6_hashesPeriods 1 = .ok (.istore_n 1, 1) := by decide +kernel
theorem dX6_hashesPeriods_2 : decode cX6_hashesPeriods 2 = .ok (.iload_n 1, 1) := by decide +kernel
theorem dX6_hashesPeriods_3 : decode cX6_hashesPeriods 3 = .ok (.aload_n 0, 1) := by decide +kernel
theorem dX6_hashesPeriods_4 : decode cX6_hashesPeriods 4 = .ok (.getfield 7, 3) := by decide +kernel
theorem dX6_hashesPeriods_7 : decode cX6_hashesPeriods 7 = .ok (.iconst 4, 1) := by decide +kernel
theorem dX6_hashesPeriods_8 : decode cX6_hashesPeriods 8 = .ok (.iaload, 1) := by decide +kernel
theorem dX6_hashesPeriods_9 : decode cX6_hashesPeriods 9 = .ok (.if_icmp .ge 72, 3) := by decide +kernel
theorem dX6_hashesPeriods_12 : decode cX6_hashesPeriods 12 = .ok (.iconst 0, 1) := by decide +kernel
theorem dX6_hashesPeriods_13 : decode cX6_hashesPeriods 13 = .ok (.istore_n 2, 1) := by decide +kernel
theorem dX6_hashesPeriods_14 : decode cX6_hashesPeriods 14 = .ok (.iload_n 2, 1) := by decide +kernel
theorem dX6_hashesPeriods_15 : decode cX6_hashesPeriods 15 = .ok (.bipush 7, 2) := by decide +kernel
theorem dX6_hashesPeriods_17 : decode cX6_hashesPeriods 17 = .ok (.if_icmp .ge 20, 3) := by decide +kernel
theorem dX6_hashesPeriods_20 : decode cX6_hashesPeriods 20 = .ok (.aload_n 0, 1) := by decide +kernel
theorem dX6_hashesPeriods_21 : decode cX6_hashesPeriods 21 = .ok (.aload_n 0, 1) := by decide +kernel
theorem dX6_hashesPeriods_22 : decode cX6_hashesPeriods 22 = .ok (.iload_n 1, 1) := by decide +kernel
theorem dX6_hashesPeriods_23 : decode cX6_hashesPeriods 23 = .ok (.iload_n 2, 1) := by decide +kernel
theorem dX6_hashesPeriods_24 : decode cX6_hashesPeriods 24 = .ok (.invokevirtual 152, 3) := by decide +kernel
theorem dX6_hashesPeriods_27 : decode cX6_hashesPeriods 27 = .ok (.i2l, 1) := by decide +kernel
theorem dX6_hashesPeriods_28 : decode cX6_hashesPeriods 28 = .ok (.invokevirtual 183, 3) := by decide +kernel
theorem dX6_hashesPeriods_31 : decode cX6_hashesPeriods 31 = .ok (.iinc 2 1, 3) := by decide +kernel
theorem dX6_hashesPeriods_34 : decode cX6_hashesPeriods 34 = .ok (.goto (-20), 3) := by decide +kernel
theorem dX6_hashesPeriods_37 : decode cX6_hashesPeriods 37 = .ok (.iconst 0, 1) := by decide +kernel
theorem dX6_hashesPeriods_38 : decode cX6_hashesPeriods 38 = .ok (.istore_n 2, 1) := by decide +kernel
theorem dX6_hashesPeriods_39 : decode cX6_hashesPeriods 39 = .ok (.iload_n 2, 1) := by decide +kernel
theorem dX6_hashesPeriods_40 : decode cX6_hashesPeriods 40 = .ok (.iconst 5, 1) := by decide +kernel
theorem dX6_hashesPeriods_41 : decode cX6_hashesPeriods 41 = .ok (.aload_n 0, 1) := by decide +kernel
theorem dX6_hashesPeriods_42 : decode cX6_hashesPeriods 42 = .ok (.iload_n 1, 1) := by decide +kernel
theorem dX6_hashesPeriods_43 : decode cX6_hashesPeriods 43 = .ok (.invokevirtual 70, 3) := by decide +kernel
theorem dX6_hashesPeriods_46 : decode cX6_hashesPeriods 46 = .ok (.invokestatic 45, 3) := by decide +kernel
theorem dX6_hashesPeriods_49 : decode cX6_hashesPeriods 49 = .ok (.imul, 1) := by decide +kernel
theorem dX6_hashesPeriods_50 : decode cX6_hashesPeriods 50 = .ok (.if_icmp .ge 25, 3) := by decide +kernel
theorem dX6_hashesPeriods_53 : decode cX6_hashesPeriods 53 = .ok (.aload_n 0, 1) := by decide +kernel
theorem dX6_hashesPeriods_54 : decode cX6_hashesPeriods 54 = .ok (.aload_n 0, 1) := by decide +kernel
theorem dX6_hashesPeriods_55 : decode cX6_hashesPeriods 55 = .ok (.iload_n 1, 1) := by decide +kernel
theorem dX6_hashesPeriods_56 : decode cX6_hashesPeriods 56 = .ok (.iload_n 2, 1) := by decide +kernel
theorem dX6_hashesPeriods_57 : decode cX6_hashesPeriods 57 = .ok (.iconst 5, 1) := by decide +kernel
theorem dX6_hashesPeriods_58 : decode cX6_hashesPeriods 58 = .ok (.idiv, 1) := by decide +kernel
theorem dX6_hashesPeriods_59 : decode cX6_hashesPeriods 59 = .ok (.iload_n 2, 1) := by decide +kernel
theorem dX6_hashesPeriods_60 : decode cX6_hashesPeriods 60 = .ok (.iconst 5, 1) := by decide +kernel
theorem dX6_hashesPeriods_61 : decode cX6_hashesPeriods 61 = .ok (.irem, 1) := by decide +kernel
theorem dX6_hashesPeriods_62 : decode cX6_hashesPeriods 62 = .ok (.invokevirtual 155, 3) := by decide +kernel
theorem dX6_hashesPeriods_65 : decode cX6_hashesPeriods 65 = .ok (.i2l, 1) := by decide +kernel
theorem dX6_hashesPeriods_66 : decode cX6_hashesPeriods 66 = .ok (.invokevirtual 183, 3) := by decide +kernel
theorem dX6_hashesPeriods_69 : decode cX6_hashesPeriods 69 = .ok (.iinc 2 1, 3) := by decide +kernel
theorem dX6_hashesPeriods_72 : decode cX6_hashesPeriods 72 = .ok (.goto (-33), 3) := by decide +kernel
theorem dX6_hashesPeriods_75 : decode cX6_hashesPeriods 75 = .ok (.iinc 1 1, 3) := by decide +kernel
theorem dX6_hashesPeriods_78 : decode cX6_hashesPeriods 78 = .ok (.goto (-76), 3) := by decide +kernel
theorem dX6_hashesPeriods_81 : decode cX6_hashesPeriods 81 = .ok (.return_, 1) := by decide +kernel
set_option maxRecDepth 20000 in
theorem ggX6_digest_X6_tellsCount : GoodIn wsX6_digest wsX6_tellsCount := goodIn_r _ [11, 4, 12, 13, 14, 15, 10, 16, 17, 18, 19, 20, 21, 22, 23, 24, 25, 26, 27, 28, 29, 30, 31, 32, 33, 34, 35, 36, 37, 38, 39, 40, 41, 42, 43, 44, 45, 46, 47, 48, 49, 50, 51, 52, 53, 54, 55, 56, 57, 58, 59, 60, 61, 62, 63, 64, 65, 66, 67, 68, 69, 70, 71, 72, 73, 74, 75, 76, 77, 143, 144, 145, 146, 147, 148, 149, 150, 151, 152, 153, 154, 155, 156, 157] (by decide +kernel) (by decide +kernel)
set_option maxRecDepth 20000 in
theorem gX6_digest_X6_tellsCount : GoodIn wsX6_digest (wsV RX6 164 RX6 yX6_tellsCount wsX6_tellsCount) := goodIn_app (goodIn_of _ (by decide +kernel)) ggX6_digest_X6_tellsCount
set_option maxRecDepth 20000 in
theorem ggX6_digest_X6_hashes : GoodIn wsX6_digest wsX6_hashes := goodIn_r _ [81, 82, 3, 143, 144, 145, 146, 147, 148, 149, 150, 151, 152, 153, 154, 155, 156, 157] (by decide +kernel) (by decide +kernel)
set_option maxRecDepth 20000 in
theorem gX6_digest_X6_hashes : GoodIn wsX6_digest (wsV RX6 183 RX6 yX6_hashes wsX6_hashes) := goodIn_app (goodIn_of _ (by decide +kernel)) ggX6_digest_X6_hashes
set_option maxRecDepth 20000 in
theorem ggX6_digest_X6_hashesPeriods : GoodIn wsX6_digest wsX6_hashesPeriods := goodIn_r _ [86, 4, 87, 88, 89, 10, 90, 36, 37, 38, 39, 40, 41, 42, 43, 49, 50, 51, 91, 92, 93, 94, 17, 18, 19, 20, 13, 14, 15, 16, 95, 96, 97, 98, 48, 44, 45, 46, 47, 52, 53, 54, 59, 60, 61, 62, 74, 75, 76, 77, 99, 100, 101, 102, 32, 33, 34, 35, 55, 56, 57, 58, 63, 64, 65, 66, 103, 104, 105, 106, 25, 26, 27, 28, 29, 30, 31, 67, 68, 69, 78, 79, 80, 81, 82, 3, 107, 108, 109, 110, 143, 144, 145, 146, 147, 148, 149, 150, 151, 152, 153, 154, 155, 156, 157] (by decide +kernel) (by decide +kernel)
set_option maxRecDepth 20000 in
theorem gX6_digest_X6_hashesPeriods : GoodIn wsX6_digest (wsV RX6 189 RX6 yX6_hashesPeriods wsX6_hashesPeriods) := goodIn_app (goodIn_of _ (by decide +kernel)) ggX6_digest_X6_hashesPeriods
set_option maxRecDepth 20000 in
theorem ggX6_digest_X6_tellsPlace : GoodIn wsX6_digest wsX6_tellsPlace := goodIn_r _ [114, 31, 25, 26, 27, 28, 10, 29, 4, 30, 32, 33, 34, 35, 36, 37, 38, 39, 40, 41, 42, 43, 17, 18, 19, 20, 13, 14, 15, 16, 44, 45, 46, 47, 48, 49, 50, 51, 52, 53, 54, 55, 56, 57, 58, 59, 60, 61, 62, 63, 64, 65, 66, 67, 68, 69, 70, 71, 72, 73, 143, 144, 145, 146, 147, 148, 149, 150, 151, 152, 153, 154, 155, 156, 157] (by decide +kernel) (by decide +kernel)
set_option maxRecDepth 20000 in
theorem gX6_digest_X6_tellsPlace : GoodIn wsX6_digest (wsV RX6 158 RX6 yX6_tellsPlace wsX6_tellsPlace) := goodIn_app (goodIn_of _ (by decide +kernel)) ggX6_digest_X6_tellsPlace
set_option maxRecDepth 20000 in
theorem ggX6_digest_X6_bestOf : GoodIn wsX6_digest wsX6_bestOf := goodIn_r _ [118, 91, 92, 93, 10, 94, 17, 18, 19, 20, 4, 13, 14, 15, 16, 95, 96, 97, 98, 48, 44, 45, 46, 47, 49, 50, 51, 52, 53, 54, 59, 60, 61, 62, 143, 144, 145, 146, 147, 148, 149, 150, 151, 152, 153, 154, 155, 156, 157] (by decide +kernel) (by decide +kernel)
set_option maxRecDepth 20000 in
theorem gX6_digest_X6_bestOf : GoodIn wsX6_digest (wsV RX6 108 RX6 yX6_bestOf wsX6_bestOf) := goodIn_app (goodIn_of _ (by decide +kernel)) ggX6_digest_X6_bestOf
set_option maxRecDepth 20000 in
theorem ggX6_digest_X6_phaseFor : GoodIn wsX6_digest wsX6_phaseFor := goodIn_r _ [122, 91, 92, 93, 10, 94, 17, 18, 19, 20, 4, 13, 14, 15, 16, 95, 96, 97, 98, 48, 44, 45, 46, 47, 49, 50, 51, 52, 53, 54, 59, 60, 61, 62, 143, 144, 145, 146, 147, 148, 149, 150, 151, 152, 153, 154, 155, 156, 157] (by decide +kernel) (by decide +kernel)
set_option maxRecDepth 20000 in
theorem gX6_digest_X6_phaseFor : GoodIn wsX6_digest (wsV RX6 167 RX6 yX6_phaseFor wsX6_phaseFor) := goodIn_app (goodIn_of _ (by decide +kernel)) ggX6_digest_X6_phaseFor
set_option maxRecDepth 20000 in
theorem ggX6_digest_X6_windowFor : GoodIn wsX6_digest wsX6_windowFor := goodIn_r _ [126, 4, 95, 96, 97, 10, 98, 48, 44, 45, 46, 47, 49, 50, 51, 52, 53, 54, 59, 60, 61, 62, 143, 144, 145, 146, 147, 148, 149, 150, 151, 152, 153, 154, 155, 156, 157] (by decide +kernel) (by decide +kernel)
set_option maxRecDepth 20000 in
theorem gX6_digest_X6_windowFor : GoodIn wsX6_digest (wsV RX6 170 RX6 yX6_windowFor wsX6_windowFor) := goodIn_app (goodIn_of _ (by decide +kernel)) ggX6_digest_X6_windowFor
set_option maxRecDepth 20000 in
theorem ggX6_digest_X6_shareNow : GoodIn wsX6_digest wsX6_shareNow := goodIn_r _ [130, 13, 14, 15, 10, 16, 4, 17, 18, 19, 20, 21, 22, 23, 24, 25, 26, 27, 28, 29, 30, 31, 32, 33, 34, 35, 36, 37, 38, 39, 40, 41, 42, 43, 44, 45, 46, 47, 48, 49, 50, 51, 52, 53, 54, 55, 56, 57, 58, 59, 60, 61, 62, 63, 64, 65, 66, 67, 68, 69, 70, 71, 72, 73, 143, 144, 145, 146, 147, 148, 149, 150, 151, 152, 153, 154, 155, 156, 157] (by decide +kernel) (by decide +kernel)
set_option maxRecDepth 20000 in
theorem gX6_digest_X6_shareNow : GoodIn wsX6_digest (wsV RX6 173 RX6 yX6_shareNow wsX6_shareNow) := goodIn_app (goodIn_of _ (by decide +kernel)) ggX6_digest_X6_shareNow
set_option maxRecDepth 20000 in
theorem ggX6_digest_Jxe99ae_doubleToLongBits_ccdee : GoodIn wsX6_digest wsJxe99ae_doubleToLongBits_ccdee := goodIn_r _ [134, 135, 136, 137, 138, 139, 140, 141, 133, 142] (by decide +kernel) (by decide +kernel)
set_option maxRecDepth 20000 in
theorem gX6_digest_Jxe99ae_doubleToLongBits_ccdee : GoodIn wsX6_digest (va_wsS RX6 192 yJxe99ae_doubleToLongBits_ccdee wsJxe99ae_doubleToLongBits_ccdee) := goodIn_app (goodIn_of _ (by decide +kernel)) ggX6_digest_Jxe99ae_doubleToLongBits_ccdee
theorem dX6_digest_0 : decode cX6_digest 0 = .ok (.aload_n 0, 1) := by decide +kernel
theorem dX6_digest_1 : decode cX6_digest 1 = .ok (.iconst 0, 1) := by decide +kernel
theorem dX6_digest_2 : decode cX6_digest 2 = .ok (.putfield 34, 3) := by decide +kernel
theorem dX6_digest_5 : decode cX6_digest 5 = .ok (.aload_n 0, 1) := by decide +kernel
theorem dX6_digest_6 : decode cX6_digest 6 = .ok (.ldc2_w 187, 3) := by decide +kernel
theorem dX6_digest_9 : decode cX6_digest 9 = .ok (.putfield 179, 3) := by decide +kernel
theorem dX6_digest_12 : decode cX6_digest 12 = .ok (.iconst 0, 1) := by decide +kernel
theorem dX6_digest_13 : decode cX6_digest 13 = .ok (.istore_n 1, 1) := by decide +kernel
theorem dX6_digest_14 : decode cX6_digest 14 = .ok (.iload_n 1, 1) := by decide +kernel
theorem dX6_digest_15 : decode cX6_digest 15 = .ok (.bipush 10, 2) := by decide +kernel
theorem dX6_digest_17 : decode cX6_digest 17 = .ok (.if_icmp .ge 19, 3) := by decide +kernel
theorem dX6_digest_20 : decode cX6_digest 20 = .ok (.aload_n 0, 1) := by decide +kernel
theorem dX6_digest_21 : decode cX6_digest 21 = .ok (.aload_n 0, 1) := by decide +kernel
theorem dX6_digest_22 : decode cX6_digest 22 = .ok (.iload_n 1, 1) := by decide +kernel
theorem dX6_digest_23 : decode cX6_digest 23 = .ok (.invokevirtual 164, 3) := by decide +kernel
theorem dX6_digest_26 : decode cX6_digest 26 = .ok (.i2l, 1) := by decide +kernel
theorem dX6_digest_27 : decode cX6_digest 27 = .ok (.invokevirtual 183, 3) := by decide +kernel
theorem dX6_digest_30 : decode cX6_digest 30 = .ok (.iinc 1 1, 3) := by decide +kernel
theorem dX6_digest_33 : decode cX6_digest 33 = .ok (.goto (-19), 3) := by decide +kernel
theorem dX6_digest_36 : decode cX6_digest 36 = .ok (.iconst 0, 1) := by decide +kernel
theorem dX6_digest_37 : decode cX6_digest 37 = .ok (.istore_n 1, 1) := by decide +kernel
theorem dX6_digest_38 : decode cX6_digest 38 = .ok (.iload_n 1, 1) := by decide +kernel
theorem dX6_digest_39 : decode cX6_digest 39 = .ok (.iconst 3, 1) := by decide +kernel
theorem dX6_digest_40 : decode cX6_digest 40 = .ok (.if_icmp .ge 22, 3) := by decide +kernel
theorem dX6_digest_43 : decode cX6_digest 43 = .ok (.aload_n 0, 1) := by decide +kernel
theorem dX6_digest_44 : decode cX6_digest 44 = .ok (.aload_n 0, 1) := by decide +kernel
theorem dX6_digest_45 : decode cX6_digest 45 = .ok (.getfield 7, 3) := by decide +kernel
theorem dX6_digest_48 : decode cX6_digest 48 = .ok (.iconst 1, 1) := by decide +kernel
theorem dX6_digest_49 : decode cX6_digest 49 = .ok (.iload_n 1, 1) := by decide +kernel
theorem dX6_digest_50 : decode cX6_digest 50 = .ok (.iadd, 1) := by decide +kernel
theorem dX6_digest_51 : decode cX6_digest 51 = .ok (.iaload, 1) := by decide +kernel
theorem dX6_digest_52 : decode cX6_digest 52 = .ok (.i2l, 1) := by decide +kernel
theorem dX6_digest_53 : decode cX6_digest 53 = .ok (.invokevirtual 183, 3) := by decide +kernel
theorem dX6_digest_56 : decode cX6_digest 56 = .ok (.iinc 1 1, 3) := by decide +kernel
theorem dX6_digest_59 : decode cX6_digest 59 = .ok (.goto (-21), 3) := by decide +kernel
theorem dX6_digest_62 : decode cX6_digest 62 = .ok (.iconst 0, 1) := by decide +kernel
theorem dX6_digest_63 : decode cX6_digest 63 = .ok (.istore_n 1, 1) := by decide +kernel
theorem dX6_digest_64 : decode cX6_digest 64 = .ok (.iload_n 1, 1) := by decide +kernel
theorem dX6_digest_65 : decode cX6_digest 65 = .ok (.aload_n 0, 1) := by decide +kernel
theorem dX6_digest_66 : decode cX6_digest 66 = .ok (.getfield 7, 3) := by decide +kernel
theorem dX6_digest_69 : decode cX6_digest 69 = .ok (.iconst 0, 1) := by decide +kernel
theorem dX6_digest_70 : decode cX6_digest 70 = .ok (.iaload, 1) := by decide +kernel
theorem dX6_digest_71 : decode cX6_digest 71 = .ok (.if_icmp .ge 23, 3) := by decide +kernel
theorem dX6_digest_74 : decode cX6_digest 74 = .ok (.aload_n 0, 1) := by decide +kernel
theorem dX6_digest_75 : decode cX6_digest 75 = .ok (.aload_n 0, 1) := by decide +kernel
theorem dX6_digest_76 : decode cX6_digest 76 = .ok (.getfield 7, 3) := by decide +kernel
theorem dX6_digest_79 : decode cX6_digest 79 = .ok (.bipush 13, 2) := by decide +kernel
theorem dX6_digest_81 : decode cX6_digest 81 = .ok (.iload_n 1, 1) := by decide +kernel
theorem dX6_digest_82 : decode cX6_digest 82 = .ok (.iadd, 1) := by decide +kernel
theorem dX6_digest_83 : decode cX6_digest 83 = .ok (.iaload, 1) := by decide +kernel
theorem dX6_digest_84 : decode cX6_digest 84 = .ok (.i2l, 1) := by decide +kernel
theorem dX6_digest_85 : decode cX6_digest 85 = .ok (.invokevirtual 183, 3) := by decide +kernel
theorem dX6_digest_88 : decode cX6_digest 88 = .ok (.iinc 1 1, 3) := by decide +kernel
theorem dX6_digest_91 : decode cX6_digest 91 = .ok (.goto (-27), 3) := by decide +kernel
theorem dX6_digest_94 : decode cX6_digest 94 = .ok (.aload_n 0, 1) := by decide +kernel
theorem dX6_digest_95 : decode cX6_digest 95 = .ok (.invokevirtual 189, 3) := by decide +kernel
theorem dX6_digest_98 : decode cX6_digest 98 = .ok (.iconst 0, 1) := by decide +kernel
theorem dX6_digest_99 : decode cX6_digest 99 = .ok (.istore_n 1, 1) := by decide +kernel
theorem dX6_digest_100 : decode cX6_digest 100 = .ok (.iload_n 1, 1) := by decide +kernel
theorem dX6_digest_101 : decode cX6_digest 101 = .ok (.aload_n 0, 1) := by decide +kernel
theorem dX6_digest_102 : decode cX6_digest 102 = .ok (.getfield 7, 3) := by decide +kernel
theorem dX6_digest_105 : decode cX6_digest 105 = .ok (.iconst 0, 1) := by decide +kernel
theorem dX6_digest_106 : decode cX6_digest 106 = .ok (.iaload, 1) := by decide +kernel
theorem dX6_digest_107 : decode cX6_digest 107 = .ok (.if_icmp .ge 37, 3) := by decide +kernel
theorem dX6_digest_110 : decode cX6_digest 110 = .ok (.iload_n 1, 1) := by decide +kernel
theorem dX6_digest_111 : decode cX6_digest 111 = .ok (.bipush 20, 2) := by decide +kernel
theorem dX6_digest_113 : decode cX6_digest 113 = .ok (.if_icmp .ge 31, 3) := by decide +kernel
theorem dX6_digest_116 : decode cX6_digest 116 = .ok (.aload_n 0, 1) := by decide +kernel
theorem dX6_digest_117 : decode cX6_digest 117 = .ok (.aload_n 0, 1) := by decide +kernel
theorem dX6_digest_118 : decode cX6_digest 118 = .ok (.iload_n 1, 1) := by decide +kernel
theorem dX6_digest_119 : decode cX6_digest 119 = .ok (.iconst 0, 1) := by decide +kernel
theorem dX6_digest_120 : decode cX6_digest 120 = .ok (.invokevirtual 158, 3) := by decide +kernel
theorem dX6_digest_123 : decode cX6_digest 123 = .ok (.i2l, 1) := by decide +kernel
theorem dX6_digest_124 : decode cX6_digest 124 = .ok (.invokevirtual 183, 3) := by decide +kernel
theorem dX6_digest_127 : decode cX6_digest 127 = .ok (.aload_n 0, 1) := by decide +kernel
theorem dX6_digest_128 : decode cX6_digest 128 = .ok (.aload_n 0, 1) := by decide +kernel
theorem dX6_digest_129 : decode cX6_digest 129 = .ok (.iload_n 1, 1) := by decide +kernel
theorem dX6_digest_130 : decode cX6_digest 130 = .ok (.iconst 1, 1) := by decide +kernel
theorem dX6_digest_131 : decode cX6_digest 131 = .ok (.invokevirtual 158, 3) := by decide +kernel
theorem dX6_digest_134 : decode cX6_digest 134 = .ok (.i2l, 1) := by decide +kernel
theorem dX6_digest_135 : decode cX6_digest 135 = .ok (.invokevirtual 183, 3) := by decide +kernel
theorem dX6_digest_138 : decode cX6_digest 138 = .ok (.iinc 1 1, 3) := by decide +kernel
theorem dX6_digest_141 : decode cX6_digest 141 = .ok (.goto (-41), 3) := by decide +kernel
theorem dX6_digest_144 : decode cX6_digest 144 = .ok (.aload_n 0, 1) := by decide +kernel
theorem dX6_digest_145 : decode cX6_digest 145 = .ok (.aload_n 0, 1) := by decide +kernel
theorem dX6_digest_146 : decode cX6_digest 146 = .ok (.bipush 20, 2) := by decide +kernel
theorem dX6_digest_148 : decode cX6_digest 148 = .ok (.bipush 60, 2) := by decide +kernel
theorem dX6_digest_150 : decode cX6_digest 150 = .ok (.invokevirtual 108, 3) := by decide +kernel
theorem dX6_digest_153 : decode cX6_digest 153 = .ok (.i2l, 1) := by decide +kernel
theorem dX6_digest_154 : decode cX6_digest 154 = .ok (.invokevirtual 183, 3) := by decide +kernel
theorem dX6_digest_157 : decode cX6_digest 157 = .ok (.aload_n 0, 1) := by decide +kernel
theorem dX6_digest_158 : decode cX6_digest 158 = .ok (.aload_n 0, 1) := by decide +kernel
theorem dX6_digest_159 : decode cX6_digest 159 = .ok (.bipush 35, 2) := by decide +kernel
theorem dX6_digest_161 : decode cX6_digest 161 = .ok (.invokevirtual 167, 3) := by decide +kernel
theorem dX6_digest_164 : decode cX6_digest 164 = .ok (.i2l, 1) := by decide +kernel
theorem dX6_digest_165 : decode cX6_digest 165 = .ok (.invokevirtual 183, 3) := by decide +kernel
theorem dX6_digest_168 : decode cX6_digest 168 = .ok (.aload_n 0, 1) := by decide +kernel
theorem dX6_digest_169 : decode cX6_digest 169 = .ok (.aload_n 0, 1) := by decide +kernel
theorem dX6_digest_170 : decode cX6_digest 170 = .ok (.bipush 40, 2) := by decide +kernel
theorem dX6_digest_172 : decode cX6_digest 172 = .ok (.bipush 12, 2) := by decide +kernel
theorem dX6_digest_174 : decode cX6_digest 174 = .ok (.invokevirtual 170, 3) := by decide +kernel
theorem dX6_digest_177 : decode cX6_digest 177 = .ok (.i2l, 1) := by decide +kernel
theorem dX6_digest_178 : decode cX6_digest 178 = .ok (.invokevirtual 183, 3) := by decide +kernel
theorem dX6_digest_181 : decode cX6_digest 181 = .ok (.aload_n 0, 1) := by decide +kernel
theorem dX6_digest_182 : decode cX6_digest 182 = .ok (.aload_n 0, 1) := by decide +kernel
theorem dX6_digest_183 : decode cX6_digest 183 = .ok (.invokevirtual 173, 3) := by decide +kernel
theorem dX6_digest_186 : decode cX6_digest 186 = .ok (.invokestatic 192, 3) := by decide +kernel
theorem dX6_digest_189 : decode cX6_digest 189 = .ok (.invokevirtual 183, 3) := by decide +kernel
theorem dX6_digest_192 : decode cX6_digest 192 = .ok (.aload_n 0, 1) := by decide +kernel
theorem dX6_digest_193 : decode cX6_digest 193 = .ok (.aload_n 0, 1) := by decide +kernel
theorem dX6_digest_194 : decode cX6_digest 194 = .ok (.getfield 117, 3) := by decide +kernel
theorem dX6_digest_197 : decode cX6_digest 197 = .ok (.i2l, 1) := by decide +kernel
theorem dX6_digest_198 : decode cX6_digest 198 = .ok (.invokevirtual 183, 3) := by decide +kernel
theorem dX6_digest_201 : decode cX6_digest 201 = .ok (.iconst 0, 1) := by decide +kernel
theorem dX6_digest_202 : decode cX6_digest 202 = .ok (.istore_n 1, 1) := by decide +kernel
theorem dX6_digest_203 : decode cX6_digest 203 = .ok (.iload_n 1, 1) := by decide +kernel
theorem dX6_digest_204 : decode cX6_digest 204 = .ok (.aload_n 0, 1) := by decide +kernel
theorem dX6_digest_205 : decode cX6_digest 205 = .ok (.getfield 117, 3) := by decide +kernel
theorem dX6_digest_208 : decode cX6_digest 208 = .ok (.if_icmp .ge 20, 3) := by decide +kernel
theorem dX6_digest_211 : decode cX6_digest 211 = .ok (.aload_n 0, 1) := by decide +kernel
theorem dX6_digest_212 : decode cX6_digest 212 = .ok (.aload_n 0, 1) := by decide +kernel
theorem dX6_digest_213 : decode cX6_digest 213 = .ok (.getfield 16, 3) := by decide +kernel
theorem dX6_digest_216 : decode cX6_digest 216 = .ok (.iload_n 1, 1) := by decide +kernel
theorem dX6_digest_217 : decode cX6_digest 217 = .ok (.iaload, 1) := by decide +kernel
theorem dX6_digest_218 : decode cX6_digest 218 = .ok (.i2l, 1) := by decide +kernel
theorem dX6_digest_219 : decode cX6_digest 219 = .ok (.invokevirtual 183, 3) := by decide +kernel
theorem dX6_digest_222 : decode cX6_digest 222 = .ok (.iinc 1 1, 3) := by decide +kernel
theorem dX6_digest_225 : decode cX6_digest 225 = .ok (.goto (-22), 3) := by decide +kernel
theorem dX6_digest_228 : decode cX6_digest 228 = .ok (.aload_n 0, 1) := by decide +kernel
theorem dX6_digest_229 : decode cX6_digest 229 = .ok (.getfield 179, 3) := by decide +kernel
theorem dX6_digest_232 : decode cX6_digest 232 = .ok (.lreturn, 1) := by decide +kernel
theorem dJxe99ae_isNaN_b9ae7_0 : decode cJxe99ae_isNaN_b9ae7 0 = .ok (.dload_n 0, 1) := by decide +kernel
theorem dJxe99ae_isNaN_b9ae7_1 : decode cJxe99ae_isNaN_b9ae7 1 = .ok (.dload_n 0, 1) := by decide +kernel
theorem dJxe99ae_isNaN_b9ae7_2 : decode cJxe99ae_isNaN_b9ae7 2 = .ok (.dcmp .l, 1) := by decide +kernel
theorem dJxe99ae_isNaN_b9ae7_3 : decode cJxe99ae_isNaN_b9ae7 3 = .ok (.ifCond .eq 7, 3) := by decide +kernel
theorem dJxe99ae_isNaN_b9ae7_6 : decode cJxe99ae_isNaN_b9ae7 6 = .ok (.iconst 1, 1) := by decide +kernel
theorem dJxe99ae_isNaN_b9ae7_7 : decode cJxe99ae_isNaN_b9ae7 7 = .ok (.goto 4, 3) := by decide +kernel
theorem dJxe99ae_isNaN_b9ae7_10 : decode cJxe99ae_isNaN_b9ae7 10 = .ok (.iconst 0, 1) := by decide +kernel
theorem dJxe99ae_isNaN_b9ae7_11 : decode cJxe99ae_isNaN_b9ae7 11 = .ok (.ireturn, 1) := by decide +kernel
set_option maxRecDepth 20000 in
theorem ggJxe99ae_doubleToLongBits_ccdee_Jxe99ae_isNaN_b9ae7 : GoodIn wsJxe99ae_doubleToLongBits_ccdee wsJxe99ae_isNaN_b9ae7 := goodIn_r _ [9] (by decide +kernel) (by decide +kernel)
set_option maxRecDepth 20000 in
theorem gJxe99ae_doubleToLongBits_ccdee_Jxe99ae_isNaN_b9ae7 : GoodIn wsJxe99ae_doubleToLongBits_ccdee (va_wsS RJxe99ae 122 yJxe99ae_isNaN_b9ae7 wsJxe99ae_isNaN_b9ae7) := goodIn_app (goodIn_of _ (by decide +kernel)) ggJxe99ae_doubleToLongBits_ccdee_Jxe99ae_isNaN_b9ae7
theorem dJxe99ae_doubleToLongBits_ccdee_0 : decode cJxe99ae_doubleToLongBits_ccdee 0 = .ok (.dload_n 0, 1) := by decide +kernel
theorem dJxe99ae_doubleToLongBits_ccdee_1 : decode cJxe99ae_doubleToLongBits_ccdee 1 = .ok (.invokestatic 122, 3) := by decide +kernel
theorem dJxe99ae_doubleToLongBits_ccdee_4 : decode cJxe99ae_doubleToLongBits_ccdee 4 = .ok (.ifCond .ne 8, 3) := by decide +kernel
theorem dJxe99ae_doubleToLongBits_ccdee_7 : decode cJxe99ae_doubleToLongBits_ccdee 7 = .ok (.dload_n 0, 1) := by decide +kernel
theorem dJxe99ae_doubleToLongBits_ccdee_8 : decode cJxe99ae_doubleToLongBits_ccdee 8 = .ok (.invokestatic 134, 3) := by decide +kernel
theorem dJxe99ae_doubleToLongBits_ccdee_11 : decode cJxe99ae_doubleToLongBits_ccdee 11 = .ok (.lreturn, 1) := by decide +kernel
theorem dJxe99ae_doubleToLongBits_ccdee_12 : decode cJxe99ae_doubleToLongBits_ccdee 12 = .ok (.ldc2_w 137, 3) := by decide +kernel
theorem dJxe99ae_doubleToLongBits_ccdee_15 : decode cJxe99ae_doubleToLongBits_ccdee 15 = .ok (.lreturn, 1) := by decide +kernel
theorem dJ9_max_7cf53_0 : decode cJ9_max_7cf53 0 = .ok (.iload_n 0, 1) := by decide +kernel
theorem dJ9_max_7cf53_1 : decode cJ9_max_7cf53 1 = .ok (.iload_n 1, 1) := by decide +kernel
theorem dJ9_max_7cf53_2 : decode cJ9_max_7cf53 2 = .ok (.if_icmp .lt 7, 3) := by decide +kernel
theorem dJ9_max_7cf53_5 : decode cJ9_max_7cf53 5 = .ok (.iload_n 0, 1) := by decide +kernel
theorem dJ9_max_7cf53_6 : decode cJ9_max_7cf53 6 = .ok (.goto 4, 3) := by decide +kernel
theorem dJ9_max_7cf53_9 : decode cJ9_max_7cf53 9 = .ok (.iload_n 1, 1) := by decide +kernel
theorem dJ9_max_7cf53_10 : decode cJ9_max_7cf53 10 = .ok (.ireturn, 1) := by decide +kernel
theorem dJ9_min_7cf53_0 : decode cJ9_min_7cf53 0 = .ok (.iload_n 0, 1) := by decide +kernel
theorem dJ9_min_7cf53_1 : decode cJ9_min_7cf53 1 = .ok (.iload_n 1, 1) := by decide +kernel
theorem dJ9_min_7cf53_2 : decode cJ9_min_7cf53 2 = .ok (.if_icmp .gt 7, 3) := by decide +kernel
theorem dJ9_min_7cf53_5 : decode cJ9_min_7cf53 5 = .ok (.iload_n 0, 1) := by decide +kernel
theorem dJ9_min_7cf53_6 : decode cJ9_min_7cf53 6 = .ok (.goto 4, 3) := by decide +kernel
theorem dJ9_min_7cf53_9 : decode cJ9_min_7cf53 9 = .ok (.iload_n 1, 1) := by decide +kernel
theorem dJ9_min_7cf53_10 : decode cJ9_min_7cf53 10 = .ok (.ireturn, 1) := by decide +kernel
theorem dJ7_fill_53178_0 : decode cJ7_fill_53178 0 = .ok (.iconst 0, 1) := by decide +kernel
theorem dJ7_fill_53178_1 : decode cJ7_fill_53178 1 = .ok (.istore_n 2, 1) := by decide +kernel
theorem dJ7_fill_53178_2 : decode cJ7_fill_53178 2 = .ok (.aload_n 0, 1) := by decide +kernel
theorem dJ7_fill_53178_3 : decode cJ7_fill_53178 3 = .ok (.arraylength, 1) := by decide +kernel
theorem dJ7_fill_53178_4 : decode cJ7_fill_53178 4 = .ok (.istore_n 3, 1) := by decide +kernel
theorem dJ7_fill_53178_5 : decode cJ7_fill_53178 5 = .ok (.iload_n 2, 1) := by decide +kernel
theorem dJ7_fill_53178_6 : decode cJ7_fill_53178 6 = .ok (.iload_n 3, 1) := by decide +kernel
theorem dJ7_fill_53178_7 : decode cJ7_fill_53178 7 = .ok (.if_icmp .ge 13, 3) := by decide +kernel
theorem dJ7_fill_53178_10 : decode cJ7_fill_53178 10 = .ok (.aload_n 0, 1) := by decide +kernel
theorem dJ7_fill_53178_11 : decode cJ7_fill_53178 11 = .ok (.iload_n 2, 1) := by decide +kernel
theorem dJ7_fill_53178_12 : decode cJ7_fill_53178 12 = .ok (.iload_n 1, 1) := by decide +kernel
theorem dJ7_fill_53178_13 : decode cJ7_fill_53178 13 = .ok (.iastore, 1) := by decide +kernel
theorem dJ7_fill_53178_14 : decode cJ7_fill_53178 14 = .ok (.iinc 2 1, 3) := by decide +kernel
theorem dJ7_fill_53178_17 : decode cJ7_fill_53178 17 = .ok (.goto (-12), 3) := by decide +kernel
theorem dJ7_fill_53178_20 : decode cJ7_fill_53178 20 = .ok (.return_, 1) := by decide +kernel
set_option maxRecDepth 20000 in
theorem ggL_put_X5_put : GoodIn wsL_put wsX5_put := goodIn_ca (goodIn_ca (goodIn_r _ [7, 8, 9, 10, 11, 12, 13, 14, 15, 6, 16, 17, 18, 19, 20, 21, 22, 23, 24, 25, 26, 27, 28, 29, 30, 31, 32, 33, 34, 35, 36, 37, 38, 39, 40, 41, 42, 43, 44, 45, 46, 47, 48, 49, 50, 51, 52, 53, 54, 55, 56, 57, 58, 59, 60, 61, 62, 63, 64, 65, 66, 67, 68, 69, 70, 71, 72, 73, 74, 75, 76, 77] (by decide +kernel) (by decide +kernel)) (goodIn_sub (fun _ h => List.mem_cons_of_mem _ (List.mem_append_left _ (List.mem_append_right _ h))) (by decide +kernel))) (goodIn_sub (fun _ h => List.mem_cons_of_mem _ (List.mem_append_right _ h)) (by decide +kernel))
set_option maxRecDepth 20000 in
theorem gL_put_X5_put : GoodIn wsL_put (wsV RL 7 RX5 yX5_put wsX5_put) := goodIn_app (goodIn_of _ (by decide +kernel)) ggL_put_X5_put
theorem dL_put_0 : decode cL_put 0 = .ok (.aload_n 2, 1) := by decide +kernel
theorem dL_put_1 : decode cL_put 1 = .ok (.iconst 0, 1) := by decide +kernel
theorem dL_put_2 : decode cL_put 2 = .ok (.aload_n 0, 1) := by decide +kernel
theorem dL_put_3 : decode cL_put 3 = .ok (.iload_n 1, 1) := by decide +kernel
theorem dL_put_4 : decode cL_put 4 = .ok (.invokevirtual 7, 3) := by decide +kernel
theorem dL_put_7 : decode cL_put 7 = .ok (.i2l, 1) := by decide +kernel
theorem dL_put_8 : decode cL_put 8 = .ok (.lastore, 1) := by decide +kernel
theorem dL_put_9 : decode cL_put 9 = .ok (.goto 9, 3) := by decide +kernel
theorem dL_put_12 : decode cL_put 12 = .ok (.astore_n 3, 1) := by decide +kernel
theorem dL_put_13 : decode cL_put 13 = .ok (.iconst 1, 1) := by decide +kernel
theorem dL_put_14 : decode cL_put 14 = .ok (.ireturn, 1) := by decide +kernel
theorem dL_put_15 : decode cL_put 15 = .ok (.astore_n 3, 1) := by decide +kernel
theorem dL_put_16 : decode cL_put 16 = .ok (.iconst 2, 1) := by decide +kernel
theorem dL_put_17 : decode cL_put 17 = .ok (.ireturn, 1) := by decide +kernel
theorem dL_put_18 : decode cL_put 18 = .ok (.iconst 0, 1) := by decide +kernel
theorem dL_put_19 : decode cL_put 19 = .ok (.ireturn, 1) := by decide +kernel
set_option maxRecDepth 20000 in
theorem ggL_change_X5_change : GoodIn wsL_change wsX5_change := goodIn_ca (goodIn_ca (goodIn_r _ [7, 8, 9, 10, 11, 12, 13, 14, 15, 16, 17, 18, 19, 20, 21, 6, 22, 23, 24, 25, 26, 27, 28, 29, 30, 31, 32, 33, 34, 35, 36, 37, 38, 39, 40, 41, 42, 43, 44, 45, 46, 47, 48, 49, 50, 51, 52, 53, 54, 55, 56, 57, 58, 59, 60, 61, 62, 63, 64, 65, 66, 67, 68, 69, 70, 71, 72, 73, 74, 75, 76, 77, 78, 79, 80, 81, 82, 83, 84, 85] (by decide +kernel) (by decide +kernel)) (goodIn_sub (fun _ h => List.mem_cons_of_mem _ (List.mem_append_left _ (List.mem_append_right _ h))) (by decide +kernel))) (goodIn_sub (fun _ h => List.mem_cons_of_mem _ (List.mem_append_right _ h)) (by decide +kernel))
set_option maxRecDepth 20000 in
theorem gL_change_X5_change : GoodIn wsL_change (wsV RL 17 RX5 yX5_change wsX5_change) := goodIn_app (goodIn_of _ (by decide +kernel)) ggL_change_X5_change
theorem dL_change_0 : decode cL_change 0 = .ok (.aload_n 3, 1) := by decide +kernel
theorem dL_change_1 : decode cL_change 1 = .ok (.iconst 0, 1) := by decide +kernel
theorem dL_change_2 : decode cL_change 2 = .ok (.aload_n 0, 1) := by decide +kernel
theorem dL_change_3 : decode cL_change 3 = .ok (.iload_n 1, 1) := by decide +kernel
theorem dL_change_4 : decode cL_change 4 = .ok (.iload_n 2, 1) := by decide +kernel
theorem dL_change_5 : decode cL_change 5 = .ok (.invokevirtual 17, 3) := by decide +kernel
theorem dL_change_8 : decode cL_change 8 = .ok (.i2l, 1) := by decide +kernel
theorem dL_change_9 : decode cL_change 9 = .ok (.lastore, 1) := by decide +kernel
theorem dL_change_10 : decode cL_change 10 = .ok (.goto 11, 3) := by decide +kernel
theorem dL_change_13 : decode cL_change 13 = .ok (.astore 4, 2) := by decide +kernel
theorem dL_change_15 : decode cL_change 15 = .ok (.iconst 1, 1) := by decide +kernel
theorem dL_change_16 : decode cL_change 16 = .ok (.ireturn, 1) := by decide +kernel
theorem dL_change_17 : decode cL_change 17 = .ok (.astore 4, 2) := by decide +kernel
theorem dL_change_19 : decode cL_change 19 = .ok (.iconst 2, 1) := by decide +kernel
theorem dL_change_20 : decode cL_change 20 = .ok (.ireturn, 1) := by decide +kernel
theorem dL_change_21 : decode cL_change 21 = .ok (.iconst 0, 1) := by decide +kernel
theorem dL_change_22 : decode cL_change 22 = .ok (.ireturn, 1) := by decide +kernel
set_option maxRecDepth 20000 in
theorem ggL_cut_X5_cut : GoodIn wsL_cut wsX5_cut := goodIn_ca (goodIn_r _ [6, 7, 8, 9, 10, 11, 12, 13, 14, 15, 16, 5, 17, 18, 19, 20, 21, 22, 23, 24, 25, 26, 27, 28, 29, 30, 31, 32, 33, 34, 35, 36, 37, 38, 39, 40, 41, 42, 43, 44, 45, 46, 47, 48, 49, 50, 51, 52, 53, 54, 55, 56, 57, 58, 59, 60, 61, 62, 63, 64, 65, 66, 67, 68] (by decide +kernel) (by decide +kernel)) (goodIn_sub (fun _ h => List.mem_cons_of_mem _ (List.mem_append_right _ h)) (by decide +kernel))
set_option maxRecDepth 20000 in
theorem gL_cut_X5_cut : GoodIn wsL_cut (wsV RL 23 RX5 yX5_cut wsX5_cut) := goodIn_app (goodIn_of _ (by decide +kernel)) ggL_cut_X5_cut
theorem dL_cut_0 : decode cL_cut 0 = .ok (.aload_n 2, 1) := by decide +kernel
theorem dL_cut_1 : decode cL_cut 1 = .ok (.iconst 0, 1) := by decide +kernel
theorem dL_cut_2 : decode cL_cut 2 = .ok (.aload_n 0, 1) := by decide +kernel
theorem dL_cut_3 : decode cL_cut 3 = .ok (.iload_n 1, 1) := by decide +kernel
theorem dL_cut_4 : decode cL_cut 4 = .ok (.invokevirtual 23, 3) := by decide +kernel
theorem dL_cut_7 : decode cL_cut 7 = .ok (.i2l, 1) := by decide +kernel
theorem dL_cut_8 : decode cL_cut 8 = .ok (.lastore, 1) := by decide +kernel
theorem dL_cut_9 : decode cL_cut 9 = .ok (.goto 6, 3) := by decide +kernel
theorem dL_cut_12 : decode cL_cut 12 = .ok (.astore_n 3, 1) := by decide +kernel
theorem dL_cut_13 : decode cL_cut 13 = .ok (.iconst 1, 1) := by decide +kernel
theorem dL_cut_14 : decode cL_cut 14 = .ok (.ireturn, 1) := by decide +kernel
theorem dL_cut_15 : decode cL_cut 15 = .ok (.iconst 0, 1) := by decide +kernel
theorem dL_cut_16 : decode cL_cut 16 = .ok (.ireturn, 1) := by decide +kernel
set_option maxRecDepth 20000 in
theorem ggL_grow_X5_grow : GoodIn wsL_grow wsX5_grow := goodIn_ca (goodIn_ca (goodIn_r _ [7, 8, 9, 10, 11, 12, 13, 14, 15, 6, 16, 17, 18, 19, 20, 21, 22, 23, 24, 25, 26, 27, 28, 29, 30, 31, 32, 33, 34, 35, 36, 37, 38, 39, 40, 41, 42, 43, 44, 45, 46, 47, 48, 49, 50, 51, 52, 53, 54, 55, 56, 57, 58, 59, 60, 61, 62, 63, 64, 65, 66, 67, 68, 69, 70, 71, 72, 73, 74, 75, 76, 77, 78, 79, 80, 81, 82, 83] (by decide +kernel) (by decide +kernel)) (goodIn_sub (fun _ h => List.mem_cons_of_mem _ (List.mem_append_left _ (List.mem_append_right _ h))) (by decide +kernel))) (goodIn_sub (fun _ h => List.mem_cons_of_mem _ (List.mem_append_right _ h)) (by decide +kernel))
set_option maxRecDepth 20000 in
theorem gL_grow_X5_grow : GoodIn wsL_grow (wsV RL 26 RX5 yX5_grow wsX5_grow) := goodIn_app (goodIn_of _ (by decide +kernel)) ggL_grow_X5_grow
theorem dL_grow_0 : decode cL_grow 0 = .ok (.aload 4, 2) := by decide +kernel
theorem dL_grow_2 : decode cL_grow 2 = .ok (.iconst 0, 1) := by decide +kernel
theorem dL_grow_3 : decode cL_grow 3 = .ok (.aload_n 0, 1) := by decide +kernel
theorem dL_grow_4 : decode cL_grow 4 = .ok (.iload_n 1, 1) := by decide +kernel
theorem dL_grow_5 : decode cL_grow 5 = .ok (.iload_n 2, 1) := by decide +kernel
theorem dL_grow_6 : decode cL_grow 6 = .ok (.iload_n 3, 1) := by decide +kernel
theorem dL_grow_7 : decode cL_grow 7 = .ok (.invokevirtual 26, 3) := by decide +kernel
theorem dL_grow_10 : decode cL_grow 10 = .ok (.i2l, 1) := by decide +kernel
theorem dL_grow_11 : decode cL_grow 11 = .ok (.lastore, 1) := by decide +kernel
theorem dL_grow_12 : decode cL_grow 12 = .ok (.goto 11, 3) := by decide +kernel
theorem dL_grow_15 : decode cL_grow 15 = .ok (.astore 5, 2) := by decide +kernel
theorem dL_grow_17 : decode cL_grow 17 = .ok (.iconst 1, 1) := by decide +kernel
theorem dL_grow_18 : decode cL_grow 18 = .ok (.ireturn, 1) := by decide +kernel
theorem dL_grow_19 : decode cL_grow 19 = .ok (.astore 5, 2) := by decide +kernel
theorem dL_grow_21 : decode cL_grow 21 = .ok (.iconst 2, 1) := by decide +kernel
theorem dL_grow_22 : decode cL_grow 22 = .ok (.ireturn, 1) := by decide +kernel
theorem dL_grow_23 : decode cL_grow 23 = .ok (.iconst 0, 1) := by decide +kernel
theorem dL_grow_24 : decode cL_grow 24 = .ok (.ireturn, 1) := by decide +kernel
set_option maxRecDepth 20000 in
theorem ggL_keep_X5_keep : GoodIn wsL_keep wsX5_keep := goodIn_ca (goodIn_ca (goodIn_r _ [7, 8, 9, 10, 11, 12, 13, 14, 15, 6, 16, 17, 18, 19, 20, 21, 22, 23, 24, 25, 26, 27, 28, 29, 30, 31, 32, 33, 34, 35, 36, 37, 38, 39, 40, 41, 42, 43, 44, 45, 46, 47, 48, 49, 50, 51, 52, 53, 54, 55, 56, 57, 58, 59, 60, 61, 62, 63, 64, 65, 66, 67, 68, 69, 70, 71, 72, 73, 74, 75, 76, 77, 78, 79, 80, 81, 82, 83, 84, 85, 86, 87, 88, 89, 90, 91, 92, 93, 94, 95, 96, 97, 98] (by decide +kernel) (by decide +kernel)) (goodIn_sub (fun _ h => List.mem_cons_of_mem _ (List.mem_append_left _ (List.mem_append_right _ h))) (by decide +kernel))) (goodIn_sub (fun _ h => List.mem_cons_of_mem _ (List.mem_append_right _ h)) (by decide +kernel))
set_option maxRecDepth 20000 in
theorem gL_keep_X5_keep : GoodIn wsL_keep (wsV RL 30 RX5 yX5_keep wsX5_keep) := goodIn_app (goodIn_of _ (by decide +kernel)) ggL_keep_X5_keep
theorem dL_keep_0 : decode cL_keep 0 = .ok (.aload_n 3, 1) := by decide +kernel
theorem dL_keep_1 : decode cL_keep 1 = .ok (.iconst 0, 1) := by decide +kernel
theorem dL_keep_2 : decode cL_keep 2 = .ok (.aload_n 0, 1) := by decide +kernel
theorem dL_keep_3 : decode cL_keep 3 = .ok (.iload_n 1, 1) := by decide +kernel
theorem dL_keep_4 : decode cL_keep 4 = .ok (.iload_n 2, 1) := by decide +kernel
theorem dL_keep_5 : decode cL_keep 5 = .ok (.invokevirtual 30, 3) := by decide +kernel
theorem dL_keep_8 : decode cL_keep 8 = .ok (.i2l, 1) := by decide +kernel
theorem dL_keep_9 : decode cL_keep 9 = .ok (.lastore, 1) := by decide +kernel
theorem dL_keep_10 : decode cL_keep 10 = .ok (.goto 11, 3) := by decide +kernel
theorem dL_keep_13 : decode cL_keep 13 = .ok (.astore 4, 2) := by decide +kernel
theorem dL_keep_15 : decode cL_keep 15 = .ok (.iconst 1, 1) := by decide +kernel
theorem dL_keep_16 : decode cL_keep 16 = .ok (.ireturn, 1) := by decide +kernel
theorem dL_keep_17 : decode cL_keep 17 = .ok (.astore 4, 2) := by decide +kernel
theorem dL_keep_19 : decode cL_keep 19 = .ok (.iconst 2, 1) := by decide +kernel
theorem dL_keep_20 : decode cL_keep 20 = .ok (.ireturn, 1) := by decide +kernel
theorem dL_keep_21 : decode cL_keep 21 = .ok (.iconst 0, 1) := by decide +kernel
theorem dL_keep_22 : decode cL_keep 22 = .ok (.ireturn, 1) := by decide +kernel
set_option maxRecDepth 20000 in
theorem ggL_drop_X5_drop : GoodIn wsL_drop wsX5_drop := goodIn_ca (goodIn_r _ [6, 7, 8, 9, 10, 11, 12, 13, 14, 15, 16, 17, 18, 19, 20, 21, 22, 23, 24, 25, 26, 27, 28, 29, 30, 31, 32, 33, 34, 35, 36, 37, 38, 39, 40, 41, 42, 43, 44, 5, 45, 46, 47, 48, 49, 50, 51, 52, 53, 54, 55, 56, 57, 58, 59, 60, 61, 62, 63, 64, 65, 66, 67, 68, 69, 70, 71, 72, 73, 74, 75, 76, 77, 78, 79, 80, 81, 82] (by decide +kernel) (by decide +kernel)) (goodIn_sub (fun _ h => List.mem_cons_of_mem _ (List.mem_append_right _ h)) (by decide +kernel))
set_option maxRecDepth 20000 in
theorem gL_drop_X5_drop : GoodIn wsL_drop (wsV RL 33 RX5 yX5_drop wsX5_drop) := goodIn_app (goodIn_of _ (by decide +kernel)) ggL_drop_X5_drop
theorem dL_drop_0 : decode cL_drop 0 = .ok (.aload_n 2, 1) := by decide +kernel
theorem dL_drop_1 : decode cL_drop 1 = .ok (.iconst 0, 1) := by decide +kernel
theorem dL_drop_2 : decode cL_drop 2 = .ok (.aload_n 0, 1) := by decide +kernel
theorem dL_drop_3 : decode cL_drop 3 = .ok (.iload_n 1, 1) := by decide +kernel
theorem dL_drop_4 : decode cL_drop 4 = .ok (.invokevirtual 33, 3) := by decide +kernel
theorem dL_drop_7 : decode cL_drop 7 = .ok (.i2l, 1) := by decide +kernel
theorem dL_drop_8 : decode cL_drop 8 = .ok (.lastore, 1) := by decide +kernel
theorem dL_drop_9 : decode cL_drop 9 = .ok (.goto 6, 3) := by decide +kernel
theorem dL_drop_12 : decode cL_drop 12 = .ok (.astore_n 3, 1) := by decide +kernel
theorem dL_drop_13 : decode cL_drop 13 = .ok (.iconst 1, 1) := by decide +kernel
theorem dL_drop_14 : decode cL_drop 14 = .ok (.ireturn, 1) := by decide +kernel
theorem dL_drop_15 : decode cL_drop 15 = .ok (.iconst 0, 1) := by decide +kernel
theorem dL_drop_16 : decode cL_drop 16 = .ok (.ireturn, 1) := by decide +kernel
set_option maxRecDepth 20000 in
theorem ggL_find_X5_find : GoodIn wsL_find wsX5_find := goodIn_ca (goodIn_ca (goodIn_r _ [7, 8, 9, 10, 11, 12, 13, 14, 15, 6, 16, 17, 18, 19, 20, 21, 22, 23, 24, 25, 26, 27, 28, 29, 30, 31, 32, 33, 34, 35, 36, 37, 38, 39, 40, 41, 42, 43, 44, 45, 46, 47, 48, 49, 50, 51, 52, 53, 54, 55, 56, 57, 58, 59, 60, 61, 62, 63, 64, 65, 66, 67, 68, 69, 70, 71, 72, 73, 74, 75, 76, 77, 78, 79, 80, 81, 82, 83, 84, 85, 86, 87, 88, 89, 90, 91, 92, 93, 94, 95, 96, 97, 98, 99, 100, 101, 102, 103, 104, 105, 106, 107, 108, 109, 110, 111, 112, 113, 114, 115, 116, 117, 118, 119, 120, 121, 122, 123, 124, 125, 126, 127, 128, 129, 130, 131, 132, 133, 134, 135, 136, 137, 138, 139, 140, 141, 142, 143, 144, 145, 146, 147, 148, 149, 150, 151, 152, 153] (by decide +kernel) (by decide +kernel)) (goodIn_sub (fun _ h => List.mem_cons_of_mem _ (List.mem_append_left _ (List.mem_append_right _ h))) (by decide +kernel))) (goodIn_sub (fun _ h => List.mem_cons_of_mem _ (List.mem_append_right _ h)) (by decide +kernel))
set_option maxRecDepth 20000 in
theorem gL_find_X5_find : GoodIn wsL_find (wsV RL 36 RX5 yX5_find wsX5_find) := goodIn_app (goodIn_of _ (by decide +kernel)) ggL_find_X5_find
theorem dL_find_0 : decode cL_find 0 = .ok (.aload_n 3, 1) := by decide +kernel
theorem dL_find_1 : decode cL_find 1 = .ok (.iconst 0, 1) := by decide +kernel
theorem dL_find_2 : decode cL_find 2 = .ok (.aload_n 0, 1) := by decide +kernel
theorem dL_find_3 : decode cL_find 3 = .ok (.iload_n 1, 1) := by decide +kernel
theorem dL_find_4 : decode cL_find 4 = .ok (.iload_n 2, 1) := by decide +kernel
theorem dL_find_5 : decode cL_find 5 = .ok (.invokevirtual 36, 3) := by decide +kernel
theorem dL_find_8 : decode cL_find 8 = .ok (.i2l, 1) := by decide +kernel
theorem dL_find_9 : decode cL_find 9 = .ok (.lastore, 1) := by decide +kernel
theorem dL_find_10 : decode cL_find 10 = .ok (.goto 11, 3) := by decide +kernel
theorem dL_find_13 : decode cL_find 13 = .ok (.astore 4, 2) := by decide +kernel
theorem dL_find_15 : decode cL_find 15 = .ok (.iconst 1, 1) := by decide +kernel
theorem dL_find_16 : decode cL_find 16 = .ok (.ireturn, 1) := by decide +kernel
theorem dL_find_17 : decode cL_find 17 = .ok (.astore 4, 2) := by decide +kernel
theorem dL_find_19 : decode cL_find 19 = .ok (.iconst 2, 1) := by decide +kernel
theorem dL_find_20 : decode cL_find 20 = .ok (.ireturn, 1) := by decide +kernel
theorem dL_find_21 : decode cL_find 21 = .ok (.iconst 0, 1) := by decide +kernel
theorem dL_find_22 : decode cL_find 22 = .ok (.ireturn, 1) := by decide +kernel
set_option maxRecDepth 20000 in
theorem ggL_set_X5_set : GoodIn wsL_set wsX5_set := goodIn_ca (goodIn_ca (goodIn_r _ [7, 8, 9, 10, 11, 12, 13, 14, 15, 6, 16, 17, 18, 19, 20, 21, 22, 23, 24, 25, 26, 27, 28, 29, 30, 31, 32, 33, 34, 35, 36, 37, 38, 39, 40, 41, 42, 43, 44, 45, 46, 47, 48, 49, 50, 51, 52, 53, 54, 55, 56, 57, 58, 59, 60, 61, 62, 63, 64, 65, 66, 67, 68, 69, 70, 71, 72, 73, 74, 75, 76, 77, 78, 79] (by decide +kernel) (by decide +kernel)) (goodIn_sub (fun _ h => List.mem_cons_of_mem _ (List.mem_append_left _ (List.mem_append_right _ h))) (by decide +kernel))) (goodIn_sub (fun _ h => List.mem_cons_of_mem _ (List.mem_append_right _ h)) (by decide +kernel))
set_option maxRecDepth 20000 in
theorem gL_set_X5_set : GoodIn wsL_set (wsV RL 39 RX5 yX5_set wsX5_set) := goodIn_app (goodIn_of _ (by decide +kernel)) ggL_set_X5_set
theorem dL_set_0 : decode cL_set 0 = .ok (.aload_n 3, 1) := by decide +kernel
theorem dL_set_1 : decode cL_set 1 = .ok (.iconst 0, 1) := by decide +kernel
theorem dL_set_2 : decode cL_set 2 = .ok (.aload_n 0, 1) := by decide +kernel
theorem dL_set_3 : decode cL_set 3 = .ok (.iload_n 1, 1) := by decide +kernel
theorem dL_set_4 : decode cL_set 4 = .ok (.iload_n 2, 1) := by decide +kernel
theorem dL_set_5 : decode cL_set 5 = .ok (.invokevirtual 39, 3) := by decide +kernel
theorem dL_set_8 : decode cL_set 8 = .ok (.i2l, 1) := by decide +kernel
theorem dL_set_9 : decode cL_set 9 = .ok (.lastore, 1) := by decide +kernel
theorem dL_set_10 : decode cL_set 10 = .ok (.goto 11, 3) := by decide +kernel
theorem dL_set_13 : decode cL_set 13 = .ok (.astore 4, 2) := by decide +kernel
theorem dL_set_15 : decode cL_set 15 = .ok (.iconst 1, 1) := by decide +kernel
theorem dL_set_16 : decode cL_set 16 = .ok (.ireturn, 1) := by decide +kernel
theorem dL_set_17 : decode cL_set 17 = .ok (.astore 4, 2) := by decide +kernel
theorem dL_set_19 : decode cL_set 19 = .ok (.iconst 2, 1) := by decide +kernel
theorem dL_set_20 : decode cL_set 20 = .ok (.ireturn, 1) := by decide +kernel
theorem dL_set_21 : decode cL_set 21 = .ok (.iconst 0, 1) := by decide +kernel
theorem dL_set_22 : decode cL_set 22 = .ok (.ireturn, 1) := by decide +kernel
set_option maxRecDepth 20000 in
theorem ggL_append_X5_append : GoodIn wsL_append wsX5_append := goodIn_ca (goodIn_ca (goodIn_r _ [7, 8, 9, 10, 11, 12, 13, 14, 6, 15, 16, 17, 18, 19, 20, 21, 22, 23, 24, 25, 26, 27, 28, 29, 30, 31, 32] (by decide +kernel) (by decide +kernel)) (goodIn_sub (fun _ h => List.mem_cons_of_mem _ (List.mem_append_left _ (List.mem_append_right _ h))) (by decide +kernel))) (goodIn_sub (fun _ h => List.mem_cons_of_mem _ (List.mem_append_right _ h)) (by decide +kernel))
set_option maxRecDepth 20000 in
theorem gL_append_X5_append : GoodIn wsL_append (wsV RL 42 RX5 yX5_append wsX5_append) := goodIn_app (goodIn_of _ (by decide +kernel)) ggL_append_X5_append
theorem dL_append_0 : decode cL_append 0 = .ok (.aload_n 2, 1) := by decide +kernel
theorem dL_append_1 : decode cL_append 1 = .ok (.iconst 0, 1) := by decide +kernel
theorem dL_append_2 : decode cL_append 2 = .ok (.aload_n 0, 1) := by decide +kernel
theorem dL_append_3 : decode cL_append 3 = .ok (.iload_n 1, 1) := by decide +kernel
theorem dL_append_4 : decode cL_append 4 = .ok (.invokevirtual 42, 3) := by decide +kernel
theorem dL_append_7 : decode cL_append 7 = .ok (.i2l, 1) := by decide +kernel
theorem dL_append_8 : decode cL_append 8 = .ok (.lastore, 1) := by decide +kernel
theorem dL_append_9 : decode cL_append 9 = .ok (.goto 9, 3) := by decide +kernel
theorem dL_append_12 : decode cL_append 12 = .ok (.astore_n 3, 1) := by decide +kernel
theorem dL_append_13 : decode cL_append 13 = .ok (.iconst 1, 1) := by decide +kernel
theorem dL_append_14 : decode cL_append 14 = .ok (.ireturn, 1) := by decide +kernel
theorem dL_append_15 : decode cL_append 15 = .ok (.astore_n 3, 1) := by decide +kernel
theorem dL_append_16 : decode cL_append 16 = .ok (.iconst 2, 1) := by decide +kernel
theorem dL_append_17 : decode cL_append 17 = .ok (.ireturn, 1) := by decide +kernel
theorem dL_append_18 : decode cL_append 18 = .ok (.iconst 0, 1) := by decide +kernel
theorem dL_append_19 : decode cL_append 19 = .ok (.ireturn, 1) := by decide +kernel
set_option maxRecDepth 20000 in
theorem ggL_putAll_X5_putAll : GoodIn wsL_putAll wsX5_putAll := goodIn_ca (goodIn_ca (goodIn_r _ [7, 8, 9, 10, 11, 12, 13, 14, 15, 16, 17, 18, 19, 20, 21, 22, 23, 24, 25, 26, 6, 27, 28, 29, 30, 31, 32, 33, 34, 35, 36, 37, 38, 39, 40, 41, 42, 43, 44, 45, 46, 47, 48, 49, 50, 51, 52, 53, 54, 55, 56, 57, 58, 59, 60, 61, 62, 63, 64, 65, 66, 67, 68, 69, 70, 71, 72, 73, 74, 75, 76, 77, 78, 79, 80, 81, 82, 83, 84, 85, 86, 87, 88, 89, 90, 91, 92, 93, 94, 95, 96, 97, 98, 99, 100, 101, 102, 103, 104, 105, 106, 107, 108, 109, 110, 111] (by decide +kernel) (by decide +kernel)) (goodIn_sub (fun _ h => List.mem_cons_of_mem _ (List.mem_append_left _ (List.mem_append_right _ h))) (by decide +kernel))) (goodIn_sub (fun _ h => List.mem_cons_of_mem _ (List.mem_append_right _ h)) (by decide +kernel))
set_option maxRecDepth 20000 in
theorem gL_putAll_X5_putAll : GoodIn wsL_putAll (wsV RL 45 RX5 yX5_putAll wsX5_putAll) := goodIn_app (goodIn_of _ (by decide +kernel)) ggL_putAll_X5_putAll
theorem dL_putAll_0 : decode cL_putAll 0 = .ok (.aload_n 1, 1) := by decide +kernel
theorem dL_putAll_1 : decode cL_putAll 1 = .ok (.iconst 0, 1) := by decide +kernel
theorem dL_putAll_2 : decode cL_putAll 2 = .ok (.aload_n 0, 1) := by decide +kernel
theorem dL_putAll_3 : decode cL_putAll 3 = .ok (.invokevirtual 45, 3) := by decide +kernel
theorem dL_putAll_6 : decode cL_putAll 6 = .ok (.i2l, 1) := by decide +kernel
theorem dL_putAll_7 : decode cL_putAll 7 = .ok (.lastore, 1) := by decide +kernel
theorem dL_putAll_8 : decode cL_putAll 8 = .ok (.goto 9, 3) := by decide +kernel
theorem dL_putAll_11 : decode cL_putAll 11 = .ok (.astore_n 2, 1) := by decide +kernel
theorem dL_putAll_12 : decode cL_putAll 12 = .ok (.iconst 1, 1) := by decide +kernel
theorem dL_putAll_13 : decode cL_putAll 13 = .ok (.ireturn, 1) := by decide +kernel
theorem dL_putAll_14 : decode cL_putAll 14 = .ok (.astore_n 2, 1) := by decide +kernel
theorem dL_putAll_15 : decode cL_putAll 15 = .ok (.iconst 2, 1) := by decide +kernel
theorem dL_putAll_16 : decode cL_putAll 16 = .ok (.ireturn, 1) := by decide +kernel
theorem dL_putAll_17 : decode cL_putAll 17 = .ok (.iconst 0, 1) := by decide +kernel
theorem dL_putAll_18 : decode cL_putAll 18 = .ok (.ireturn, 1) := by decide +kernel
set_option maxRecDepth 20000 in
theorem ggL_undo_X5_undo : GoodIn wsL_undo wsX5_undo := goodIn_ca (goodIn_r _ [6, 7, 8, 9, 10, 11, 12, 13, 14, 15, 16, 17, 18, 19, 20, 21, 22, 23, 24, 25, 26, 27, 28, 29, 30, 31, 32, 33, 34, 35, 36, 5, 37, 38, 39, 40, 41, 42, 43, 44, 45, 46, 47, 48, 49, 50, 51, 52, 53, 54, 55, 56, 57, 58, 59, 60, 61] (by decide +kernel) (by decide +kernel)) (goodIn_sub (fun _ h => List.mem_cons_of_mem _ (List.mem_append_right _ h)) (by decide +kernel))
set_option maxRecDepth 20000 in
theorem gL_undo_X5_undo : GoodIn wsL_undo (wsV RL 49 RX5 yX5_undo wsX5_undo) := goodIn_app (goodIn_of _ (by decide +kernel)) ggL_undo_X5_undo
theorem dL_undo_0 : decode cL_undo 0 = .ok (.aload_n 1, 1) := by decide +kernel
theorem dL_undo_1 : decode cL_undo 1 = .ok (.iconst 0, 1) := by decide +kernel
theorem dL_undo_2 : decode cL_undo 2 = .ok (.aload_n 0, 1) := by decide +kernel
theorem dL_undo_3 : decode cL_undo 3 = .ok (.invokevirtual 49, 3) := by decide +kernel
theorem dL_undo_6 : decode cL_undo 6 = .ok (.i2l, 1) := by decide +kernel
theorem dL_undo_7 : decode cL_undo 7 = .ok (.lastore, 1) := by decide +kernel
theorem dL_undo_8 : decode cL_undo 8 = .ok (.goto 6, 3) := by decide +kernel
theorem dL_undo_11 : decode cL_undo 11 = .ok (.astore_n 2, 1) := by decide +kernel
theorem dL_undo_12 : decode cL_undo 12 = .ok (.iconst 1, 1) := by decide +kernel
theorem dL_undo_13 : decode cL_undo 13 = .ok (.ireturn, 1) := by decide +kernel
theorem dL_undo_14 : decode cL_undo 14 = .ok (.iconst 0, 1) := by decide +kernel
theorem dL_undo_15 : decode cL_undo 15 = .ok (.ireturn, 1) := by decide +kernel
set_option maxRecDepth 20000 in
theorem ggL_sign_X5_sign : GoodIn wsL_sign wsX5_sign := goodIn_ca (goodIn_r _ [6, 7, 8, 9, 10, 11, 12, 13, 14, 15, 16, 17, 18, 19, 20, 21, 22, 23, 24, 25, 26, 27, 28, 29] (by decide +kernel) (by decide +kernel)) (goodIn_sub (fun _ h => List.mem_cons_of_mem _ (List.mem_append_right _ h)) (by decide +kernel))
set_option maxRecDepth 20000 in
theorem gL_sign_X5_sign : GoodIn wsL_sign (wsV RL 52 RX5 yX5_sign wsX5_sign) := goodIn_app (goodIn_of _ (by decide +kernel)) ggL_sign_X5_sign
theorem dL_sign_0 : decode cL_sign 0 = .ok (.aload_n 2, 1) := by decide +kernel
theorem dL_sign_1 : decode cL_sign 1 = .ok (.iconst 0, 1) := by decide +kernel
theorem dL_sign_2 : decode cL_sign 2 = .ok (.aload_n 0, 1) := by decide +kernel
theorem dL_sign_3 : decode cL_sign 3 = .ok (.iload_n 1, 1) := by decide +kernel
theorem dL_sign_4 : decode cL_sign 4 = .ok (.invokevirtual 52, 3) := by decide +kernel
theorem dL_sign_7 : decode cL_sign 7 = .ok (.i2l, 1) := by decide +kernel
theorem dL_sign_8 : decode cL_sign 8 = .ok (.lastore, 1) := by decide +kernel
theorem dL_sign_9 : decode cL_sign 9 = .ok (.goto 6, 3) := by decide +kernel
theorem dL_sign_12 : decode cL_sign 12 = .ok (.astore_n 3, 1) := by decide +kernel
theorem dL_sign_13 : decode cL_sign 13 = .ok (.iconst 1, 1) := by decide +kernel
theorem dL_sign_14 : decode cL_sign 14 = .ok (.ireturn, 1) := by decide +kernel
theorem dL_sign_15 : decode cL_sign 15 = .ok (.iconst 0, 1) := by decide +kernel
theorem dL_sign_16 : decode cL_sign 16 = .ok (.ireturn, 1) := by decide +kernel
set_option maxRecDepth 20000 in
theorem ggL_period_X5_period : GoodIn wsL_period wsX5_period := goodIn_ca (goodIn_ca (goodIn_r _ [7, 8, 9, 10, 11, 12, 13, 14, 15, 16, 17, 18, 19, 20, 21, 22, 6, 23, 24, 25, 26, 27, 28, 29, 30, 31, 32, 33, 34, 35, 36, 37, 38, 39, 40, 41, 42, 43, 44, 45, 46, 47, 48, 49, 50, 51, 52, 53, 54, 55, 56, 57, 58, 59, 60, 61, 62, 63, 64, 65, 66, 67, 68, 69, 70, 71, 72, 73, 74, 75, 76, 77, 78, 79, 80, 81, 82, 83, 84, 85, 86, 87, 88, 89, 90, 91, 92, 93, 94, 95, 96, 97, 98, 99, 100, 101, 102, 103, 104, 105, 106, 107, 108, 109, 110, 111, 112, 113, 114, 115, 116, 117, 118, 119, 120, 121, 122, 123, 124, 125, 126, 127, 128, 129, 130, 131, 132, 133, 134, 135, 136, 137, 138, 139, 140, 141, 142, 143, 144, 145, 146, 147, 148, 149, 150, 151, 152, 153, 154, 155, 156, 157, 158, 159, 160, 161, 162, 163, 164, 165, 166, 167, 168, 169, 170, 171, 172, 173, 174, 175, 176, 177, 178, 179, 180, 181, 182, 183] (by decide +kernel) (by decide +kernel)) (goodIn_sub (fun _ h => List.mem_cons_of_mem _ (List.mem_append_left _ (List.mem_append_right _ h))) (by decide +kernel))) (goodIn_sub (fun _ h => List.mem_cons_of_mem _ (List.mem_append_right _ h)) (by decide +kernel))
set_option maxRecDepth 20000 in
theorem gL_period_X5_period : GoodIn wsL_period (wsV RL 55 RX5 yX5_period wsX5_period) := goodIn_app (goodIn_of _ (by decide +kernel)) ggL_period_X5_period
theorem dL_period_0 : decode cL_period 0 = .ok (.aload_n 3, 1) := by decide +kernel
theorem dL_period_1 : decode cL_period 1 = .ok (.iconst 0, 1) := by decide +kernel
theorem dL_period_2 : decode cL_period 2 = .ok (.aload_n 0, 1) := by decide +kernel
theorem dL_period_3 : decode cL_period 3 = .ok (.iload_n 1, 1) := by decide +kernel
theorem dL_period_4 : decode cL_period 4 = .ok (.iload_n 2, 1) := by decide +kernel
theorem dL_period_5 : decode cL_period 5 = .ok (.invokevirtual 55, 3) := by decide +kernel
theorem dL_period_8 : decode cL_period 8 = .ok (.i2l, 1) := by decide +kernel
theorem dL_period_9 : decode cL_period 9 = .ok (.lastore, 1) := by decide +kernel
theorem dL_period_10 : decode cL_period 10 = .ok (.goto 11, 3) := by decide +kernel
theorem dL_period_13 : decode cL_period 13 = .ok (.astore 4, 2) := by decide +kernel
theorem dL_period_15 : decode cL_period 15 = .ok (.iconst 1, 1) := by decide +kernel
theorem dL_period_16 : decode cL_period 16 = .ok (.ireturn, 1) := by decide +kernel
theorem dL_period_17 : decode cL_period 17 = .ok (.astore 4, 2) := by decide +kernel
theorem dL_period_19 : decode cL_period 19 = .ok (.iconst 2, 1) := by decide +kernel
theorem dL_period_20 : decode cL_period 20 = .ok (.ireturn, 1) := by decide +kernel
theorem dL_period_21 : decode cL_period 21 = .ok (.iconst 0, 1) := by decide +kernel
theorem dL_period_22 : decode cL_period 22 = .ok (.ireturn, 1) := by decide +kernel
set_option maxRecDepth 20000 in
theorem ggL_remainder_X5_remainder : GoodIn wsL_remainder wsX5_remainder := goodIn_ca (goodIn_ca (goodIn_r _ [7, 8, 9, 10, 11, 12, 13, 14, 15, 16, 17, 18, 19, 20, 21, 22, 23, 24, 25, 6, 26, 27, 28, 29, 30, 31, 32, 33, 34, 35, 36, 37, 38, 39, 40, 41, 42, 43, 44, 45, 46, 47, 48, 49, 50, 51, 52, 53, 54, 55, 56, 57, 58, 59, 60, 61, 62, 63, 64, 65, 66, 67, 68, 69, 70, 71, 72, 73, 74, 75, 76, 77, 78, 79, 80, 81, 82, 83, 84, 85, 86, 87, 88, 89, 90, 91, 92, 93, 94, 95, 96, 97, 98, 99, 100, 101, 102, 103, 104, 105, 106, 107, 108, 109] (by decide +kernel) (by decide +kernel)) (goodIn_sub (fun _ h => List.mem_cons_of_mem _ (List.mem_append_left _ (List.mem_append_right _ h))) (by decide +kernel))) (goodIn_sub (fun _ h => List.mem_cons_of_mem _ (List.mem_append_right _ h)) (by decide +kernel))
set_option maxRecDepth 20000 in
theorem gL_remainder_X5_remainder : GoodIn wsL_remainder (wsV RL 58 RX5 yX5_remainder wsX5_remainder) := goodIn_app (goodIn_of _ (by decide +kernel)) ggL_remainder_X5_remainder
theorem dL_remainder_0 : decode cL_remainder 0 = .ok (.aload 4, 2) := by decide +kernel
theorem dL_remainder_2 : decode cL_remainder 2 = .ok (.iconst 0, 1) := by decide +kernel
theorem dL_remainder_3 : decode cL_remainder 3 = .ok (.aload_n 0, 1) := by decide +kernel
theorem dL_remainder_4 : decode cL_remainder 4 = .ok (.iload_n 1, 1) := by decide +kernel
theorem dL_remainder_5 : decode cL_remainder 5 = .ok (.iload_n 2, 1) := by decide +kernel
theorem dL_remainder_6 : decode cL_remainder 6 = .ok (.iload_n 3, 1) := by decide +kernel
theorem dL_remainder_7 : decode cL_remainder 7 = .ok (.invokevirtual 58, 3) := by decide +kernel
theorem dL_remainder_10 : decode cL_remainder 10 = .ok (.i2l, 1) := by decide +kernel
theorem dL_remainder_11 : decode cL_remainder 11 = .ok (.lastore, 1) := by decide +kernel
theorem dL_remainder_12 : decode cL_remainder 12 = .ok (.goto 11, 3) := by decide +kernel
theorem dL_remainder_15 : decode cL_remainder 15 = .ok (.astore 5, 2) := by decide +kernel
theorem dL_remainder_17 : decode cL_remainder 17 = .ok (.iconst 1, 1) := by decide +kernel
theorem dL_remainder_18 : decode cL_remainder 18 = .ok (.ireturn, 1) := by decide +kernel
theorem dL_remainder_19 : decode cL_remainder 19 = .ok (.astore 5, 2) := by decide +kernel
theorem dL_remainder_21 : decode cL_remainder 21 = .ok (.iconst 2, 1) := by decide +kernel
theorem dL_remainder_22 : decode cL_remainder 22 = .ok (.ireturn, 1) := by decide +kernel
theorem dL_remainder_23 : decode cL_remainder 23 = .ok (.iconst 0, 1) := by decide +kernel
theorem dL_remainder_24 : decode cL_remainder 24 = .ok (.ireturn, 1) := by decide +kernel
set_option maxRecDepth 20000 in
theorem ggL_told_X5_told : GoodIn wsL_told wsX5_told := goodIn_ca (goodIn_ca (goodIn_r _ [7, 8, 9, 10, 11, 12, 13, 14, 15, 16, 17, 18, 19, 20, 21, 22, 6, 23, 24, 25, 26, 27, 28, 29, 30, 31, 32, 33, 34, 35, 36, 37, 38, 39, 40, 41, 42, 43, 44, 45, 46, 47, 48, 49, 50, 51, 52, 53, 54, 55, 56, 57, 58, 59, 60, 61, 62, 63, 64, 65, 66, 67, 68, 69, 70, 71, 72, 73, 74, 75, 76, 77, 78, 79, 80, 81, 82, 83, 84, 85, 86, 87, 88, 89, 90, 91, 92, 93, 94, 95, 96, 97, 98, 99, 100, 101, 102, 103, 104, 105, 106, 107, 108, 109, 110, 111, 112, 113, 114, 115, 116, 117, 118, 119, 120, 121, 122, 123, 124, 125, 126, 127, 128, 129, 130, 131, 132, 133, 134, 135, 136, 137, 138, 139, 140, 141, 142, 143, 144, 145, 146, 147, 148, 149, 150, 151, 152, 153, 154, 155, 156, 157, 158, 159, 160, 161, 162, 163, 164, 165] (by decide +kernel) (by decide +kernel)) (goodIn_sub (fun _ h => List.mem_cons_of_mem _ (List.mem_append_left _ (List.mem_append_right _ h))) (by decide +kernel))) (goodIn_sub (fun _ h => List.mem_cons_of_mem _ (List.mem_append_right _ h)) (by decide +kernel))
set_option maxRecDepth 20000 in
theorem gL_told_X5_told : GoodIn wsL_told (wsV RL 61 RX5 yX5_told wsX5_told) := goodIn_app (goodIn_of _ (by decide +kernel)) ggL_told_X5_told
theorem dL_told_0 : decode cL_told 0 = .ok (.aload_n 3, 1) := by decide +kernel
theorem dL_told_1 : decode cL_told 1 = .ok (.iconst 0, 1) := by decide +kernel
theorem dL_told_2 : decode cL_told 2 = .ok (.aload_n 0, 1) := by decide +kernel
theorem dL_told_3 : decode cL_told 3 = .ok (.iload_n 1, 1) := by decide +kernel
theorem dL_told_4 : decode cL_told 4 = .ok (.iload_n 2, 1) := by decide +kernel
theorem dL_told_5 : decode cL_told 5 = .ok (.invokevirtual 61, 3) := by decide +kernel
theorem dL_told_8 : decode cL_told 8 = .ok (.i2l, 1) := by decide +kernel
theorem dL_told_9 : decode cL_told 9 = .ok (.lastore, 1) := by decide +kernel
theorem dL_told_10 : decode cL_told 10 = .ok (.goto 11, 3) := by decide +kernel
theorem dL_told_13 : decode cL_told 13 = .ok (.astore 4, 2) := by decide +kernel
theorem dL_told_15 : decode cL_told 15 = .ok (.iconst 1, 1) := by decide +kernel
theorem dL_told_16 : decode cL_told 16 = .ok (.ireturn, 1) := by decide +kernel
theorem dL_told_17 : decode cL_told 17 = .ok (.astore 4, 2) := by decide +kernel
theorem dL_told_19 : decode cL_told 19 = .ok (.iconst 2, 1) := by decide +kernel
theorem dL_told_20 : decode cL_told 20 = .ok (.ireturn, 1) := by decide +kernel
theorem dL_told_21 : decode cL_told 21 = .ok (.iconst 0, 1) := by decide +kernel
theorem dL_told_22 : decode cL_told 22 = .ok (.ireturn, 1) := by decide +kernel
set_option maxRecDepth 20000 in
theorem ggL_count_X5_count : GoodIn wsL_count wsX5_count := goodIn_ca (goodIn_r _ [6, 7, 8, 9, 10, 11, 12, 13, 5, 14, 15, 16, 17, 18, 19, 20, 21, 22, 23, 24, 25, 26, 27, 28, 29, 30, 31, 32, 33, 34, 35, 36, 37, 38, 39, 40, 41, 42, 43, 44, 45, 46, 47, 48, 49, 50, 51, 52, 53, 54, 55, 56, 57, 58, 59, 60, 61, 62, 63, 64, 65, 66, 67, 68, 69, 70, 71, 72, 73, 74, 75, 76, 77, 78, 79, 80, 81, 82, 83, 84, 85, 86, 87, 88, 89, 90, 91, 92, 93, 94, 95, 96, 97, 98, 99, 100, 101, 102, 103, 104, 105, 106, 107, 108, 109, 110, 111, 112, 113, 114, 115, 116, 117, 118, 119, 120, 121, 122, 123, 124, 125, 126, 127, 128, 129, 130, 131, 132, 133, 134, 135, 136, 137, 138, 139, 140, 141, 142, 143, 144, 145, 146, 147, 148, 149, 150, 151, 152, 153, 154, 155, 156, 157, 158, 159, 160, 161, 162, 163, 164, 165, 166, 167, 168, 169, 170, 171, 172, 173, 174, 175, 176, 177, 178, 179, 180, 181, 182, 183, 184, 185, 186] (by decide +kernel) (by decide +kernel)) (goodIn_sub (fun _ h => List.mem_cons_of_mem _ (List.mem_append_right _ h)) (by decide +kernel))
set_option maxRecDepth 20000 in
theorem gL_count_X5_count : GoodIn wsL_count (wsV RL 64 RX5 yX5_count wsX5_count) := goodIn_app (goodIn_of _ (by decide +kernel)) ggL_count_X5_count
theorem dL_count_0 : decode cL_count 0 = .ok (.aload_n 2, 1) := by decide +kernel
theorem dL_count_1 : decode cL_count 1 = .ok (.iconst 0, 1) := by decide +kernel
theorem dL_count_2 : decode cL_count 2 = .ok (.aload_n 0, 1) := by decide +kernel
theorem dL_count_3 : decode cL_count 3 = .ok (.iload_n 1, 1) := by decide +kernel
theorem dL_count_4 : decode cL_count 4 = .ok (.invokevirtual 64, 3) := by decide +kernel
theorem dL_count_7 : decode cL_count 7 = .ok (.i2l, 1) := by decide +kernel
theorem dL_count_8 : decode cL_count 8 = .ok (.lastore, 1) := by decide +kernel
theorem dL_count_9 : decode cL_count 9 = .ok (.goto 6, 3) := by decide +kernel
theorem dL_count_12 : decode cL_count 12 = .ok (.astore_n 3, 1) := by decide +kernel
theorem dL_count_13 : decode cL_count 13 = .ok (.iconst 1, 1) := by decide +kernel
theorem dL_count_14 : decode cL_count 14 = .ok (.ireturn, 1) := by decide +kernel
theorem dL_count_15 : decode cL_count 15 = .ok (.iconst 0, 1) := by decide +kernel
theorem dL_count_16 : decode cL_count 16 = .ok (.ireturn, 1) := by decide +kernel
set_option maxRecDepth 20000 in
theorem ggL_setting_X5_setting : GoodIn wsL_setting wsX5_setting := goodIn_ca (goodIn_r _ [6, 7, 8, 9, 10, 11, 5, 12, 13, 14, 15, 16, 17, 18, 19, 20, 21, 22, 23, 24, 25, 26, 27, 28, 29, 30, 31, 32, 33] (by decide +kernel) (by decide +kernel)) (goodIn_sub (fun _ h => List.mem_cons_of_mem _ (List.mem_append_right _ h)) (by decide +kernel))
set_option maxRecDepth 20000 in
theorem gL_setting_X5_setting : GoodIn wsL_setting (wsV RL 67 RX5 yX5_setting wsX5_setting) := goodIn_app (goodIn_of _ (by decide +kernel)) ggL_setting_X5_setting
theorem dL_setting_0 : decode cL_setting 0 = .ok (.aload_n 2, 1) := by decide +kernel
theorem dL_setting_1 : decode cL_setting 1 = .ok (.iconst 0, 1) := by decide +kernel
theorem dL_setting_2 : decode cL_setting 2 = .ok (.aload_n 0, 1) := by decide +kernel
theorem dL_setting_3 : decode cL_setting 3 = .ok (.iload_n 1, 1) := by decide +kernel
theorem dL_setting_4 : decode cL_setting 4 = .ok (.invokevirtual 67, 3) := by decide +kernel
theorem dL_setting_7 : decode cL_setting 7 = .ok (.i2l, 1) := by decide +kernel
theorem dL_setting_8 : decode cL_setting 8 = .ok (.lastore, 1) := by decide +kernel
theorem dL_setting_9 : decode cL_setting 9 = .ok (.goto 6, 3) := by decide +kernel
theorem dL_setting_12 : decode cL_setting 12 = .ok (.astore_n 3, 1) := by decide +kernel
theorem dL_setting_13 : decode cL_setting 13 = .ok (.iconst 1, 1) := by decide +kernel
theorem dL_setting_14 : decode cL_setting 14 = .ok (.ireturn, 1) := by decide +kernel
theorem dL_setting_15 : decode cL_setting 15 = .ok (.iconst 0, 1) := by decide +kernel
theorem dL_setting_16 : decode cL_setting 16 = .ok (.ireturn, 1) := by decide +kernel
set_option maxRecDepth 20000 in
theorem ggL_explains_X5_explains : GoodIn wsL_explains wsX5_explains := goodIn_ca (goodIn_r _ [6, 7, 8, 9, 10, 11, 12, 5, 13, 14, 15, 16, 17, 18, 19, 20, 21, 22, 23, 24, 25, 26, 27, 28, 29, 30, 31, 32, 33, 34, 35, 36, 37, 38, 39, 40, 41, 42, 43, 44, 45, 46, 47, 48, 49, 50, 51, 52, 53, 54, 55, 56, 57, 58, 59, 60, 61, 62, 63, 64, 65, 66, 67, 68, 69, 70, 71, 72, 73, 74, 75, 76, 77, 78, 79, 80, 81, 82, 83, 84, 85, 86, 87, 88, 89] (by decide +kernel) (by decide +kernel)) (goodIn_sub (fun _ h => List.mem_cons_of_mem _ (List.mem_append_right _ h)) (by decide +kernel))
set_option maxRecDepth 20000 in
theorem gL_explains_X5_explains : GoodIn wsL_explains (wsV RL 70 RX5 yX5_explains wsX5_explains) := goodIn_app (goodIn_of _ (by decide +kernel)) ggL_explains_X5_explains
theorem dL_explains_0 : decode cL_explains 0 = .ok (.aload_n 3, 1) := by decide +kernel
theorem dL_explains_1 : decode cL_explains 1 = .ok (.iconst 0, 1) := by decide +kernel
theorem dL_explains_2 : decode cL_explains 2 = .ok (.aload_n 0, 1) := by decide +kernel
theorem dL_explains_3 : decode cL_explains 3 = .ok (.iload_n 1, 1) := by decide +kernel
theorem dL_explains_4 : decode cL_explains 4 = .ok (.iload_n 2, 1) := by decide +kernel
theorem dL_explains_5 : decode cL_explains 5 = .ok (.invokevirtual 70, 3) := by decide +kernel
theorem dL_explains_8 : decode cL_explains 8 = .ok (.i2l, 1) := by decide +kernel
theorem dL_explains_9 : decode cL_explains 9 = .ok (.lastore, 1) := by decide +kernel
theorem dL_explains_10 : decode cL_explains 10 = .ok (.goto 7, 3) := by decide +kernel
theorem dL_explains_13 : decode cL_explains 13 = .ok (.astore 4, 2) := by decide +kernel
theorem dL_explains_15 : decode cL_explains 15 = .ok (.iconst 1, 1) := by decide +kernel
theorem dL_explains_16 : decode cL_explains 16 = .ok (.ireturn, 1) := by decide +kernel
theorem dL_explains_17 : decode cL_explains 17 = .ok (.iconst 0, 1) := by decide +kernel
theorem dL_explains_18 : decode cL_explains 18 = .ok (.ireturn, 1) := by decide +kernel
set_option maxRecDepth 20000 in
theorem ggL_best_X5_best : GoodIn wsL_best wsX5_best := goodIn_ca (goodIn_r _ [6, 7, 8, 9, 10, 5, 11, 12, 13, 14, 15, 16, 17, 18, 19, 20, 21, 22, 23, 24, 25, 26, 27, 28, 29, 30, 31, 32, 33, 34, 35, 36, 37, 38, 39, 40, 41, 42, 43, 44, 45, 46, 47, 48, 49, 50, 51, 52, 53, 54, 55, 56, 57, 58, 59, 60, 61, 62, 63, 64, 65, 66, 67, 68, 69, 70, 71, 72, 73, 74, 75, 76, 77, 78, 79, 80, 81, 82, 83, 84, 85, 86, 87, 88, 89, 90, 91, 92, 93, 94] (by decide +kernel) (by decide +kernel)) (goodIn_sub (fun _ h => List.mem_cons_of_mem _ (List.mem_append_right _ h)) (by decide +kernel))
set_option maxRecDepth 20000 in
theorem gL_best_X5_best : GoodIn wsL_best (wsV RL 73 RX5 yX5_best wsX5_best) := goodIn_app (goodIn_of _ (by decide +kernel)) ggL_best_X5_best
theorem dL_best_0 : decode cL_best 0 = .ok (.aload_n 3, 1) := by decide +kernel
theorem dL_best_1 : decode cL_best 1 = .ok (.iconst 0, 1) := by decide +kernel
theorem dL_best_2 : decode cL_best 2 = .ok (.aload_n 0, 1) := by decide +kernel
theorem dL_best_3 : decode cL_best 3 = .ok (.iload_n 1, 1) := by decide +kernel
theorem dL_best_4 : decode cL_best 4 = .ok (.iload_n 2, 1) := by decide +kernel
theorem dL_best_5 : decode cL_best 5 = .ok (.invokevirtual 73, 3) := by decide +kernel
theorem dL_best_8 : decode cL_best 8 = .ok (.i2l, 1) := by decide +kernel
theorem dL_best_9 : decode cL_best 9 = .ok (.lastore, 1) := by decide +kernel
theorem dL_best_10 : decode cL_best 10 = .ok (.goto 7, 3) := by decide +kernel
theorem dL_best_13 : decode cL_best 13 = .ok (.astore 4, 2) := by decide +kernel
theorem dL_best_15 : decode cL_best 15 = .ok (.iconst 1, 1) := by decide +kernel
theorem dL_best_16 : decode cL_best 16 = .ok (.ireturn, 1) := by decide +kernel
theorem dL_best_17 : decode cL_best 17 = .ok (.iconst 0, 1) := by decide +kernel
theorem dL_best_18 : decode cL_best 18 = .ok (.ireturn, 1) := by decide +kernel
set_option maxRecDepth 20000 in
theorem ggL_bestPhase_X5_bestPhase : GoodIn wsL_bestPhase wsX5_bestPhase := goodIn_ca (goodIn_r _ [6, 7, 8, 9, 10, 11, 12, 5, 13, 14, 15, 16, 17, 18, 19, 20, 21, 22, 23, 24, 25, 26, 27, 28, 29, 30, 31, 32, 33, 34, 35, 36, 37, 38, 39, 40, 41, 42, 43, 44, 45, 46, 47, 48, 49, 50, 51, 52, 53, 54, 55, 56, 57, 58, 59, 60, 61, 62, 63, 64, 65, 66, 67, 68, 69, 70, 71, 72, 73, 74, 75, 76, 77, 78, 79, 80, 81, 82, 83, 84, 85, 86] (by decide +kernel) (by decide +kernel)) (goodIn_sub (fun _ h => List.mem_cons_of_mem _ (List.mem_append_right _ h)) (by decide +kernel))
set_option maxRecDepth 20000 in
theorem gL_bestPhase_X5_bestPhase : GoodIn wsL_bestPhase (wsV RL 76 RX5 yX5_bestPhase wsX5_bestPhase) := goodIn_app (goodIn_of _ (by decide +kernel)) ggL_bestPhase_X5_bestPhase
theorem dL_bestPhase_0 : decode cL_bestPhase 0 = .ok (.aload_n 2, 1) := by decide +kernel
theorem dL_bestPhase_1 : decode cL_bestPhase 1 = .ok (.iconst 0, 1) := by decide +kernel
theorem dL_bestPhase_2 : decode cL_bestPhase 2 = .ok (.aload_n 0, 1) := by decide +kernel
theorem dL_bestPhase_3 : decode cL_bestPhase 3 = .ok (.iload_n 1, 1) := by decide +kernel
theorem dL_bestPhase_4 : decode cL_bestPhase 4 = .ok (.invokevirtual 76, 3) := by decide +kernel
theorem dL_bestPhase_7 : decode cL_bestPhase 7 = .ok (.i2l, 1) := by decide +kernel
theorem dL_bestPhase_8 : decode cL_bestPhase 8 = .ok (.lastore, 1) := by decide +kernel
theorem dL_bestPhase_9 : decode cL_bestPhase 9 = .ok (.goto 6, 3) := by decide +kernel
theorem dL_bestPhase_12 : decode cL_bestPhase 12 = .ok (.astore_n 3, 1) := by decide +kernel
theorem dL_bestPhase_13 : decode cL_bestPhase 13 = .ok (.iconst 1, 1) := by decide +kernel
theorem dL_bestPhase_14 : decode cL_bestPhase 14 = .ok (.ireturn, 1) := by decide +kernel
theorem dL_bestPhase_15 : decode cL_bestPhase 15 = .ok (.iconst 0, 1) := by decide +kernel
theorem dL_bestPhase_16 : decode cL_bestPhase 16 = .ok (.ireturn, 1) := by decide +kernel
set_option maxRecDepth 20000 in
theorem ggL_bestWindow_X5_bestWindow : GoodIn wsL_bestWindow wsX5_bestWindow := goodIn_ca (goodIn_r _ [6, 7, 8, 9, 10, 11, 12, 5, 13, 14, 15, 16, 17, 18, 19, 20, 21, 22, 23, 24, 25, 26, 27, 28, 29, 30, 31, 32, 33, 34, 35, 36, 37, 38, 39, 40, 41, 42, 43, 44, 45, 46, 47, 48, 49, 50, 51, 52, 53, 54, 55, 56, 57, 58, 59, 60, 61, 62, 63, 64, 65] (by decide +kernel) (by decide +kernel)) (goodIn_sub (fun _ h => List.mem_cons_of_mem _ (List.mem_append_right _ h)) (by decide +kernel))
set_option maxRecDepth 20000 in
theorem gL_bestWindow_X5_bestWindow : GoodIn wsL_bestWindow (wsV RL 79 RX5 yX5_bestWindow wsX5_bestWindow) := goodIn_app (goodIn_of _ (by decide +kernel)) ggL_bestWindow_X5_bestWindow
theorem dL_bestWindow_0 : decode cL_bestWindow 0 = .ok (.aload_n 3, 1) := by decide +kernel
theorem dL_bestWindow_1 : decode cL_bestWindow 1 = .ok (.iconst 0, 1) := by decide +kernel
theorem dL_bestWindow_2 : decode cL_bestWindow 2 = .ok (.aload_n 0, 1) := by decide +kernel
theorem dL_bestWindow_3 : decode cL_bestWindow 3 = .ok (.iload_n 1, 1) := by decide +kernel
theorem dL_bestWindow_4 : decode cL_bestWindow 4 = .ok (.iload_n 2, 1) := by decide +kernel
theorem dL_bestWindow_5 : decode cL_bestWindow 5 = .ok (.invokevirtual 79, 3) := by decide +kernel
theorem dL_bestWindow_8 : decode cL_bestWindow 8 = .ok (.i2l, 1) := by decide +kernel
theorem dL_bestWindow_9 : decode cL_bestWindow 9 = .ok (.lastore, 1) := by decide +kernel
theorem dL_bestWindow_10 : decode cL_bestWindow 10 = .ok (.goto 7, 3) := by decide +kernel
theorem dL_bestWindow_13 : decode cL_bestWindow 13 = .ok (.astore 4, 2) := by decide +kernel
theorem dL_bestWindow_15 : decode cL_bestWindow 15 = .ok (.iconst 1, 1) := by decide +kernel
theorem dL_bestWindow_16 : decode cL_bestWindow 16 = .ok (.ireturn, 1) := by decide +kernel
theorem dL_bestWindow_17 : decode cL_bestWindow 17 = .ok (.iconst 0, 1) := by decide +kernel
theorem dL_bestWindow_18 : decode cL_bestWindow 18 = .ok (.ireturn, 1) := by decide +kernel
set_option maxRecDepth 20000 in
theorem ggL_law_X5_init : GoodIn wsL_law wsX5_init := goodIn_r _ [9, 10, 11, 12, 13, 14, 15, 16, 17, 18, 19, 20, 21, 22, 23, 24, 25, 26, 27, 28, 29, 30, 31, 32, 33, 34, 35, 36, 37, 38, 39, 40, 41, 42, 43, 44, 45, 46, 47, 48, 49, 50, 51, 52, 53, 54, 55, 56, 57, 58, 59, 60, 61, 902, 903, 904, 905, 906, 907, 908, 909, 882, 883, 884, 885, 886, 910, 911, 912, 913, 914, 915, 916, 917, 918, 919, 920] (by decide +kernel) (by decide +kernel)
set_option maxRecDepth 20000 in
theorem gL_law_X5_init : GoodIn wsL_law (wsX5_init) := ggL_law_X5_init
set_option maxRecDepth 20000 in
theorem ggL_law_X6_init : GoodIn wsL_law wsX6_init := goodIn_r _ [64, 65, 11, 12, 36, 66, 67, 68, 69, 70, 71, 72, 73, 74, 887, 888, 889, 890, 891, 892, 893, 894, 895, 896, 897, 898, 899, 900, 901] (by decide +kernel) (by decide +kernel)
set_option maxRecDepth 20000 in
theorem gL_law_X6_init : GoodIn wsL_law (wsX6_init) := ggL_law_X6_init
set_option maxRecDepth 20000 in
theorem ggL_law_L_put : GoodIn wsL_law wsL_put := goodIn_ca (goodIn_ca (goodIn_r _ [78, 79, 80, 81, 82, 83, 2, 84, 85, 86, 87, 88, 16, 20, 89, 90, 91, 92, 93, 94, 95, 96, 97, 19, 98, 99, 100, 101, 102, 103, 104, 105, 106, 107, 108, 46, 109, 110, 111, 15, 112, 37, 38, 39, 113, 114, 115, 116, 40, 117, 118, 119, 120, 121, 122, 123, 124, 125, 126, 127, 128, 129, 882, 883, 884, 885, 886, 902, 903, 904, 905, 906, 907, 908, 909, 910, 911, 912] (by decide +kernel) (by decide +kernel)) (goodIn_sub (fun _ h => List.mem_append_left _ (List.mem_append_left _ (List.mem_append_right _ h))) (by decide +kernel))) (goodIn_sub (fun _ h => List.mem_append_left _ (List.mem_append_right _ h)) (by decide +kernel))
set_option maxRecDepth 20000 in
theorem gL_law_L_put : GoodIn wsL_law (va_wsS RL 86 yL_put wsL_put) := goodIn_app (goodIn_of _ (by decide +kernel)) ggL_law_L_put
set_option maxRecDepth 20000 in
theorem ggL_law_X6_put : GoodIn wsL_law wsX6_put := goodIn_r _ [133, 74, 66, 134, 135, 5, 136, 137, 138, 139, 140, 141, 142, 143, 144, 145, 67, 887, 888, 889, 890, 891, 892, 893, 894, 895, 896, 897, 898, 899, 900, 901] (by decide +kernel) (by decide +kernel)
set_option maxRecDepth 20000 in
theorem gL_law_X6_put : GoodIn wsL_law (wsV RL 91 RX6 yX6_put wsX6_put) := goodIn_app (goodIn_of _ (by decide +kernel)) ggL_law_X6_put
set_option maxRecDepth 20000 in
theorem ggL_law_X6_thrown : GoodIn wsL_law wsX6_thrown := goodIn_r _ [149, 74, 887, 888, 889, 890, 891, 892, 893, 894, 895, 896, 897, 898, 899, 900, 901] (by decide +kernel) (by decide +kernel)
set_option maxRecDepth 20000 in
theorem gL_law_X6_thrown : GoodIn wsL_law (wsV RL 92 RX6 yX6_thrown wsX6_thrown) := goodIn_app (goodIn_of _ (by decide +kernel)) ggL_law_X6_thrown
set_option maxRecDepth 20000 in
theorem ggL_law_L_change : GoodIn wsL_law wsL_change := goodIn_ca (goodIn_ca (goodIn_r _ [152, 153, 79, 154, 155, 156, 2, 157, 158, 159, 85, 86, 16, 20, 160, 161, 162, 15, 163, 113, 89, 90, 91, 92, 93, 94, 95, 96, 97, 19, 98, 99, 100, 101, 102, 103, 104, 105, 106, 107, 108, 46, 109, 110, 111, 112, 37, 38, 39, 114, 115, 116, 40, 117, 118, 119, 120, 121, 122, 123, 164, 165, 166, 167, 168, 169, 170, 171, 128, 129, 882, 883, 884, 885, 886, 902, 903, 904, 905, 906, 907, 908, 909, 910, 911, 912] (by decide +kernel) (by decide +kernel)) (goodIn_sub (fun _ h => List.mem_append_right _ h) (by decide +kernel))) (goodIn_sub (fun _ h => List.mem_append_left _ (List.mem_append_left _ (List.mem_append_right _ h))) (by decide +kernel))
set_option maxRecDepth 20000 in
theorem gL_law_L_change : GoodIn wsL_law (va_wsS RL 95 yL_change wsL_change) := goodIn_app (goodIn_of _ (by decide +kernel)) ggL_law_L_change
set_option maxRecDepth 20000 in
theorem ggL_law_X6_change : GoodIn wsL_law wsX6_change := goodIn_r _ [175, 74, 66, 134, 135, 5, 136, 137, 138, 139, 140, 141, 142, 143, 144, 145, 67, 887, 888, 889, 890, 891, 892, 893, 894, 895, 896, 897, 898, 899, 900, 901] (by decide +kernel) (by decide +kernel)
set_option maxRecDepth 20000 in
theorem gL_law_X6_change : GoodIn wsL_law (wsV RL 98 RX6 yX6_change wsX6_change) := goodIn_app (goodIn_of _ (by decide +kernel)) ggL_law_X6_change
set_option maxRecDepth 20000 in
theorem ggL_law_L_cut : GoodIn wsL_law wsL_cut := goodIn_ca (goodIn_r _ [178, 79, 179, 180, 181, 2, 182, 85, 86, 20, 16, 183, 184, 103, 185, 92, 93, 94, 95, 96, 97, 19, 98, 99, 100, 101, 102, 104, 105, 106, 107, 108, 46, 109, 110, 111, 15, 112, 37, 38, 39, 113, 114, 115, 116, 40, 117, 118, 119, 120, 121, 122, 123, 882, 883, 884, 885, 886, 902, 903, 904, 905, 906, 907, 908, 909, 910, 911, 912] (by decide +kernel) (by decide +kernel)) (goodIn_sub (fun _ h => List.mem_append_left _ (List.mem_append_left _ (List.mem_append_right _ h))) (by decide +kernel))
set_option maxRecDepth 20000 in
theorem gL_law_L_cut : GoodIn wsL_law (va_wsS RL 99 yL_cut wsL_cut) := goodIn_app (goodIn_of _ (by decide +kernel)) ggL_law_L_cut
set_option maxRecDepth 20000 in
theorem ggL_law_X6_cut : GoodIn wsL_law wsX6_cut := goodIn_r _ [189, 74, 66, 134, 135, 5, 136, 137, 138, 139, 140, 141, 142, 143, 144, 145, 67, 887, 888, 889, 890, 891, 892, 893, 894, 895, 896, 897, 898, 899, 900, 901] (by decide +kernel) (by decide +kernel)
set_option maxRecDepth 20000 in
theorem gL_law_X6_cut : GoodIn wsL_law (wsV RL 101 RX6 yX6_cut wsX6_cut) := goodIn_app (goodIn_of _ (by decide +kernel)) ggL_law_X6_cut
set_option maxRecDepth 20000 in
theorem ggL_law_L_grow : GoodIn wsL_law wsL_grow := goodIn_ca (goodIn_ca (goodIn_r _ [192, 79, 80, 193, 194, 195, 2, 196, 85, 86, 87, 88, 16, 20, 197, 198, 199, 92, 93, 94, 95, 96, 97, 19, 98, 99, 100, 101, 102, 103, 104, 105, 106, 107, 108, 46, 109, 110, 111, 15, 112, 37, 38, 39, 113, 114, 115, 116, 40, 117, 118, 119, 120, 121, 122, 123, 200, 201, 202, 203, 204, 205, 124, 125, 126, 127, 128, 129, 882, 883, 884, 885, 886, 902, 903, 904, 905, 906, 907, 908, 909, 910, 911, 912] (by decide +kernel) (by decide +kernel)) (goodIn_sub (fun _ h => List.mem_append_left _ (List.mem_append_left _ (List.mem_append_right _ h))) (by decide +kernel))) (goodIn_sub (fun _ h => List.mem_append_left _ (List.mem_append_right _ h)) (by decide +kernel))
set_option maxRecDepth 20000 in
theorem gL_law_L_grow : GoodIn wsL_law (va_wsS RL 102 yL_grow wsL_grow) := goodIn_app (goodIn_of _ (by decide +kernel)) ggL_law_L_grow
set_option maxRecDepth 20000 in
theorem ggL_law_X6_grow : GoodIn wsL_law wsX6_grow := goodIn_r _ [209, 74, 66, 134, 135, 5, 136, 137, 138, 139, 140, 141, 142, 143, 144, 145, 67, 210, 211, 212, 887, 888, 889, 890, 891, 892, 893, 894, 895, 896, 897, 898, 899, 900, 901] (by decide +kernel) (by decide +kernel)
set_option maxRecDepth 20000 in
theorem gL_law_X6_grow : GoodIn wsL_law (wsV RL 105 RX6 yX6_grow wsX6_grow) := goodIn_app (goodIn_of _ (by decide +kernel)) ggL_law_X6_grow
set_option maxRecDepth 20000 in
theorem ggL_law_L_keep : GoodIn wsL_law wsL_keep := goodIn_ca (goodIn_ca (goodIn_r _ [215, 79, 80, 216, 217, 218, 2, 219, 85, 86, 87, 88, 20, 16, 220, 221, 222, 197, 198, 199, 92, 93, 94, 223, 224, 225, 226, 227, 228, 229, 15, 230, 114, 231, 232, 233, 234, 38, 235, 236, 237, 238, 239, 240, 39, 95, 96, 97, 19, 98, 99, 100, 101, 102, 103, 104, 105, 106, 107, 108, 46, 109, 110, 111, 112, 37, 113, 115, 116, 40, 117, 118, 119, 120, 121, 122, 123, 241, 242, 243, 244, 128, 129, 882, 883, 884, 885, 886, 902, 903, 904, 905, 906, 907, 908, 909, 910, 911, 912] (by decide +kernel) (by decide +kernel)) (goodIn_sub (fun _ h => List.mem_append_left _ (List.mem_append_left _ (List.mem_append_right _ h))) (by decide +kernel))) (goodIn_sub (fun _ h => List.mem_append_left _ (List.mem_append_right _ h)) (by decide +kernel))
set_option maxRecDepth 20000 in
theorem gL_law_L_keep : GoodIn wsL_law (va_wsS RL 106 yL_keep wsL_keep) := goodIn_app (goodIn_of _ (by decide +kernel)) ggL_law_L_keep
set_option maxRecDepth 20000 in
theorem ggL_law_X6_keep : GoodIn wsL_law wsX6_keep := goodIn_r _ [248, 74, 66, 249, 250, 5, 251, 134, 135, 136, 137, 138, 139, 140, 252, 253, 254, 255, 256, 257, 258, 259, 260, 261, 262, 263, 141, 142, 143, 144, 145, 67, 264, 265, 266, 267, 887, 888, 889, 890, 891, 892, 893, 894, 895, 896, 897, 898, 899, 900, 901] (by decide +kernel) (by decide +kernel)
set_option maxRecDepth 20000 in
theorem gL_law_X6_keep : GoodIn wsL_law (wsV RL 108 RX6 yX6_keep wsX6_keep) := goodIn_app (goodIn_of _ (by decide +kernel)) ggL_law_X6_keep
set_option maxRecDepth 20000 in
theorem ggL_law_L_drop : GoodIn wsL_law wsL_drop := goodIn_ca (goodIn_r _ [270, 153, 271, 272, 273, 2, 274, 158, 159, 16, 20, 275, 276, 277, 15, 278, 114, 95, 96, 97, 19, 98, 99, 100, 101, 102, 103, 104, 105, 106, 107, 108, 46, 109, 110, 111, 112, 37, 38, 39, 113, 115, 116, 40, 117, 118, 119, 120, 121, 122, 123, 279, 280, 281, 282, 231, 232, 233, 234, 235, 236, 128, 129, 237, 238, 239, 240, 882, 883, 884, 885, 886, 902, 903, 904, 905, 906, 907, 908, 909, 910, 911, 912] (by decide +kernel) (by decide +kernel)) (goodIn_sub (fun _ h => List.mem_append_right _ h) (by decide +kernel))
set_option maxRecDepth 20000 in
theorem gL_law_L_drop : GoodIn wsL_law (va_wsS RL 109 yL_drop wsL_drop) := goodIn_app (goodIn_of _ (by decide +kernel)) ggL_law_L_drop
set_option maxRecDepth 20000 in
theorem ggL_law_X6_drop : GoodIn wsL_law wsX6_drop := goodIn_r _ [286, 74, 66, 134, 135, 5, 136, 137, 138, 139, 140, 141, 142, 143, 144, 145, 67, 887, 888, 889, 890, 891, 892, 893, 894, 895, 896, 897, 898, 899, 900, 901] (by decide +kernel) (by decide +kernel)
set_option maxRecDepth 20000 in
theorem gL_law_X6_drop : GoodIn wsL_law (wsV RL 111 RX6 yX6_drop wsX6_drop) := goodIn_app (goodIn_of _ (by decide +kernel)) ggL_law_X6_drop
set_option maxRecDepth 20000 in
theorem ggL_law_L_find : GoodIn wsL_law wsL_find := goodIn_ca (goodIn_ca (goodIn_r _ [289, 79, 80, 290, 291, 292, 2, 293, 85, 86, 87, 88, 20, 16, 294, 295, 296, 197, 198, 199, 92, 93, 94, 297, 298, 299, 300, 28, 301, 302, 303, 27, 304, 305, 306, 307, 15, 308, 116, 115, 309, 310, 311, 312, 113, 313, 102, 103, 104, 314, 184, 185, 315, 316, 317, 318, 55, 319, 320, 321, 322, 323, 324, 325, 204, 205, 326, 165, 166, 167, 37, 327, 328, 329, 330, 331, 332, 333, 334, 335, 336, 337, 338, 339, 223, 224, 225, 226, 227, 228, 229, 230, 114, 231, 232, 233, 234, 38, 235, 236, 237, 238, 239, 240, 39, 95, 96, 97, 19, 98, 99, 100, 101, 105, 106, 107, 108, 46, 109, 110, 111, 112, 40, 117, 118, 119, 120, 121, 122, 123, 241, 242, 243, 244, 128, 129, 882, 883, 884, 885, 886, 902, 903, 904, 905, 906, 907, 908, 909, 916, 917, 910, 911, 912] (by decide +kernel) (by decide +kernel)) (goodIn_sub (fun _ h => List.mem_append_left _ (List.mem_append_left _ (List.mem_append_right _ h))) (by decide +kernel))) (goodIn_sub (fun _ h => List.mem_append_left _ (List.mem_append_right _ h)) (by decide +kernel))
set_option maxRecDepth 20000 in
theorem gL_law_L_find : GoodIn wsL_law (va_wsS RL 112 yL_find wsL_find) := goodIn_app (goodIn_of _ (by decide +kernel)) ggL_law_L_find
set_option maxRecDepth 20000 in
theorem ggL_law_X6_find : GoodIn wsL_law wsX6_find := goodIn_r _ [343, 74, 66, 134, 135, 5, 136, 137, 138, 139, 140, 344, 345, 346, 347, 348, 349, 350, 351, 352, 353, 354, 355, 356, 357, 358, 359, 360, 361, 362, 363, 69, 364, 365, 366, 367, 368, 369, 370, 210, 211, 212, 371, 372, 373, 374, 252, 253, 254, 255, 256, 257, 258, 259, 260, 261, 262, 263, 141, 142, 143, 144, 145, 67, 264, 265, 266, 267, 887, 888, 889, 890, 891, 892, 893, 894, 895, 896, 897, 898, 899, 900, 901] (by decide +kernel) (by decide +kernel)
