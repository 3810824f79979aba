set_option maxRecDepth 20000 in
theorem ggX3_init_X0_init : GoodIn wsX3_init wsX0_init := goodIn_r _ [24, 25, 2, 3, 20, 26, 27, 28, 29, 30, 31, 32, 6, 33, 34, 35, 36, 37, 55, 56, 57, 58, 59, 60, 61, 62] (by decide +kernel) (by decide +kernel)
set_option maxRecDepth 20000 in
theorem gX3_init_X0_init : GoodIn wsX3_init (wsX0_init) := ggX3_init_X0_init
set_option maxRecDepth 20000 in
theorem ggX3_init_X2_init : GoodIn wsX3_init wsX2_init := goodIn_r _ [40, 41, 2, 3, 20, 42, 43, 44, 45, 71, 72, 73] (by decide +kernel) (by decide +kernel)
set_option maxRecDepth 20000 in
theorem gX3_init_X2_init : GoodIn wsX3_init (wsX2_init) := ggX3_init_X2_init
set_option maxRecDepth 20000 in
theorem ggX3_init_X1_init : GoodIn wsX3_init wsX1_init := goodIn_r _ [48, 49, 2, 3, 20, 50, 51, 52, 53, 17, 54, 74] (by decide +kernel) (by decide +kernel)
set_option maxRecDepth 20000 in
theorem gX3_init_X1_init : GoodIn wsX3_init (wsX1_init) := ggX3_init_X1_init
theorem dX3_init_0 : decode cX3_init 0 = .ok (.aload_n 0, 1) := by decide +kernel
theorem dX3_init_1 : decode cX3_init 1 = .ok (.invokespecial 1, 3) := by decide +kernel
theorem dX3_init_4 : decode cX3_init 4 = .ok (.aload_n 0, 1) := by decide +kernel
theorem dX3_init_5 : decode cX3_init 5 = .ok (.new 7, 3) := by decide +kernel
theorem dX3_init_8 : decode cX3_init 8 = .ok (.dup, 1) := by decide +kernel
theorem dX3_init_9 : decode cX3_init 9 = .ok (.invokespecial 9, 3) := by decide +kernel
theorem dX3_init_12 : decode cX3_init 12 = .ok (.putfield 10, 3) := by decide +kernel
theorem dX3_init_15 : decode cX3_init 15 = .ok (.aload_n 0, 1) := by decide +kernel
theorem dX3_init_16 : decode cX3_init 16 = .ok (.new 7, 3) := by decide +kernel
theorem dX3_init_19 : decode cX3_init 19 = .ok (.dup, 1) := by decide +kernel
theorem dX3_init_20 : decode cX3_init 20 = .ok (.invokespecial 9, 3) := by decide +kernel
theorem dX3_init_23 : decode cX3_init 23 = .ok (.putfield 16, 3) := by decide +kernel
theorem dX3_init_26 : decode cX3_init 26 = .ok (.aload_n 0, 1) := by decide +kernel
theorem dX3_init_27 : decode cX3_init 27 = .ok (.new 7, 3) := by decide +kernel
theorem dX3_init_30 : decode cX3_init 30 = .ok (.dup, 1) := by decide +kernel
theorem dX3_init_31 : decode cX3_init 31 = .ok (.invokespecial 9, 3) := by decide +kernel
theorem dX3_init_34 : decode cX3_init 34 = .ok (.putfield 19, 3) := by decide +kernel
theorem dX3_init_37 : decode cX3_init 37 = .ok (.aload_n 0, 1) := by decide +kernel
theorem dX3_init_38 : decode cX3_init 38 = .ok (.iconst 0, 1) := by decide +kernel
theorem dX3_init_39 : decode cX3_init 39 = .ok (.putfield 22, 3) := by decide +kernel
theorem dX3_init_42 : decode cX3_init 42 = .ok (.aload_n 0, 1) := by decide +kernel
theorem dX3_init_43 : decode cX3_init 43 = .ok (.new 26, 3) := by decide +kernel
theorem dX3_init_46 : decode cX3_init 46 = .ok (.dup, 1) := by decide +kernel
theorem dX3_init_47 : decode cX3_init 47 = .ok (.invokespecial 28, 3) := by decide +kernel
theorem dX3_init_50 : decode cX3_init 50 = .ok (.putfield 29, 3) := by decide +kernel
theorem dX3_init_53 : decode cX3_init 53 = .ok (.aload_n 0, 1) := by decide +kernel
theorem dX3_init_54 : decode cX3_init 54 = .ok (.new 33, 3) := by decide +kernel
theorem dX3_init_57 : decode cX3_init 57 = .ok (.dup, 1) := by decide +kernel
theorem dX3_init_58 : decode cX3_init 58 = .ok (.invokespecial 35, 3) := by decide +kernel
theorem dX3_init_61 : decode cX3_init 61 = .ok (.putfield 36, 3) := by decide +kernel
theorem dX3_init_64 : decode cX3_init 64 = .ok (.aload_n 0, 1) := by decide +kernel
theorem dX3_init_65 : decode cX3_init 65 = .ok (.bipush 10, 2) := by decide +kernel
theorem dX3_init_67 : decode cX3_init 67 = .ok (.putfield 40, 3) := by decide +kernel
theorem dX3_init_70 : decode cX3_init 70 = .ok (.aload_n 0, 1) := by decide +kernel
theorem dX3_init_71 : decode cX3_init 71 = .ok (.iconst 3, 1) := by decide +kernel
theorem dX3_init_72 : decode cX3_init 72 = .ok (.newarray .int, 2) := by decide +kernel
theorem dX3_init_74 : decode cX3_init 74 = .ok (.putfield 44, 3) := by decide +kernel
theorem dX3_init_77 : decode cX3_init 77 = .ok (.return_, 1) := by decide +kernel
set_option maxRecDepth 20000 in
theorem ggX3_coast_X3_isWithin : GoodIn wsX3_coast wsX3_isWithin := goodIn_r _ [6] (by decide +kernel) (by decide +kernel)
set_option maxRecDepth 20000 in
theorem gX3_coast_X3_isWithin : GoodIn wsX3_coast (va_wsS RX3 48 yX3_isWithin wsX3_isWithin) := goodIn_app (goodIn_of _ (by decide +kernel)) ggX3_coast_X3_isWithin
set_option maxRecDepth 20000 in
theorem ggX3_coast_X0_renew : GoodIn wsX3_coast wsX0_renew := goodIn_r _ [11, 12, 13, 14, 15, 16, 17, 18, 19, 34, 35, 36, 37, 38, 39, 40, 41] (by decide +kernel) (by decide +kernel)
set_option maxRecDepth 20000 in
theorem gX3_coast_X0_renew : GoodIn wsX3_coast (wsV RX3 52 RX0 yX0_renew wsX0_renew) := goodIn_app (goodIn_of _ (by decide +kernel)) ggX3_coast_X0_renew
set_option maxRecDepth 20000 in
theorem ggX3_coast_X1_forget : GoodIn wsX3_coast wsX1_forget := goodIn_r _ [24, 25, 42] (by decide +kernel) (by decide +kernel)
set_option maxRecDepth 20000 in
theorem gX3_coast_X1_forget : GoodIn wsX3_coast (wsV RX3 56 RX1 yX1_forget wsX1_forget) := goodIn_app (goodIn_of _ (by decide +kernel)) ggX3_coast_X1_forget
theorem dX3_coast_0 : decode cX3_coast 0 = .ok (.iload_n 1, 1) := by decide +kernel
theorem dX3_coast_1 : decode cX3_coast 1 = .ok (.iconst 3, 1) := by decide +kernel
theorem dX3_coast_2 : decode cX3_coast 2 = .ok (.bipush 7, 2) := by decide +kernel
theorem dX3_coast_4 : decode cX3_coast 4 = .ok (.invokestatic 48, 3) := by decide +kernel
theorem dX3_coast_7 : decode cX3_coast 7 = .ok (.ifCond .ne 5, 3) := by decide +kernel
theorem dX3_coast_10 : decode cX3_coast 10 = .ok (.iconst (-1), 1) := by decide +kernel
theorem dX3_coast_11 : decode cX3_coast 11 = .ok (.ireturn, 1) := by decide +kernel
theorem dX3_coast_12 : decode cX3_coast 12 = .ok (.aload_n 0, 1) := by decide +kernel
theorem dX3_coast_13 : decode cX3_coast 13 = .ok (.getfield 10, 3) := by decide +kernel
theorem dX3_coast_16 : decode cX3_coast 16 = .ok (.iload_n 1, 1) := by decide +kernel
theorem dX3_coast_17 : decode cX3_coast 17 = .ok (.invokevirtual 52, 3) := by decide +kernel
theorem dX3_coast_20 : decode cX3_coast 20 = .ok (.aload_n 0, 1) := by decide +kernel
theorem dX3_coast_21 : decode cX3_coast 21 = .ok (.getfield 36, 3) := by decide +kernel
theorem dX3_coast_24 : decode cX3_coast 24 = .ok (.invokevirtual 56, 3) := by decide +kernel
theorem dX3_coast_27 : decode cX3_coast 27 = .ok (.iload_n 1, 1) := by decide +kernel
theorem dX3_coast_28 : decode cX3_coast 28 = .ok (.ireturn, 1) := by decide +kernel
set_option maxRecDepth 20000 in
theorem ggX3_set_X0_has : GoodIn wsX3_set wsX0_has := goodIn_r _ [6, 7, 31, 32, 33, 34, 35, 36, 37, 38] (by decide +kernel) (by decide +kernel)
set_option maxRecDepth 20000 in
theorem gX3_set_X0_has : GoodIn wsX3_set (wsV RX3 59 RX0 yX0_has wsX0_has) := goodIn_app (goodIn_of _ (by decide +kernel)) ggX3_set_X0_has
set_option maxRecDepth 20000 in
theorem ggX3_set_X3_isWithin : GoodIn wsX3_set wsX3_isWithin := goodIn_r _ [11] (by decide +kernel) (by decide +kernel)
set_option maxRecDepth 20000 in
theorem gX3_set_X3_isWithin : GoodIn wsX3_set (va_wsS RX3 48 yX3_isWithin wsX3_isWithin) := goodIn_app (goodIn_of _ (by decide +kernel)) ggX3_set_X3_isWithin
set_option maxRecDepth 20000 in
theorem ggX3_set_X3_mostOf : GoodIn wsX3_set wsX3_mostOf := goodIn_r _ [14] (by decide +kernel) (by decide +kernel)
set_option maxRecDepth 20000 in
theorem gX3_set_X3_mostOf : GoodIn wsX3_set (va_wsS RX3 63 yX3_mostOf wsX3_mostOf) := goodIn_app (goodIn_of _ (by decide +kernel)) ggX3_set_X3_mostOf
set_option maxRecDepth 20000 in
theorem ggX3_set_X0_row : GoodIn wsX3_set wsX0_row := goodIn_r _ [18, 19, 20, 21, 22, 31, 32, 33, 34, 35, 36, 37, 38] (by decide +kernel) (by decide +kernel)
set_option maxRecDepth 20000 in
theorem gX3_set_X0_row : GoodIn wsX3_set (wsV RX3 67 RX0 yX0_row wsX0_row) := goodIn_app (goodIn_of _ (by decide +kernel)) ggX3_set_X0_row
theorem dX3_set_0 : decode cX3_set 0 = .ok (.aload_n 0, 1) := by decide +kernel
theorem dX3_set_1 : decode cX3_set 1 = .ok (.getfield 10, 3) := by decide +kernel
theorem dX3_set_4 : decode cX3_set 4 = .ok (.iload_n 1, 1) := by decide +kernel
theorem dX3_set_5 : decode cX3_set 5 = .ok (.invokevirtual 59, 3) := by decide +kernel
theorem dX3_set_8 : decode cX3_set 8 = .ok (.ifCond .eq 24, 3) := by decide +kernel
theorem dX3_set_11 : decode cX3_set 11 = .ok (.iload_n 2, 1) := by decide +kernel
theorem dX3_set_12 : decode cX3_set 12 = .ok (.iconst 0, 1) := by decide +kernel
theorem dX3_set_13 : decode cX3_set 13 = .ok (.iconst 2, 1) := by decide +kernel
theorem dX3_set_14 : decode cX3_set 14 = .ok (.invokestatic 48, 3) := by decide +kernel
theorem dX3_set_17 : decode cX3_set 17 = .ok (.ifCond .eq 15, 3) := by decide +kernel
theorem dX3_set_20 : decode cX3_set 20 = .ok (.iload_n 3, 1) := by decide +kernel
theorem dX3_set_21 : decode cX3_set 21 = .ok (.iconst 0, 1) := by decide +kernel
theorem dX3_set_22 : decode cX3_set 22 = .ok (.iload_n 2, 1) := by decide +kernel
theorem dX3_set_23 : decode cX3_set 23 = .ok (.invokestatic 63, 3) := by decide +kernel
theorem dX3_set_26 : decode cX3_set 26 = .ok (.invokestatic 48, 3) := by decide +kernel
theorem dX3_set_29 : decode cX3_set 29 = .ok (.ifCond .ne 5, 3) := by decide +kernel
theorem dX3_set_32 : decode cX3_set 32 = .ok (.iconst (-1), 1) := by decide +kernel
theorem dX3_set_33 : decode cX3_set 33 = .ok (.ireturn, 1) := by decide +kernel
theorem dX3_set_34 : decode cX3_set 34 = .ok (.aload_n 0, 1) := by decide +kernel
theorem dX3_set_35 : decode cX3_set 35 = .ok (.getfield 10, 3) := by decide +kernel
theorem dX3_set_38 : decode cX3_set 38 = .ok (.iload_n 2, 1) := by decide +kernel
theorem dX3_set_39 : decode cX3_set 39 = .ok (.invokevirtual 67, 3) := by decide +kernel
theorem dX3_set_42 : decode cX3_set 42 = .ok (.astore 4, 2) := by decide +kernel
theorem dX3_set_44 : decode cX3_set 44 = .ok (.aload 4, 2) := by decide +kernel
theorem dX3_set_46 : decode cX3_set 46 = .ok (.iload_n 1, 1) := by decide +kernel
theorem dX3_set_47 : decode cX3_set 47 = .ok (.iaload, 1) := by decide +kernel
theorem dX3_set_48 : decode cX3_set 48 = .ok (.istore 5, 2) := by decide +kernel
theorem dX3_set_50 : decode cX3_set 50 = .ok (.aload 4, 2) := by decide +kernel
theorem dX3_set_52 : decode cX3_set 52 = .ok (.iload_n 1, 1) := by decide +kernel
theorem dX3_set_53 : decode cX3_set 53 = .ok (.iload_n 3, 1) := by decide +kernel
theorem dX3_set_54 : decode cX3_set 54 = .ok (.iastore, 1) := by decide +kernel
theorem dX3_set_55 : decode cX3_set 55 = .ok (.iload 5, 2) := by decide +kernel
theorem dX3_set_57 : decode cX3_set 57 = .ok (.ireturn, 1) := by decide +kernel
set_option maxRecDepth 20000 in
theorem ggX3_of_X0_has : GoodIn wsX3_of wsX0_has := goodIn_r _ [6, 7, 28, 29, 30, 31, 32, 33, 34, 35] (by decide +kernel) (by decide +kernel)
set_option maxRecDepth 20000 in
theorem gX3_of_X0_has : GoodIn wsX3_of (wsV RX3 59 RX0 yX0_has wsX0_has) := goodIn_app (goodIn_of _ (by decide +kernel)) ggX3_of_X0_has
set_option maxRecDepth 20000 in
theorem ggX3_of_X3_isWithin : GoodIn wsX3_of wsX3_isWithin := goodIn_r _ [11] (by decide +kernel) (by decide +kernel)
set_option maxRecDepth 20000 in
theorem gX3_of_X3_isWithin : GoodIn wsX3_of (va_wsS RX3 48 yX3_isWithin wsX3_isWithin) := goodIn_app (goodIn_of _ (by decide +kernel)) ggX3_of_X3_isWithin
set_option maxRecDepth 20000 in
theorem ggX3_of_X0_row : GoodIn wsX3_of wsX0_row := goodIn_r _ [15, 16, 17, 18, 19, 28, 29, 30, 31, 32, 33, 34, 35] (by decide +kernel) (by decide +kernel)
set_option maxRecDepth 20000 in
theorem gX3_of_X0_row : GoodIn wsX3_of (wsV RX3 67 RX0 yX0_row wsX0_row) := goodIn_app (goodIn_of _ (by decide +kernel)) ggX3_of_X0_row
theorem dX3_of_0 : decode cX3_of 0 = .ok (.aload_n 0, 1) := by decide +kernel
theorem dX3_of_1 : decode cX3_of 1 = .ok (.getfield 10, 3) := by decide +kernel
theorem dX3_of_4 : decode cX3_of 4 = .ok (.iload_n 1, 1) := by decide +kernel
theorem dX3_of_5 : decode cX3_of 5 = .ok (.invokevirtual 59, 3) := by decide +kernel
theorem dX3_of_8 : decode cX3_of 8 = .ok (.ifCond .eq 12, 3) := by decide +kernel
theorem dX3_of_11 : decode cX3_of 11 = .ok (.iload_n 2, 1) := by decide +kernel
theorem dX3_of_12 : decode cX3_of 12 = .ok (.iconst 0, 1) := by decide +kernel
theorem dX3_of_13 : decode cX3_of 13 = .ok (.iconst 3, 1) := by decide +kernel
theorem dX3_of_14 : decode cX3_of 14 = .ok (.invokestatic 48, 3) := by decide +kernel
theorem dX3_of_17 : decode cX3_of 17 = .ok (.ifCond .ne 5, 3) := by decide +kernel
theorem dX3_of_20 : decode cX3_of 20 = .ok (.iconst (-1), 1) := by decide +kernel
theorem dX3_of_21 : decode cX3_of 21 = .ok (.ireturn, 1) := by decide +kernel
theorem dX3_of_22 : decode cX3_of 22 = .ok (.aload_n 0, 1) := by decide +kernel
theorem dX3_of_23 : decode cX3_of 23 = .ok (.getfield 10, 3) := by decide +kernel
theorem dX3_of_26 : decode cX3_of 26 = .ok (.iload_n 2, 1) := by decide +kernel
theorem dX3_of_27 : decode cX3_of 27 = .ok (.invokevirtual 67, 3) := by decide +kernel
theorem dX3_of_30 : decode cX3_of 30 = .ok (.iload_n 1, 1) := by decide +kernel
theorem dX3_of_31 : decode cX3_of 31 = .ok (.iaload, 1) := by decide +kernel
theorem dX3_of_32 : decode cX3_of 32 = .ok (.ireturn, 1) := by decide +kernel
set_option maxRecDepth 20000 in
theorem ggX3_wind_X3_isWithin : GoodIn wsX3_wind wsX3_isWithin := goodIn_r _ [5] (by decide +kernel) (by decide +kernel)
set_option maxRecDepth 20000 in
theorem gX3_wind_X3_isWithin : GoodIn wsX3_wind (va_wsS RX3 48 yX3_isWithin wsX3_isWithin) := goodIn_app (goodIn_of _ (by decide +kernel)) ggX3_wind_X3_isWithin
set_option maxRecDepth 20000 in
theorem ggX3_wind_X0_blow : GoodIn wsX3_wind wsX0_blow := goodIn_r _ [10, 11, 12, 13, 14, 15, 16, 17, 18, 19, 20, 21, 22, 23, 24, 9, 25, 26, 27, 36, 37, 38, 39, 40, 41, 42, 43] (by decide +kernel) (by decide +kernel)
set_option maxRecDepth 20000 in
theorem gX3_wind_X0_blow : GoodIn wsX3_wind (wsV RX3 71 RX0 yX0_blow wsX0_blow) := goodIn_app (goodIn_of _ (by decide +kernel)) ggX3_wind_X0_blow
theorem dX3_wind_0 : decode cX3_wind 0 = .ok (.iload_n 1, 1) := by decide +kernel
theorem dX3_wind_1 : decode cX3_wind 1 = .ok (.iconst 1, 1) := by decide +kernel
theorem dX3_wind_2 : decode cX3_wind 2 = .ok (.bipush 9, 2) := by decide +kernel
theorem dX3_wind_4 : decode cX3_wind 4 = .ok (.invokestatic 48, 3) := by decide +kernel
theorem dX3_wind_7 : decode cX3_wind 7 = .ok (.ifCond .eq 14, 3) := by decide +kernel
theorem dX3_wind_10 : decode cX3_wind 10 = .ok (.aload_n 0, 1) := by decide +kernel
theorem dX3_wind_11 : decode cX3_wind 11 = .ok (.getfield 10, 3) := by decide +kernel
theorem dX3_wind_14 : decode cX3_wind 14 = .ok (.iload_n 1, 1) := by decide +kernel
theorem dX3_wind_15 : decode cX3_wind 15 = .ok (.invokevirtual 71, 3) := by decide +kernel
theorem dX3_wind_18 : decode cX3_wind 18 = .ok (.goto 4, 3) := by decide +kernel
theorem dX3_wind_21 : decode cX3_wind 21 = .ok (.iconst (-1), 1) := by decide +kernel
theorem dX3_wind_22 : decode cX3_wind 22 = .ok (.ireturn, 1) := by decide +kernel
set_option maxRecDepth 20000 in
theorem ggX3_storm_X3_isWithin : GoodIn wsX3_storm wsX3_isWithin := goodIn_r _ [5] (by decide +kernel) (by decide +kernel)
set_option maxRecDepth 20000 in
theorem gX3_storm_X3_isWithin : GoodIn wsX3_storm (va_wsS RX3 48 yX3_isWithin wsX3_isWithin) := goodIn_app (goodIn_of _ (by decide +kernel)) ggX3_storm_X3_isWithin
set_option maxRecDepth 20000 in
theorem ggX3_storm_X0_surge : GoodIn wsX3_storm wsX0_surge := goodIn_r _ [10, 11, 12, 13, 14, 15, 16, 17, 18, 9, 19, 20, 29, 30, 31, 32, 33, 34, 35, 36] (by decide +kernel) (by decide +kernel)
set_option maxRecDepth 20000 in
theorem gX3_storm_X0_surge : GoodIn wsX3_storm (wsV RX3 74 RX0 yX0_surge wsX0_surge) := goodIn_app (goodIn_of _ (by decide +kernel)) ggX3_storm_X0_surge
theorem dX3_storm_0 : decode cX3_storm 0 = .ok (.iload_n 1, 1) := by decide +kernel
theorem dX3_storm_1 : decode cX3_storm 1 = .ok (.iconst 1, 1) := by decide +kernel
theorem dX3_storm_2 : decode cX3_storm 2 = .ok (.bipush 99, 2) := by decide +kernel
theorem dX3_storm_4 : decode cX3_storm 4 = .ok (.invokestatic 48, 3) := by decide +kernel
theorem dX3_storm_7 : decode cX3_storm 7 = .ok (.ifCond .eq 14, 3) := by decide +kernel
theorem dX3_storm_10 : decode cX3_storm 10 = .ok (.aload_n 0, 1) := by decide +kernel
theorem dX3_storm_11 : decode cX3_storm 11 = .ok (.getfield 10, 3) := by decide +kernel
theorem dX3_storm_14 : decode cX3_storm 14 = .ok (.iload_n 1, 1) := by decide +kernel
theorem dX3_storm_15 : decode cX3_storm 15 = .ok (.invokevirtual 74, 3) := by decide +kernel
theorem dX3_storm_18 : decode cX3_storm 18 = .ok (.goto 4, 3) := by decide +kernel
theorem dX3_storm_21 : decode cX3_storm 21 = .ok (.iconst (-1), 1) := by decide +kernel
theorem dX3_storm_22 : decode cX3_storm 22 = .ok (.ireturn, 1) := by decide +kernel
set_option maxRecDepth 20000 in
theorem ggX3_end_X0_endYear : GoodIn wsX3_end wsX0_endYear := goodIn_r _ [6, 7, 8, 9, 10, 11, 5, 12, 13, 14, 15, 16, 17, 18, 19, 28, 29, 30, 31, 32, 33, 34, 35] (by decide +kernel) (by decide +kernel)
set_option maxRecDepth 20000 in
theorem gX3_end_X0_endYear : GoodIn wsX3_end (wsV RX3 77 RX0 yX0_endYear wsX0_endYear) := goodIn_app (goodIn_of _ (by decide +kernel)) ggX3_end_X0_endYear
theorem dX3_end_0 : decode cX3_end 0 = .ok (.aload_n 0, 1) := by decide +kernel
theorem dX3_end_1 : decode cX3_end 1 = .ok (.getfield 10, 3) := by decide +kernel
theorem dX3_end_4 : decode cX3_end 4 = .ok (.invokevirtual 77, 3) := by decide +kernel
theorem dX3_end_7 : decode cX3_end 7 = .ok (.ireturn, 1) := by decide +kernel
set_option maxRecDepth 20000 in
theorem ggX3_nourish_X3_isWithin : GoodIn wsX3_nourish wsX3_isWithin := goodIn_r _ [5] (by decide +kernel) (by decide +kernel)
set_option maxRecDepth 20000 in
theorem gX3_nourish_X3_isWithin : GoodIn wsX3_nourish (va_wsS RX3 48 yX3_isWithin wsX3_isWithin) := goodIn_app (goodIn_of _ (by decide +kernel)) ggX3_nourish_X3_isWithin
set_option maxRecDepth 20000 in
theorem ggX3_nourish_X0_addSand : GoodIn wsX3_nourish wsX0_addSand := goodIn_r _ [10, 11, 12, 13, 14, 15, 24, 25, 26, 27, 28, 29, 30, 31] (by decide +kernel) (by decide +kernel)
set_option maxRecDepth 20000 in
theorem gX3_nourish_X0_addSand : GoodIn wsX3_nourish (wsV RX3 81 RX0 yX0_addSand wsX0_addSand) := goodIn_app (goodIn_of _ (by decide +kernel)) ggX3_nourish_X0_addSand
theorem dX3_nourish_0 : decode cX3_nourish 0 = .ok (.iload_n 1, 1) := by decide +kernel
theorem dX3_nourish_1 : decode cX3_nourish 1 = .ok (.iconst 1, 1) := by decide +kernel
theorem dX3_nourish_2 : decode cX3_nourish 2 = .ok (.bipush 99, 2) := by decide +kernel
theorem dX3_nourish_4 : decode cX3_nourish 4 = .ok (.invokestatic 48, 3) := by decide +kernel
theorem dX3_nourish_7 : decode cX3_nourish 7 = .ok (.ifCond .eq 14, 3) := by decide +kernel
theorem dX3_nourish_10 : decode cX3_nourish 10 = .ok (.aload_n 0, 1) := by decide +kernel
theorem dX3_nourish_11 : decode cX3_nourish 11 = .ok (.getfield 10, 3) := by decide +kernel
theorem dX3_nourish_14 : decode cX3_nourish 14 = .ok (.iload_n 1, 1) := by decide +kernel
theorem dX3_nourish_15 : decode cX3_nourish 15 = .ok (.invokevirtual 81, 3) := by decide +kernel
theorem dX3_nourish_18 : decode cX3_nourish 18 = .ok (.goto 4, 3) := by decide +kernel
theorem dX3_nourish_21 : decode cX3_nourish 21 = .ok (.iconst (-1), 1) := by decide +kernel
theorem dX3_nourish_22 : decode cX3_nourish 22 = .ok (.ireturn, 1) := by decide +kernel
set_option maxRecDepth 20000 in
theorem ggX3_event_X3_isWeather : GoodIn wsX3_event wsX3_isWeather := goodIn_r _ [6, 7, 8, 5, 9] (by decide +kernel) (by decide +kernel)
set_option maxRecDepth 20000 in
theorem gX3_event_X3_isWeather : GoodIn wsX3_event (va_wsS RX3 84 yX3_isWeather wsX3_isWeather) := goodIn_app (goodIn_of _ (by decide +kernel)) ggX3_event_X3_isWeather
set_option maxRecDepth 20000 in
theorem ggX3_event_X3_isEvent : GoodIn wsX3_event wsX3_isEvent := goodIn_r _ [12, 7, 8, 5, 9] (by decide +kernel) (by decide +kernel)
set_option maxRecDepth 20000 in
theorem gX3_event_X3_isEvent : GoodIn wsX3_event (va_wsS RX3 87 yX3_isEvent wsX3_isEvent) := goodIn_app (goodIn_of _ (by decide +kernel)) ggX3_event_X3_isEvent
set_option maxRecDepth 20000 in
theorem ggX3_event_X2_add : GoodIn wsX3_event wsX2_add := goodIn_r _ [17, 18, 19, 20, 29, 30, 31] (by decide +kernel) (by decide +kernel)
set_option maxRecDepth 20000 in
theorem gX3_event_X2_add : GoodIn wsX3_event (wsV RX3 94 RX2 yX2_add wsX2_add) := goodIn_app (goodIn_of _ (by decide +kernel)) ggX3_event_X2_add
theorem dX3_event_0 : decode cX3_event 0 = .ok (.iload_n 1, 1) := by decide +kernel
theorem dX3_event_1 : decode cX3_event 1 = .ok (.invokestatic 84, 3) := by decide +kernel
theorem dX3_event_4 : decode cX3_event 4 = .ok (.ifCond .eq 11, 3) := by decide +kernel
theorem dX3_event_7 : decode cX3_event 7 = .ok (.iload_n 2, 1) := by decide +kernel
theorem dX3_event_8 : decode cX3_event 8 = .ok (.iload_n 3, 1) := by decide +kernel
theorem dX3_event_9 : decode cX3_event 9 = .ok (.invokestatic 87, 3) := by decide +kernel
theorem dX3_event_12 : decode cX3_event 12 = .ok (.ifCond .ne 5, 3) := by decide +kernel
theorem dX3_event_15 : decode cX3_event 15 = .ok (.iconst (-1), 1) := by decide +kernel
theorem dX3_event_16 : decode cX3_event 16 = .ok (.ireturn, 1) := by decide +kernel
theorem dX3_event_17 : decode cX3_event 17 = .ok (.aload_n 0, 1) := by decide +kernel
theorem dX3_event_18 : decode cX3_event 18 = .ok (.getfield 29, 3) := by decide +kernel
theorem dX3_event_21 : decode cX3_event 21 = .ok (.getfield 91, 3) := by decide +kernel
theorem dX3_event_24 : decode cX3_event 24 = .ok (.iload_n 1, 1) := by decide +kernel
theorem dX3_event_25 : decode cX3_event 25 = .ok (.iaload, 1) := by decide +kernel
theorem dX3_event_26 : decode cX3_event 26 = .ok (.bipush 12, 2) := by decide +kernel
theorem dX3_event_28 : decode cX3_event 28 = .ok (.if_icmp .lt 6, 3) := by decide +kernel
theorem dX3_event_31 : decode cX3_event 31 = .ok (.bipush (-2), 2) := by decide +kernel
theorem dX3_event_33 : decode cX3_event 33 = .ok (.ireturn, 1) := by decide +kernel
theorem dX3_event_34 : decode cX3_event 34 = .ok (.aload_n 0, 1) := by decide +kernel
theorem dX3_event_35 : decode cX3_event 35 = .ok (.getfield 29, 3) := by decide +kernel
theorem dX3_event_38 : decode cX3_event 38 = .ok (.iload_n 1, 1) := by decide +kernel
theorem dX3_event_39 : decode cX3_event 39 = .ok (.iload_n 2, 1) := by decide +kernel
theorem dX3_event_40 : decode cX3_event 40 = .ok (.iload_n 3, 1) := by decide +kernel
theorem dX3_event_41 : decode cX3_event 41 = .ok (.invokevirtual 94, 3) := by decide +kernel
theorem dX3_event_44 : decode cX3_event 44 = .ok (.ireturn, 1) := by decide +kernel
set_option maxRecDepth 20000 in
theorem ggX3_calm_X3_isWeather : GoodIn wsX3_calm wsX3_isWeather := goodIn_r _ [6, 7, 8, 5, 9] (by decide +kernel) (by decide +kernel)
set_option maxRecDepth 20000 in
theorem gX3_calm_X3_isWeather : GoodIn wsX3_calm (va_wsS RX3 84 yX3_isWeather wsX3_isWeather) := goodIn_app (goodIn_of _ (by decide +kernel)) ggX3_calm_X3_isWeather
theorem dX3_calm_0 : decode cX3_calm 0 = .ok (.iload_n 1, 1) := by decide +kernel
theorem dX3_calm_1 : decode cX3_calm 1 = .ok (.invokestatic 84, 3) := by decide +kernel
theorem dX3_calm_4 : decode cX3_calm 4 = .ok (.ifCond .ne 5, 3) := by decide +kernel
theorem dX3_calm_7 : decode cX3_calm 7 = .ok (.iconst (-1), 1) := by decide +kernel
theorem dX3_calm_8 : decode cX3_calm 8 = .ok (.ireturn, 1) := by decide +kernel
theorem dX3_calm_9 : decode cX3_calm 9 = .ok (.aload_n 0, 1) := by decide +kernel
theorem dX3_calm_10 : decode cX3_calm 10 = .ok (.getfield 29, 3) := by decide +kernel
theorem dX3_calm_13 : decode cX3_calm 13 = .ok (.getfield 91, 3) := by decide +kernel
theorem dX3_calm_16 : decode cX3_calm 16 = .ok (.iload_n 1, 1) := by decide +kernel
theorem dX3_calm_17 : decode cX3_calm 17 = .ok (.iaload, 1) := by decide +kernel
theorem dX3_calm_18 : decode cX3_calm 18 = .ok (.istore_n 2, 1) := by decide +kernel
theorem dX3_calm_19 : decode cX3_calm 19 = .ok (.aload_n 0, 1) := by decide +kernel
theorem dX3_calm_20 : decode cX3_calm 20 = .ok (.getfield 29, 3) := by decide +kernel
theorem dX3_calm_23 : decode cX3_calm 23 = .ok (.getfield 91, 3) := by decide +kernel
theorem dX3_calm_26 : decode cX3_calm 26 = .ok (.iload_n 1, 1) := by decide +kernel
theorem dX3_calm_27 : decode cX3_calm 27 = .ok (.iconst 0, 1) := by decide +kernel
theorem dX3_calm_28 : decode cX3_calm 28 = .ok (.iastore, 1) := by decide +kernel
theorem dX3_calm_29 : decode cX3_calm 29 = .ok (.iload_n 2, 1) := by decide +kernel
theorem dX3_calm_30 : decode cX3_calm 30 = .ok (.ireturn, 1) := by decide +kernel
set_option maxRecDepth 20000 in
theorem ggX3_size_X3_isWithin : GoodIn wsX3_size wsX3_isWithin := goodIn_r _ [5] (by decide +kernel) (by decide +kernel)
set_option maxRecDepth 20000 in
theorem gX3_size_X3_isWithin : GoodIn wsX3_size (va_wsS RX3 48 yX3_isWithin wsX3_isWithin) := goodIn_app (goodIn_of _ (by decide +kernel)) ggX3_size_X3_isWithin
theorem dX3_size_0 : decode cX3_size 0 = .ok (.iload_n 1, 1) := by decide +kernel
theorem dX3_size_1 : decode cX3_size 1 = .ok (.iconst 1, 1) := by decide +kernel
theorem dX3_size_2 : decode cX3_size 2 = .ok (.bipush 20, 2) := by decide +kernel
theorem dX3_size_4 : decode cX3_size 4 = .ok (.invokestatic 48, 3) := by decide +kernel
theorem dX3_size_7 : decode cX3_size 7 = .ok (.ifCond .ne 5, 3) := by decide +kernel
theorem dX3_size_10 : decode cX3_size 10 = .ok (.iconst (-1), 1) := by decide +kernel
theorem dX3_size_11 : decode cX3_size 11 = .ok (.ireturn, 1) := by decide +kernel
theorem dX3_size_12 : decode cX3_size 12 = .ok (.aload_n 0, 1) := by decide +kernel
theorem dX3_size_13 : decode cX3_size 13 = .ok (.getfield 40, 3) := by decide +kernel
theorem dX3_size_16 : decode cX3_size 16 = .ok (.istore_n 2, 1) := by decide +kernel
theorem dX3_size_17 : decode cX3_size 17 = .ok (.aload_n 0, 1) := by decide +kernel
theorem dX3_size_18 : decode cX3_size 18 = .ok (.iload_n 1, 1) := by decide +kernel
theorem dX3_size_19 : decode cX3_size 19 = .ok (.putfield 40, 3) := by decide +kernel
theorem dX3_size_22 : decode cX3_size 22 = .ok (.iload_n 2, 1) := by decide +kernel
theorem dX3_size_23 : decode cX3_size 23 = .ok (.ireturn, 1) := by decide +kernel
set_option maxRecDepth 20000 in
theorem ggX3_crest_X3_tryOut : GoodIn wsX3_crest wsX3_tryOut := goodIn_r _ [6, 7, 8, 9, 5, 10, 11, 12, 13, 14, 15, 16, 17, 18, 19, 20, 21, 22, 23, 24, 25, 26, 27, 28, 1, 29, 30, 31, 32, 33, 34, 35, 36, 37, 38, 39, 40, 41, 42, 43, 44, 45, 46, 47, 48, 49, 50, 51, 52, 53, 54, 55, 56, 57, 58, 59, 60, 61, 62, 63, 64, 65, 66, 67, 68, 69, 70, 71, 72, 73, 74, 75, 76, 77, 78, 79, 80, 85, 86, 87, 88, 89, 90, 91, 92, 93, 94, 95, 96, 97, 98, 99, 100, 101, 102, 103] (by decide +kernel) (by decide +kernel)
set_option maxRecDepth 20000 in
theorem gX3_crest_X3_tryOut : GoodIn wsX3_crest (wsV RX3 98 RX3 yX3_tryOut wsX3_tryOut) := goodIn_app (goodIn_of _ (by decide +kernel)) ggX3_crest_X3_tryOut
set_option maxRecDepth 20000 in
theorem ggX3_crest_X0_greatestHeight : GoodIn wsX3_crest wsX0_greatestHeight := goodIn_r _ [84, 24, 38, 55, 56, 57, 58, 93, 94, 95, 96, 97, 98, 99, 100] (by decide +kernel) (by decide +kernel)
set_option maxRecDepth 20000 in
theorem gX3_crest_X0_greatestHeight : GoodIn wsX3_crest (wsV RX3 102 RX0 yX0_greatestHeight wsX0_greatestHeight) := goodIn_app (goodIn_of _ (by decide +kernel)) ggX3_crest_X0_greatestHeight
theorem dX3_crest_0 : decode cX3_crest 0 = .ok (.aload_n 0, 1) := by decide +kernel
theorem dX3_crest_1 : decode cX3_crest 1 = .ok (.iload_n 1, 1) := by decide +kernel
theorem dX3_crest_2 : decode cX3_crest 2 = .ok (.iload_n 2, 1) := by decide +kernel
theorem dX3_crest_3 : decode cX3_crest 3 = .ok (.iload_n 3, 1) := by decide +kernel
theorem dX3_crest_4 : decode cX3_crest 4 = .ok (.iload 4, 2) := by decide +kernel
theorem dX3_crest_6 : decode cX3_crest 6 = .ok (.invokevirtual 98, 3) := by decide +kernel
theorem dX3_crest_9 : decode cX3_crest 9 = .ok (.ifCond .ne 5, 3) := by decide +kernel
theorem dX3_crest_12 : decode cX3_crest 12 = .ok (.iconst (-1), 1) := by decide +kernel
theorem dX3_crest_13 : decode cX3_crest 13 = .ok (.ireturn, 1) := by decide +kernel
theorem dX3_crest_14 : decode cX3_crest 14 = .ok (.aload_n 0, 1) := by decide +kernel
theorem dX3_crest_15 : decode cX3_crest 15 = .ok (.getfield 16, 3) := by decide +kernel
theorem dX3_crest_18 : decode cX3_crest 18 = .ok (.invokevirtual 102, 3) := by decide +kernel
theorem dX3_crest_21 : decode cX3_crest 21 = .ok (.ireturn, 1) := by decide +kernel
set_option maxRecDepth 20000 in
theorem ggX3_floods_X3_tryOut : GoodIn wsX3_floods wsX3_tryOut := goodIn_r _ [7, 8, 9, 10, 6, 11, 12, 13, 14, 15, 16, 17, 18, 19, 20, 21, 22, 23, 24, 25, 26, 27, 28, 29, 1, 2, 30, 31, 32, 33, 34, 35, 36, 37, 38, 39, 40, 41, 42, 43, 44, 45, 46, 47, 48, 49, 50, 51, 52, 53, 54, 55, 56, 57, 58, 59, 60, 61, 62, 63, 64, 65, 66, 67, 68, 69, 70, 71, 72, 73, 74, 75, 76, 77, 78, 79, 80, 81, 82, 83, 84, 85, 86, 87, 88, 89, 90, 91, 92, 93, 94, 95, 96, 97, 98, 99] (by decide +kernel) (by decide +kernel)
set_option maxRecDepth 20000 in
theorem gX3_floods_X3_tryOut : GoodIn wsX3_floods (wsV RX3 98 RX3 yX3_tryOut wsX3_tryOut) := goodIn_app (goodIn_of _ (by decide +kernel)) ggX3_floods_X3_tryOut
theorem dX3_floods_0 : decode cX3_floods 0 = .ok (.aload_n 0, 1) := by decide +kernel
theorem dX3_floods_1 : decode cX3_floods 1 = .ok (.iload_n 1, 1) := by decide +kernel
theorem dX3_floods_2 : decode cX3_floods 2 = .ok (.iload_n 2, 1) := by decide +kernel
theorem dX3_floods_3 : decode cX3_floods 3 = .ok (.iload_n 3, 1) := by decide +kernel
theorem dX3_floods_4 : decode cX3_floods 4 = .ok (.iload 4, 2) := by decide +kernel
theorem dX3_floods_6 : decode cX3_floods 6 = .ok (.invokevirtual 98, 3) := by decide +kernel
theorem dX3_floods_9 : decode cX3_floods 9 = .ok (.ifCond .ne 5, 3) := by decide +kernel
theorem dX3_floods_12 : decode cX3_floods 12 = .ok (.iconst (-1), 1) := by decide +kernel
theorem dX3_floods_13 : decode cX3_floods 13 = .ok (.ireturn, 1) := by decide +kernel
theorem dX3_floods_14 : decode cX3_floods 14 = .ok (.aload_n 0, 1) := by decide +kernel
theorem dX3_floods_15 : decode cX3_floods 15 = .ok (.getfield 16, 3) := by decide +kernel
theorem dX3_floods_18 : decode cX3_floods 18 = .ok (.getfield 105, 3) := by decide +kernel
theorem dX3_floods_21 : decode cX3_floods 21 = .ok (.ireturn, 1) := by decide +kernel
set_option maxRecDepth 20000 in
theorem ggX3_plan_X3_isAim : GoodIn wsX3_plan wsX3_isAim := goodIn_r _ [5, 6, 7, 4, 8] (by decide +kernel) (by decide +kernel)
set_option maxRecDepth 20000 in
theorem gX3_plan_X3_isAim : GoodIn wsX3_plan (va_wsS RX3 108 yX3_isAim wsX3_isAim) := goodIn_app (goodIn_of _ (by decide +kernel)) ggX3_plan_X3_isAim
set_option maxRecDepth 20000 in
theorem ggX3_plan_X3_isWithin : GoodIn wsX3_plan wsX3_isWithin := goodIn_r _ [8] (by decide +kernel) (by decide +kernel)
set_option maxRecDepth 20000 in
theorem gX3_plan_X3_isWithin : GoodIn wsX3_plan (va_wsS RX3 48 yX3_isWithin wsX3_isWithin) := goodIn_app (goodIn_of _ (by decide +kernel)) ggX3_plan_X3_isWithin
set_option maxRecDepth 20000 in
theorem ggX3_plan_X3_findPlan : GoodIn wsX3_plan wsX3_findPlan := goodIn_r _ [12, 13, 14, 15, 16, 17, 18, 19, 20, 21, 22, 23, 24, 25, 26, 27, 28, 29, 30, 31, 4, 32, 1, 33, 34, 35, 36, 37, 38, 39, 40, 41, 42, 43, 44, 45, 46, 47, 48, 49, 50, 51, 52, 53, 54, 55, 56, 57, 58, 59, 60, 61, 62, 63, 64, 65, 66, 67, 68, 69, 70, 71, 72, 73, 74, 75, 76, 77, 78, 79, 80, 81, 82, 83, 84, 85, 86, 87, 88, 89, 90, 91, 92, 93, 94, 95, 96, 97, 98, 99, 100, 101, 7, 8, 102, 103, 104, 105, 106, 107, 108, 109, 110, 111, 112, 113, 114, 115, 116, 117, 118, 119, 120, 121, 122, 123, 124] (by decide +kernel) (by decide +kernel)
set_option maxRecDepth 20000 in
theorem gX3_plan_X3_findPlan : GoodIn wsX3_plan (wsV RX3 111 RX3 yX3_findPlan wsX3_findPlan) := goodIn_app (goodIn_of _ (by decide +kernel)) ggX3_plan_X3_findPlan
theorem dX3_plan_0 : decode cX3_plan 0 = .ok (.iload_n 1, 1) := by decide +kernel
theorem dX3_plan_1 : decode cX3_plan 1 = .ok (.invokestatic 108, 3) := by decide +kernel
theorem dX3_plan_4 : decode cX3_plan 4 = .ok (.ifCond .eq 12, 3) := by decide +kernel
theorem dX3_plan_7 : decode cX3_plan 7 = .ok (.iload_n 2, 1) := by decide +kernel
theorem dX3_plan_8 : decode cX3_plan 8 = .ok (.iconst 0, 1) := by decide +kernel
theorem dX3_plan_9 : decode cX3_plan 9 = .ok (.iconst 2, 1) := by decide +kernel
theorem dX3_plan_10 : decode cX3_plan 10 = .ok (.invokestatic 48, 3) := by decide +kernel
theorem dX3_plan_13 : decode cX3_plan 13 = .ok (.ifCond .ne 5, 3) := by decide +kernel
theorem dX3_plan_16 : decode cX3_plan 16 = .ok (.iconst (-1), 1) := by decide +kernel
theorem dX3_plan_17 : decode cX3_plan 17 = .ok (.ireturn, 1) := by decide +kernel
theorem dX3_plan_18 : decode cX3_plan 18 = .ok (.aload_n 0, 1) := by decide +kernel
theorem dX3_plan_19 : decode cX3_plan 19 = .ok (.iload_n 1, 1) := by decide +kernel
theorem dX3_plan_20 : decode cX3_plan 20 = .ok (.invokevirtual 111, 3) := by decide +kernel
theorem dX3_plan_23 : decode cX3_plan 23 = .ok (.ifCond .eq 13, 3) := by decide +kernel
theorem dX3_plan_26 : decode cX3_plan 26 = .ok (.aload_n 0, 1) := by decide +kernel
theorem dX3_plan_27 : decode cX3_plan 27 = .ok (.getfield 44, 3) := by decide +kernel
theorem dX3_plan_30 : decode cX3_plan 30 = .ok (.iload_n 2, 1) := by decide +kernel
theorem dX3_plan_31 : decode cX3_plan 31 = .ok (.iaload, 1) := by decide +kernel
theorem dX3_plan_32 : decode cX3_plan 32 = .ok (.iconst (-1), 1) := by decide +kernel
theorem dX3_plan_33 : decode cX3_plan 33 = .ok (.if_icmp .ne 6, 3) := by decide +kernel
theorem dX3_plan_36 : decode cX3_plan 36 = .ok (.bipush (-3), 2) := by decide +kernel
theorem dX3_plan_38 : decode cX3_plan 38 = .ok (.ireturn, 1) := by decide +kernel
theorem dX3_plan_39 : decode cX3_plan 39 = .ok (.aload_n 0, 1) := by decide +kernel
theorem dX3_plan_40 : decode cX3_plan 40 = .ok (.getfield 44, 3) := by decide +kernel
theorem dX3_plan_43 : decode cX3_plan 43 = .ok (.iload_n 2, 1) := by decide +kernel
theorem dX3_plan_44 : decode cX3_plan 44 = .ok (.iaload, 1) := by decide +kernel
theorem dX3_plan_45 : decode cX3_plan 45 = .ok (.ireturn, 1) := by decide +kernel
set_option maxRecDepth 20000 in
theorem ggX3_fences_X3_isAim : GoodIn wsX3_fences wsX3_isAim := goodIn_r _ [4, 5, 6, 3, 7] (by decide +kernel) (by decide +kernel)
set_option maxRecDepth 20000 in
theorem gX3_fences_X3_isAim : GoodIn wsX3_fences (va_wsS RX3 108 yX3_isAim wsX3_isAim) := goodIn_app (goodIn_of _ (by decide +kernel)) ggX3_fences_X3_isAim
set_option maxRecDepth 20000 in
theorem ggX3_fences_X3_findPlan : GoodIn wsX3_fences wsX3_findPlan := goodIn_r _ [11, 12, 13, 14, 15, 16, 17, 18, 19, 20, 21, 22, 23, 24, 25, 26, 27, 28, 29, 30, 3, 31, 32, 33, 34, 35, 36, 37, 38, 39, 40, 41, 42, 43, 44, 45, 46, 47, 48, 49, 50, 51, 52, 53, 54, 55, 56, 57, 58, 59, 60, 61, 62, 63, 64, 65, 66, 67, 68, 69, 70, 71, 72, 73, 74, 75, 76, 77, 78, 79, 80, 81, 82, 83, 84, 85, 86, 87, 88, 89, 90, 91, 92, 93, 94, 95, 96, 97, 98, 99, 100, 101, 6, 7, 102, 103, 104, 105, 106, 107, 108, 109, 110, 111, 112, 113, 114, 115, 116, 117, 118, 119, 120, 121, 122, 123, 124] (by decide +kernel) (by decide +kernel)
set_option maxRecDepth 20000 in
theorem gX3_fences_X3_findPlan : GoodIn wsX3_fences (wsV RX3 111 RX3 yX3_findPlan wsX3_findPlan) := goodIn_app (goodIn_of _ (by decide +kernel)) ggX3_fences_X3_findPlan
set_option maxRecDepth 20000 in
theorem ggX3_fences_X3_plannedFences : GoodIn wsX3_fences wsX3_plannedFences := goodIn_r _ [43, 32, 106, 107, 108, 109, 110, 111, 112, 113] (by decide +kernel) (by decide +kernel)
set_option maxRecDepth 20000 in
theorem gX3_fences_X3_plannedFences : GoodIn wsX3_fences (wsV RX3 114 RX3 yX3_plannedFences wsX3_plannedFences) := goodIn_app (goodIn_of _ (by decide +kernel)) ggX3_fences_X3_plannedFences
theorem dX3_fences_0 : decode cX3_fences 0 = .ok (.iload_n 1, 1) := by decide +kernel
theorem dX3_fences_1 : decode cX3_fences 1 = .ok (.invokestatic 108, 3) := by decide +kernel
theorem dX3_fences_4 : decode cX3_fences 4 = .ok (.ifCond .ne 5, 3) := by decide +kernel
theorem dX3_fences_7 : decode cX3_fences 7 = .ok (.iconst (-1), 1) := by decide +kernel
theorem dX3_fences_8 : decode cX3_fences 8 = .ok (.ireturn, 1) := by decide +kernel
theorem dX3_fences_9 : decode cX3_fences 9 = .ok (.aload_n 0, 1) := by decide +kernel
theorem dX3_fences_10 : decode cX3_fences 10 = .ok (.iload_n 1, 1) := by decide +kernel
theorem dX3_fences_11 : decode cX3_fences 11 = .ok (.invokevirtual 111, 3) := by decide +kernel
theorem dX3_fences_14 : decode cX3_fences 14 = .ok (.ifCond .eq 10, 3) := by decide +kernel
theorem dX3_fences_17 : decode cX3_fences 17 = .ok (.aload_n 0, 1) := by decide +kernel
theorem dX3_fences_18 : decode cX3_fences 18 = .ok (.invokevirtual 114, 3) := by decide +kernel
theorem dX3_fences_21 : decode cX3_fences 21 = .ok (.goto 5, 3) := by decide +kernel
theorem dX3_fences_24 : decode cX3_fences 24 = .ok (.bipush (-3), 2) := by decide +kernel
theorem dX3_fences_26 : decode cX3_fences 26 = .ok (.ireturn, 1) := by decide +kernel
set_option maxRecDepth 20000 in
theorem ggX3_most_X2_any : GoodIn wsX3_most wsX2_any := goodIn_r _ [10, 11, 107, 108, 109] (by decide +kernel) (by decide +kernel)
set_option maxRecDepth 20000 in
theorem gX3_most_X2_any : GoodIn wsX3_most (wsV RX3 117 RX2 yX2_any wsX2_any) := goodIn_app (goodIn_of _ (by decide +kernel)) ggX3_most_X2_any
set_option maxRecDepth 20000 in
theorem ggX3_most_X2_lastYear : GoodIn wsX3_most wsX2_lastYear := goodIn_r _ [15, 16, 3, 4, 5, 17, 18, 19, 9, 20, 11, 21, 107, 108, 109] (by decide +kernel) (by decide +kernel)
set_option maxRecDepth 20000 in
theorem gX3_most_X2_lastYear : GoodIn wsX3_most (wsV RX3 121 RX2 yX2_lastYear wsX2_lastYear) := goodIn_app (goodIn_of _ (by decide +kernel)) ggX3_most_X2_lastYear
set_option maxRecDepth 20000 in
theorem ggX3_most_X3_choosePlan : GoodIn wsX3_most wsX3_choosePlan := goodIn_r _ [26, 27, 28, 29, 30, 31, 32, 33, 34, 99, 100, 101, 102, 103, 104, 105, 106, 110, 111, 112, 113, 114, 115, 116, 117] (by decide +kernel) (by decide +kernel)
set_option maxRecDepth 20000 in
theorem gX3_most_X3_choosePlan : GoodIn wsX3_most (wsV RX3 124 RX3 yX3_choosePlan wsX3_choosePlan) := goodIn_app (goodIn_of _ (by decide +kernel)) ggX3_most_X3_choosePlan
set_option maxRecDepth 20000 in
theorem ggX3_most_X3_worstCrest : GoodIn wsX3_most wsX3_worstCrest := goodIn_r _ [38, 1, 39, 40, 41, 42, 4, 43, 44, 45, 46, 47, 25, 48, 28, 49, 50, 51, 52, 53, 32, 54, 34, 55, 56, 57, 58, 59, 60, 61, 62, 63, 64, 65, 27, 66, 67, 29, 30, 31, 33, 68, 69, 70, 71, 72, 3, 5, 73, 74, 75, 76, 77, 78, 79, 80, 81, 82, 83, 84, 85, 86, 87, 88, 89, 90, 91, 92, 93, 94, 95, 96, 97, 98, 99, 100, 101, 102, 103, 104, 105, 106, 107, 108, 109, 110, 111, 112, 113, 114, 115, 116, 117] (by decide +kernel) (by decide +kernel)
set_option maxRecDepth 20000 in
theorem gX3_most_X3_worstCrest : GoodIn wsX3_most (wsV RX3 127 RX3 yX3_worstCrest wsX3_worstCrest) := goodIn_app (goodIn_of _ (by decide +kernel)) ggX3_most_X3_worstCrest
theorem dX3_most_0 : decode cX3_most 0 = .ok (.aload_n 0, 1) := by decide +kernel
theorem dX3_most_1 : decode cX3_most 1 = .ok (.getfield 29, 3) := by decide +kernel
theorem dX3_most_4 : decode cX3_most 4 = .ok (.invokevirtual 117, 3) := by decide +kernel
theorem dX3_most_7 : decode cX3_most 7 = .ok (.ifCond .ne 6, 3) := by decide +kernel
theorem dX3_most_10 : decode cX3_most 10 = .ok (.bipush (-3), 2) := by decide +kernel
theorem dX3_most_12 : decode cX3_most 12 = .ok (.ireturn, 1) := by decide +kernel
theorem dX3_most_13 : decode cX3_most 13 = .ok (.aload_n 0, 1) := by decide +kernel
theorem dX3_most_14 : decode cX3_most 14 = .ok (.getfield 29, 3) := by decide +kernel
theorem dX3_most_17 : decode cX3_most 17 = .ok (.invokevirtual 121, 3) := by decide +kernel
theorem dX3_most_20 : decode cX3_most 20 = .ok (.istore_n 1, 1) := by decide +kernel
theorem dX3_most_21 : decode cX3_most 21 = .ok (.iconst (-1), 1) := by decide +kernel
theorem dX3_most_22 : decode cX3_most 22 = .ok (.istore_n 2, 1) := by decide +kernel
theorem dX3_most_23 : decode cX3_most 23 = .ok (.iconst 0, 1) := by decide +kernel
theorem dX3_most_24 : decode cX3_most 24 = .ok (.istore_n 3, 1) := by decide +kernel
theorem dX3_most_25 : decode cX3_most 25 = .ok (.iload_n 3, 1) := by decide +kernel
theorem dX3_most_26 : decode cX3_most 26 = .ok (.sipush 512, 3) := by decide +kernel
theorem dX3_most_29 : decode cX3_most 29 = .ok (.if_icmp .ge 30, 3) := by decide +kernel
theorem dX3_most_32 : decode cX3_most 32 = .ok (.aload_n 0, 1) := by decide +kernel
theorem dX3_most_33 : decode cX3_most 33 = .ok (.iload_n 3, 1) := by decide +kernel
theorem dX3_most_34 : decode cX3_most 34 = .ok (.iload_n 1, 1) := by decide +kernel
theorem dX3_most_35 : decode cX3_most 35 = .ok (.invokevirtual 124, 3) := by decide +kernel
theorem dX3_most_38 : decode cX3_most 38 = .ok (.ifCond .eq 15, 3) := by decide +kernel
theorem dX3_most_41 : decode cX3_most 41 = .ok (.iload_n 2, 1) := by decide +kernel
theorem dX3_most_42 : decode cX3_most 42 = .ok (.aload_n 0, 1) := by decide +kernel
theorem dX3_most_43 : decode cX3_most 43 = .ok (.iload_n 2, 1) := by decide +kernel
theorem dX3_most_44 : decode cX3_most 44 = .ok (.iconst 1, 1) := by decide +kernel
theorem dX3_most_45 : decode cX3_most 45 = .ok (.iadd, 1) := by decide +kernel
theorem dX3_most_46 : decode cX3_most 46 = .ok (.invokevirtual 127, 3) := by decide +kernel
theorem dX3_most_49 : decode cX3_most 49 = .ok (.invokestatic 130, 3) := by decide +kernel
theorem dX3_most_52 : decode cX3_most 52 = .ok (.istore_n 2, 1) := by decide +kernel
theorem dX3_most_53 : decode cX3_most 53 = .ok (.iinc 3 1, 3) := by decide +kernel
theorem dX3_most_56 : decode cX3_most 56 = .ok (.goto (-31), 3) := by decide +kernel
theorem dX3_most_59 : decode cX3_most 59 = .ok (.iload_n 2, 1) := by decide +kernel
theorem dX3_most_60 : decode cX3_most 60 = .ok (.ifCond .ge 8, 3) := by decide +kernel
theorem dX3_most_63 : decode cX3_most 63 = .ok (.bipush (-3), 2) := by decide +kernel
theorem dX3_most_65 : decode cX3_most 65 = .ok (.goto 4, 3) := by decide +kernel
theorem dX3_most_68 : decode cX3_most 68 = .ok (.iload_n 2, 1) := by decide +kernel
theorem dX3_most_69 : decode cX3_most 69 = .ok (.ireturn, 1) := by decide +kernel
set_option maxRecDepth 20000 in
theorem ggX3_read_X0_has : GoodIn wsX3_read wsX0_has := goodIn_r _ [7, 8, 27, 28, 29, 30, 31, 32, 33, 34] (by decide +kernel) (by decide +kernel)
set_option maxRecDepth 20000 in
theorem gX3_read_X0_has : GoodIn wsX3_read (wsV RX3 59 RX0 yX0_has wsX0_has) := goodIn_app (goodIn_of _ (by decide +kernel)) ggX3_read_X0_has
set_option maxRecDepth 20000 in
theorem ggX3_read_X3_isWithin : GoodIn wsX3_read wsX3_isWithin := goodIn_r _ [12] (by decide +kernel) (by decide +kernel)
set_option maxRecDepth 20000 in
theorem gX3_read_X3_isWithin : GoodIn wsX3_read (va_wsS RX3 48 yX3_isWithin wsX3_isWithin) := goodIn_app (goodIn_of _ (by decide +kernel)) ggX3_read_X3_isWithin
set_option maxRecDepth 20000 in
theorem ggX3_read_X1_put : GoodIn wsX3_read wsX1_put := goodIn_r _ [17, 18, 35] (by decide +kernel) (by decide +kernel)
set_option maxRecDepth 20000 in
theorem gX3_read_X1_put : GoodIn wsX3_read (wsV RX3 136 RX1 yX1_put wsX1_put) := goodIn_app (goodIn_of _ (by decide +kernel)) ggX3_read_X1_put
theorem dX3_read_0 : decode cX3_read 0 = .ok (.aload_n 0, 1) := by decide +kernel
theorem dX3_read_1 : decode cX3_read 1 = .ok (.getfield 10, 3) := by decide +kernel
theorem dX3_read_4 : decode cX3_read 4 = .ok (.iload_n 1, 1) := by decide +kernel
theorem dX3_read_5 : decode cX3_read 5 = .ok (.invokevirtual 59, 3) := by decide +kernel
theorem dX3_read_8 : decode cX3_read 8 = .ok (.ifCond .eq 13, 3) := by decide +kernel
theorem dX3_read_11 : decode cX3_read 11 = .ok (.iload_n 2, 1) := by decide +kernel
theorem dX3_read_12 : decode cX3_read 12 = .ok (.iconst (-1), 1) := by decide +kernel
theorem dX3_read_13 : decode cX3_read 13 = .ok (.bipush 99, 2) := by decide +kernel
theorem dX3_read_15 : decode cX3_read 15 = .ok (.invokestatic 48, 3) := by decide +kernel
theorem dX3_read_18 : decode cX3_read 18 = .ok (.ifCond .ne 6, 3) := by decide +kernel
theorem dX3_read_21 : decode cX3_read 21 = .ok (.bipush (-9), 2) := by decide +kernel
theorem dX3_read_23 : decode cX3_read 23 = .ok (.ireturn, 1) := by decide +kernel
theorem dX3_read_24 : decode cX3_read 24 = .ok (.aload_n 0, 1) := by decide +kernel
theorem dX3_read_25 : decode cX3_read 25 = .ok (.getfield 36, 3) := by decide +kernel
theorem dX3_read_28 : decode cX3_read 28 = .ok (.iload_n 1, 1) := by decide +kernel
theorem dX3_read_29 : decode cX3_read 29 = .ok (.iload_n 2, 1) := by decide +kernel
theorem dX3_read_30 : decode cX3_read 30 = .ok (.invokevirtual 136, 3) := by decide +kernel
theorem dX3_read_33 : decode cX3_read 33 = .ok (.ireturn, 1) := by decide +kernel
set_option maxRecDepth 20000 in
theorem ggX3_take_X1_put : GoodIn wsX3_take wsX1_put := goodIn_r _ [9, 10, 27] (by decide +kernel) (by decide +kernel)
set_option maxRecDepth 20000 in
theorem gX3_take_X1_put : GoodIn wsX3_take (wsV RX3 136 RX1 yX1_put wsX1_put) := goodIn_app (goodIn_of _ (by decide +kernel)) ggX3_take_X1_put
theorem dX3_take_0 : decode cX3_take 0 = .ok (.iconst 0, 1) := by decide +kernel
theorem dX3_take_1 : decode cX3_take 1 = .ok (.istore_n 1, 1) := by decide +kernel
theorem dX3_take_2 : decode cX3_take 2 = .ok (.iconst 0, 1) := by decide +kernel
theorem dX3_take_3 : decode cX3_take 3 = .ok (.istore_n 2, 1) := by decide +kernel
theorem dX3_take_4 : decode cX3_take 4 = .ok (.iload_n 2, 1) := by decide +kernel
theorem dX3_take_5 : decode cX3_take 5 = .ok (.aload_n 0, 1) := by decide +kernel
theorem dX3_take_6 : decode cX3_take 6 = .ok (.getfield 10, 3) := by decide +kernel
theorem dX3_take_9 : decode cX3_take 9 = .ok (.getfield 139, 3) := by decide +kernel
theorem dX3_take_12 : decode cX3_take 12 = .ok (.if_icmp .ge 41, 3) := by decide +kernel
theorem dX3_take_15 : decode cX3_take 15 = .ok (.aload_n 0, 1) := by decide +kernel
theorem dX3_take_16 : decode cX3_take 16 = .ok (.getfield 36, 3) := by decide +kernel
theorem dX3_take_19 : decode cX3_take 19 = .ok (.iload_n 2, 1) := by decide +kernel
theorem dX3_take_20 : decode cX3_take 20 = .ok (.aload_n 0, 1) := by decide +kernel
theorem dX3_take_21 : decode cX3_take 21 = .ok (.getfield 10, 3) := by decide +kernel
theorem dX3_take_24 : decode cX3_take 24 = .ok (.getfield 142, 3) := by decide +kernel
theorem dX3_take_27 : decode cX3_take 27 = .ok (.iload_n 2, 1) := by decide +kernel
theorem dX3_take_28 : decode cX3_take 28 = .ok (.iaload, 1) := by decide +kernel
theorem dX3_take_29 : decode cX3_take 29 = .ok (.invokevirtual 136, 3) := by decide +kernel
theorem dX3_take_32 : decode cX3_take 32 = .ok (.aload_n 0, 1) := by decide +kernel
theorem dX3_take_33 : decode cX3_take 33 = .ok (.getfield 10, 3) := by decide +kernel
theorem dX3_take_36 : decode cX3_take 36 = .ok (.getfield 142, 3) := by decide +kernel
theorem dX3_take_39 : decode cX3_take 39 = .ok (.iload_n 2, 1) := by decide +kernel
theorem dX3_take_40 : decode cX3_take 40 = .ok (.iaload, 1) := by decide +kernel
theorem dX3_take_41 : decode cX3_take 41 = .ok (.if_icmp .eq 6, 3) := by decide +kernel
theorem dX3_take_44 : decode cX3_take 44 = .ok (.iinc 1 1, 3) := by decide +kernel
theorem dX3_take_47 : decode cX3_take 47 = .ok (.iinc 2 1, 3) := by decide +kernel
theorem dX3_take_50 : decode cX3_take 50 = .ok (.goto (-46), 3) := by decide +kernel
theorem dX3_take_53 : decode cX3_take 53 = .ok (.iload_n 1, 1) := by decide +kernel
theorem dX3_take_54 : decode cX3_take 54 = .ok (.ireturn, 1) := by decide +kernel
set_option maxRecDepth 20000 in
theorem ggX3_level_X0_has : GoodIn wsX3_level wsX0_has := goodIn_r _ [8, 9, 42, 43, 44, 45, 46, 47, 48, 49] (by decide +kernel) (by decide +kernel)
set_option maxRecDepth 20000 in
theorem gX3_level_X0_has : GoodIn wsX3_level (wsV RX3 59 RX0 yX0_has wsX0_has) := goodIn_app (goodIn_of _ (by decide +kernel)) ggX3_level_X0_has
set_option maxRecDepth 20000 in
theorem ggX3_level_X3_isFractionPart : GoodIn wsX3_level wsX3_isFractionPart := goodIn_r _ [13, 14, 15, 12, 16] (by decide +kernel) (by decide +kernel)
set_option maxRecDepth 20000 in
theorem gX3_level_X3_isFractionPart : GoodIn wsX3_level (va_wsS RX3 145 yX3_isFractionPart wsX3_isFractionPart) := goodIn_app (goodIn_of _ (by decide +kernel)) ggX3_level_X3_isFractionPart
set_option maxRecDepth 20000 in
theorem ggX3_level_X1_readings : GoodIn wsX3_level wsX1_readings := goodIn_r _ [21, 22, 50] (by decide +kernel) (by decide +kernel)
set_option maxRecDepth 20000 in
theorem gX3_level_X1_readings : GoodIn wsX3_level (wsV RX3 148 RX1 yX1_readings wsX1_readings) := goodIn_app (goodIn_of _ (by decide +kernel)) ggX3_level_X1_readings
set_option maxRecDepth 20000 in
theorem ggX3_level_X1_scaledLevel : GoodIn wsX3_level wsX1_scaledLevel := goodIn_r _ [26, 22, 27, 28, 29, 20, 30, 50] (by decide +kernel) (by decide +kernel)
set_option maxRecDepth 20000 in
theorem gX3_level_X1_scaledLevel : GoodIn wsX3_level (wsV RX3 151 RX1 yX1_scaledLevel wsX1_scaledLevel) := goodIn_app (goodIn_of _ (by decide +kernel)) ggX3_level_X1_scaledLevel
set_option maxRecDepth 20000 in
theorem ggX3_level_X3_cleared : GoodIn wsX3_level wsX3_cleared := goodIn_r _ [33] (by decide +kernel) (by decide +kernel)
set_option maxRecDepth 20000 in
theorem gX3_level_X3_cleared : GoodIn wsX3_level (va_wsS RX3 154 yX3_cleared wsX3_cleared) := goodIn_app (goodIn_of _ (by decide +kernel)) ggX3_level_X3_cleared
theorem dX3_level_0 : decode cX3_level 0 = .ok (.aload_n 0, 1) := by decide +kernel
theorem dX3_level_1 : decode cX3_level 1 = .ok (.getfield 10, 3) := by decide +kernel
theorem dX3_level_4 : decode cX3_level 4 = .ok (.iload_n 1, 1) := by decide +kernel
theorem dX3_level_5 : decode cX3_level 5 = .ok (.invokevirtual 59, 3) := by decide +kernel
theorem dX3_level_8 : decode cX3_level 8 = .ok (.ifCond .eq 10, 3) := by decide +kernel
theorem dX3_level_11 : decode cX3_level 11 = .ok (.iload_n 2, 1) := by decide +kernel
theorem dX3_level_12 : decode cX3_level 12 = .ok (.invokestatic 145, 3) := by decide +kernel
theorem dX3_level_15 : decode cX3_level 15 = .ok (.ifCond .ne 5, 3) := by decide +kernel
theorem dX3_level_18 : decode cX3_level 18 = .ok (.iconst (-1), 1) := by decide +kernel
theorem dX3_level_19 : decode cX3_level 19 = .ok (.ireturn, 1) := by decide +kernel
theorem dX3_level_20 : decode cX3_level 20 = .ok (.aload_n 0, 1) := by decide +kernel
theorem dX3_level_21 : decode cX3_level 21 = .ok (.getfield 36, 3) := by decide +kernel
theorem dX3_level_24 : decode cX3_level 24 = .ok (.invokevirtual 148, 3) := by decide +kernel
theorem dX3_level_27 : decode cX3_level 27 = .ok (.iconst 1, 1) := by decide +kernel
theorem dX3_level_28 : decode cX3_level 28 = .ok (.if_icmp .ge 6, 3) := by decide +kernel
theorem dX3_level_31 : decode cX3_level 31 = .ok (.bipush (-3), 2) := by decide +kernel
theorem dX3_level_33 : decode cX3_level 33 = .ok (.ireturn, 1) := by decide +kernel
theorem dX3_level_34 : decode cX3_level 34 = .ok (.aload_n 0, 1) := by decide +kernel
theorem dX3_level_35 : decode cX3_level 35 = .ok (.getfield 36, 3) := by decide +kernel
theorem dX3_level_38 : decode cX3_level 38 = .ok (.iload_n 1, 1) := by decide +kernel
theorem dX3_level_39 : decode cX3_level 39 = .ok (.aload_n 0, 1) := by decide +kernel
theorem dX3_level_40 : decode cX3_level 40 = .ok (.getfield 10, 3) := by decide +kernel
theorem dX3_level_43 : decode cX3_level 43 = .ok (.getfield 139, 3) := by decide +kernel
theorem dX3_level_46 : decode cX3_level 46 = .ok (.iconst (-1), 1) := by decide +kernel
theorem dX3_level_47 : decode cX3_level 47 = .ok (.invokevirtual 151, 3) := by decide +kernel
theorem dX3_level_50 : decode cX3_level 50 = .ok (.iload_n 2, 1) := by decide +kernel
theorem dX3_level_51 : decode cX3_level 51 = .ok (.invokestatic 154, 3) := by decide +kernel
theorem dX3_level_54 : decode cX3_level 54 = .ok (.ireturn, 1) := by decide +kernel
set_option maxRecDepth 20000 in
theorem ggX3_volume_X3_isFractionPart : GoodIn wsX3_volume wsX3_isFractionPart := goodIn_r _ [7, 8, 9, 6, 10] (by decide +kernel) (by decide +kernel)
set_option maxRecDepth 20000 in
theorem gX3_volume_X3_isFractionPart : GoodIn wsX3_volume (va_wsS RX3 145 yX3_isFractionPart wsX3_isFractionPart) := goodIn_app (goodIn_of _ (by decide +kernel)) ggX3_volume_X3_isFractionPart
set_option maxRecDepth 20000 in
theorem ggX3_volume_X1_readings : GoodIn wsX3_volume wsX1_readings := goodIn_r _ [15, 16, 48] (by decide +kernel) (by decide +kernel)
set_option maxRecDepth 20000 in
theorem gX3_volume_X1_readings : GoodIn wsX3_volume (wsV RX3 148 RX1 yX1_readings wsX1_readings) := goodIn_app (goodIn_of _ (by decide +kernel)) ggX3_volume_X1_readings
set_option maxRecDepth 20000 in
theorem ggX3_volume_X1_scaledVolume : GoodIn wsX3_volume wsX1_scaledVolume := goodIn_r _ [20, 21, 22, 23, 14, 24, 16, 25, 26, 27, 28, 48] (by decide +kernel) (by decide +kernel)
set_option maxRecDepth 20000 in
theorem gX3_volume_X1_scaledVolume : GoodIn wsX3_volume (wsV RX3 157 RX1 yX1_scaledVolume wsX1_scaledVolume) := goodIn_app (goodIn_of _ (by decide +kernel)) ggX3_volume_X1_scaledVolume
set_option maxRecDepth 20000 in
theorem ggX3_volume_X3_cleared : GoodIn wsX3_volume wsX3_cleared := goodIn_r _ [31] (by decide +kernel) (by decide +kernel)
set_option maxRecDepth 20000 in
theorem gX3_volume_X3_cleared : GoodIn wsX3_volume (va_wsS RX3 154 yX3_cleared wsX3_cleared) := goodIn_app (goodIn_of _ (by decide +kernel)) ggX3_volume_X3_cleared
theorem dX3_volume_0 : decode cX3_volume 0 = .ok (.iload_n 1, 1) := by decide +kernel
theorem dX3_volume_1 : decode cX3_volume 1 = .ok (.invokestatic 145, 3) := by decide +kernel
theorem dX3_volume_4 : decode cX3_volume 4 = .ok (.ifCond .ne 5, 3) := by decide +kernel
theorem dX3_volume_7 : decode cX3_volume 7 = .ok (.iconst (-1), 1) := by decide +kernel
theorem dX3_volume_8 : decode cX3_volume 8 = .ok (.ireturn, 1) := by decide +kernel
theorem dX3_volume_9 : decode cX3_volume 9 = .ok (.aload_n 0, 1) := by decide +kernel
theorem dX3_volume_10 : decode cX3_volume 10 = .ok (.getfield 36, 3) := by decide +kernel
theorem dX3_volume_13 : decode cX3_volume 13 = .ok (.invokevirtual 148, 3) := by decide +kernel
theorem dX3_volume_16 : decode cX3_volume 16 = .ok (.iconst 1, 1) := by decide +kernel
theorem dX3_volume_17 : decode cX3_volume 17 = .ok (.if_icmp .ge 6, 3) := by decide +kernel
theorem dX3_volume_20 : decode cX3_volume 20 = .ok (.bipush (-3), 2) := by decide +kernel
theorem dX3_volume_22 : decode cX3_volume 22 = .ok (.ireturn, 1) := by decide +kernel
theorem dX3_volume_23 : decode cX3_volume 23 = .ok (.aload_n 0, 1) := by decide +kernel
theorem dX3_volume_24 : decode cX3_volume 24 = .ok (.getfield 36, 3) := by decide +kernel
theorem dX3_volume_27 : decode cX3_volume 27 = .ok (.aload_n 0, 1) := by decide +kernel
theorem dX3_volume_28 : decode cX3_volume 28 = .ok (.getfield 10, 3) := by decide +kernel
theorem dX3_volume_31 : decode cX3_volume 31 = .ok (.getfield 139, 3) := by decide +kernel
theorem dX3_volume_34 : decode cX3_volume 34 = .ok (.iconst (-1), 1) := by decide +kernel
theorem dX3_volume_35 : decode cX3_volume 35 = .ok (.invokevirtual 157, 3) := by decide +kernel
theorem dX3_volume_38 : decode cX3_volume 38 = .ok (.iload_n 1, 1) := by decide +kernel
theorem dX3_volume_39 : decode cX3_volume 39 = .ok (.invokestatic 154, 3) := by decide +kernel
theorem dX3_volume_42 : decode cX3_volume 42 = .ok (.ireturn, 1) := by decide +kernel
set_option maxRecDepth 20000 in
theorem ggX3_doubt_X3_isFractionPart : GoodIn wsX3_doubt wsX3_isFractionPart := goodIn_r _ [7, 8, 9, 6, 10] (by decide +kernel) (by decide +kernel)
set_option maxRecDepth 20000 in
theorem gX3_doubt_X3_isFractionPart : GoodIn wsX3_doubt (va_wsS RX3 145 yX3_isFractionPart wsX3_isFractionPart) := goodIn_app (goodIn_of _ (by decide +kernel)) ggX3_doubt_X3_isFractionPart
set_option maxRecDepth 20000 in
theorem ggX3_doubt_X1_readings : GoodIn wsX3_doubt wsX1_readings := goodIn_r _ [15, 16, 59] (by decide +kernel) (by decide +kernel)
set_option maxRecDepth 20000 in
theorem gX3_doubt_X1_readings : GoodIn wsX3_doubt (wsV RX3 148 RX1 yX1_readings wsX1_readings) := goodIn_app (goodIn_of _ (by decide +kernel)) ggX3_doubt_X1_readings
set_option maxRecDepth 20000 in
theorem ggX3_doubt_X1_scaledDoubt : GoodIn wsX3_doubt wsX1_scaledDoubt := goodIn_r _ [20, 16, 21, 22, 23, 24, 25, 26, 27, 28, 29, 30, 14, 31, 32, 33, 34, 35, 36, 37, 38, 39, 59] (by decide +kernel) (by decide +kernel)
set_option maxRecDepth 20000 in
theorem gX3_doubt_X1_scaledDoubt : GoodIn wsX3_doubt (wsV RX3 160 RX1 yX1_scaledDoubt wsX1_scaledDoubt) := goodIn_app (goodIn_of _ (by decide +kernel)) ggX3_doubt_X1_scaledDoubt
set_option maxRecDepth 20000 in
theorem ggX3_doubt_X3_cleared : GoodIn wsX3_doubt wsX3_cleared := goodIn_r _ [42] (by decide +kernel) (by decide +kernel)
set_option maxRecDepth 20000 in
theorem gX3_doubt_X3_cleared : GoodIn wsX3_doubt (va_wsS RX3 154 yX3_cleared wsX3_cleared) := goodIn_app (goodIn_of _ (by decide +kernel)) ggX3_doubt_X3_cleared
theorem dX3_doubt_0 : decode cX3_doubt 0 = .ok (.iload_n 1, 1) := by decide +kernel
theorem dX3_doubt_1 : decode cX3_doubt 1 = .ok (.invokestatic 145, 3) := by decide +kernel
theorem dX3_doubt_4 : decode cX3_doubt 4 = .ok (.ifCond .ne 5, 3) := by decide +kernel
theorem dX3_doubt_7 : decode cX3_doubt 7 = .ok (.iconst (-1), 1) := by decide +kernel
theorem dX3_doubt_8 : decode cX3_doubt 8 = .ok (.ireturn, 1) := by decide +kernel
theorem dX3_doubt_9 : decode cX3_doubt 9 = .ok (.aload_n 0, 1) := by decide +kernel
theorem dX3_doubt_10 : decode cX3_doubt 10 = .ok (.getfield 36, 3) := by decide +kernel
theorem dX3_doubt_13 : decode cX3_doubt 13 = .ok (.invokevirtual 148, 3) := by decide +kernel
theorem dX3_doubt_16 : decode cX3_doubt 16 = .ok (.iconst 2, 1) := by decide +kernel
theorem dX3_doubt_17 : decode cX3_doubt 17 = .ok (.if_icmp .ge 6, 3) := by decide +kernel
theorem dX3_doubt_20 : decode cX3_doubt 20 = .ok (.bipush (-3), 2) := by decide +kernel
theorem dX3_doubt_22 : decode cX3_doubt 22 = .ok (.ireturn, 1) := by decide +kernel
theorem dX3_doubt_23 : decode cX3_doubt 23 = .ok (.aload_n 0, 1) := by decide +kernel
theorem dX3_doubt_24 : decode cX3_doubt 24 = .ok (.getfield 36, 3) := by decide +kernel
theorem dX3_doubt_27 : decode cX3_doubt 27 = .ok (.aload_n 0, 1) := by decide +kernel
theorem dX3_doubt_28 : decode cX3_doubt 28 = .ok (.getfield 10, 3) := by decide +kernel
theorem dX3_doubt_31 : decode cX3_doubt 31 = .ok (.getfield 139, 3) := by decide +kernel
theorem dX3_doubt_34 : decode cX3_doubt 34 = .ok (.invokevirtual 160, 3) := by decide +kernel
theorem dX3_doubt_37 : decode cX3_doubt 37 = .ok (.iload_n 1, 1) := by decide +kernel
theorem dX3_doubt_38 : decode cX3_doubt 38 = .ok (.invokestatic 154, 3) := by decide +kernel
theorem dX3_doubt_41 : decode cX3_doubt 41 = .ok (.ireturn, 1) := by decide +kernel
set_option maxRecDepth 20000 in
theorem ggX3_many_X0_heightsTogether : GoodIn wsX3_many wsX0_heightsTogether := goodIn_r _ [13, 14, 15, 42, 43, 44, 45, 46, 47, 48, 49] (by decide +kernel) (by decide +kernel)
set_option maxRecDepth 20000 in
theorem gX3_many_X0_heightsTogether : GoodIn wsX3_many (wsV RX3 169 RX0 yX0_heightsTogether wsX0_heightsTogether) := goodIn_app (goodIn_of _ (by decide +kernel)) ggX3_many_X0_heightsTogether
set_option maxRecDepth 20000 in
theorem ggX3_many_X0_greatestHeight : GoodIn wsX3_many wsX0_greatestHeight := goodIn_r _ [19, 14, 15, 20, 21, 22, 23, 42, 43, 44, 45, 46, 47, 48, 49] (by decide +kernel) (by decide +kernel)
set_option maxRecDepth 20000 in
theorem gX3_many_X0_greatestHeight : GoodIn wsX3_many (wsV RX3 102 RX0 yX0_greatestHeight wsX0_greatestHeight) := goodIn_app (goodIn_of _ (by decide +kernel)) ggX3_many_X0_greatestHeight
set_option maxRecDepth 20000 in
theorem ggX3_many_X1_readings : GoodIn wsX3_many wsX1_readings := goodIn_r _ [28, 29, 53] (by decide +kernel) (by decide +kernel)
set_option maxRecDepth 20000 in
theorem gX3_many_X1_readings : GoodIn wsX3_many (wsV RX3 148 RX1 yX1_readings wsX1_readings) := goodIn_app (goodIn_of _ (by decide +kernel)) ggX3_many_X1_readings
set_option maxRecDepth 20000 in
theorem ggX3_many_X3_isWithin : GoodIn wsX3_many wsX3_isWithin := goodIn_r _ [33] (by decide +kernel) (by decide +kernel)
set_option maxRecDepth 20000 in
theorem gX3_many_X3_isWithin : GoodIn wsX3_many (va_wsS RX3 48 yX3_isWithin wsX3_isWithin) := goodIn_app (goodIn_of _ (by decide +kernel)) ggX3_many_X3_isWithin
theorem dX3_many_0 : decode cX3_many 0 = .ok (.iload_n 1, 1) := by decide +kernel
theorem dX3_many_1 : decode cX3_many 1 = .ok (.tableswitch 99 0 6 #[43, 51, 59, 67, 75, 83, 91], 43) := by decide +kernel
theorem dX3_many_44 : decode cX3_many 44 = .ok (.aload_n 0, 1) := by decide +kernel
theorem dX3_many_45 : decode cX3_many 45 = .ok (.getfield 10, 3) := by decide +kernel
theorem dX3_many_48 : decode cX3_many 48 = .ok (.getfield 139, 3) := by decide +kernel
theorem dX3_many_51 : decode cX3_many 51 = .ok (.ireturn, 1) := by decide +kernel
theorem dX3_many_52 : decode cX3_many 52 = .ok (.aload_n 0, 1) := by decide +kernel
theorem dX3_many_53 : decode cX3_many 53 = .ok (.getfield 10, 3) := by decide +kernel
theorem dX3_many_56 : decode cX3_many 56 = .ok (.getfield 163, 3) := by decide +kernel
theorem dX3_many_59 : decode cX3_many 59 = .ok (.ireturn, 1) := by decide +kernel
theorem dX3_many_60 : decode cX3_many 60 = .ok (.aload_n 0, 1) := by decide +kernel
theorem dX3_many_61 : decode cX3_many 61 = .ok (.getfield 10, 3) := by decide +kernel
theorem dX3_many_64 : decode cX3_many 64 = .ok (.getfield 166, 3) := by decide +kernel
theorem dX3_many_67 : decode cX3_many 67 = .ok (.ireturn, 1) := by decide +kernel
theorem dX3_many_68 : decode cX3_many 68 = .ok (.aload_n 0, 1) := by decide +kernel
theorem dX3_many_69 : decode cX3_many 69 = .ok (.getfield 10, 3) := by decide +kernel
theorem dX3_many_72 : decode cX3_many 72 = .ok (.getfield 105, 3) := by decide +kernel
theorem dX3_many_75 : decode cX3_many 75 = .ok (.ireturn, 1) := by decide +kernel
theorem dX3_many_76 : decode cX3_many 76 = .ok (.aload_n 0, 1) := by decide +kernel
theorem dX3_many_77 : decode cX3_many 77 = .ok (.getfield 10, 3) := by decide +kernel
theorem dX3_many_80 : decode cX3_many 80 = .ok (.invokevirtual 169, 3) := by decide +kernel
theorem dX3_many_83 : decode cX3_many 83 = .ok (.ireturn, 1) := by decide +kernel
theorem dX3_many_84 : decode cX3_many 84 = .ok (.aload_n 0, 1) := by decide +kernel
theorem dX3_many_85 : decode cX3_many 85 = .ok (.getfield 10, 3) := by decide +kernel
theorem dX3_many_88 : decode cX3_many 88 = .ok (.invokevirtual 102, 3) := by decide +kernel
theorem dX3_many_91 : decode cX3_many 91 = .ok (.ireturn, 1) := by decide +kernel
theorem dX3_many_92 : decode cX3_many 92 = .ok (.aload_n 0, 1) := by decide +kernel
theorem dX3_many_93 : decode cX3_many 93 = .ok (.getfield 36, 3) := by decide +kernel
theorem dX3_many_96 : decode cX3_many 96 = .ok (.invokevirtual 148, 3) := by decide +kernel
theorem dX3_many_99 : decode cX3_many 99 = .ok (.ireturn, 1) := by decide +kernel
theorem dX3_many_100 : decode cX3_many 100 = .ok (.iload_n 1, 1) := by decide +kernel
theorem dX3_many_101 : decode cX3_many 101 = .ok (.bipush 7, 2) := by decide +kernel
theorem dX3_many_103 : decode cX3_many 103 = .ok (.bipush 9, 2) := by decide +kernel
theorem dX3_many_105 : decode cX3_many 105 = .ok (.invokestatic 48, 3) := by decide +kernel
theorem dX3_many_108 : decode cX3_many 108 = .ok (.ifCond .eq 18, 3) := by decide +kernel
theorem dX3_many_111 : decode cX3_many 111 = .ok (.aload_n 0, 1) := by decide +kernel
theorem dX3_many_112 : decode cX3_many 112 = .ok (.getfield 29, 3) := by decide +kernel
theorem dX3_many_115 : decode cX3_many 115 = .ok (.getfield 91, 3) := by decide +kernel
theorem dX3_many_118 : decode cX3_many 118 = .ok (.iload_n 1, 1) := by decide +kernel
theorem dX3_many_119 : decode cX3_many 119 = .ok (.bipush 7, 2) := by decide +kernel
theorem dX3_many_121 : decode cX3_many 121 = .ok (.isub, 1) := by decide +kernel
theorem dX3_many_122 : decode cX3_many 122 = .ok (.iaload, 1) := by decide +kernel
theorem dX3_many_123 : decode cX3_many 123 = .ok (.goto 4, 3) := by decide +kernel
theorem dX3_many_126 : decode cX3_many 126 = .ok (.iconst (-1), 1) := by decide +kernel
theorem dX3_many_127 : decode cX3_many 127 = .ok (.ireturn, 1) := by decide +kernel
set_option maxRecDepth 20000 in
theorem ggX3_keep_X0_copyFrom : GoodIn wsX3_keep wsX0_copyFrom := goodIn_r _ [8, 9, 10, 11, 12, 13, 14, 15, 16, 25, 26, 27, 28, 29, 30, 31, 32] (by decide +kernel) (by decide +kernel)
set_option maxRecDepth 20000 in
theorem gX3_keep_X0_copyFrom : GoodIn wsX3_keep (wsV RX3 172 RX0 yX0_copyFrom wsX0_copyFrom) := goodIn_app (goodIn_of _ (by decide +kernel)) ggX3_keep_X0_copyFrom
theorem dX3_keep_0 : decode cX3_keep 0 = .ok (.aload_n 0, 1) := by decide +kernel
theorem dX3_keep_1 : decode cX3_keep 1 = .ok (.getfield 19, 3) := by decide +kernel
theorem dX3_keep_4 : decode cX3_keep 4 = .ok (.aload_n 0, 1) := by decide +kernel
theorem dX3_keep_5 : decode cX3_keep 5 = .ok (.getfield 10, 3) := by decide +kernel
theorem dX3_keep_8 : decode cX3_keep 8 = .ok (.invokevirtual 172, 3) := by decide +kernel
theorem dX3_keep_11 : decode cX3_keep 11 = .ok (.aload_n 0, 1) := by decide +kernel
theorem dX3_keep_12 : decode cX3_keep 12 = .ok (.iconst 1, 1) := by decide +kernel
theorem dX3_keep_13 : decode cX3_keep 13 = .ok (.putfield 22, 3) := by decide +kernel
theorem dX3_keep_16 : decode cX3_keep 16 = .ok (.iconst 1, 1) := by decide +kernel
theorem dX3_keep_17 : decode cX3_keep 17 = .ok (.ireturn, 1) := by decide +kernel
set_option maxRecDepth 20000 in
theorem ggX3_back_X0_copyFrom : GoodIn wsX3_back wsX0_copyFrom := goodIn_r _ [9, 10, 11, 12, 13, 14, 15, 16, 17, 26, 27, 28, 29, 30, 31, 32, 33] (by decide +kernel) (by decide +kernel)
set_option maxRecDepth 20000 in
theorem gX3_back_X0_copyFrom : GoodIn wsX3_back (wsV RX3 172 RX0 yX0_copyFrom wsX0_copyFrom) := goodIn_app (goodIn_of _ (by decide +kernel)) ggX3_back_X0_copyFrom
theorem dX3_back_0 : decode cX3_back 0 = .ok (.aload_n 0, 1) := by decide +kernel
theorem dX3_back_1 : decode cX3_back 1 = .ok (.getfield 22, 3) := by decide +kernel
theorem dX3_back_4 : decode cX3_back 4 = .ok (.ifCond .eq 20, 3) := by decide +kernel
theorem dX3_back_7 : decode cX3_back 7 = .ok (.aload_n 0, 1) := by decide +kernel
theorem dX3_back_8 : decode cX3_back 8 = .ok (.getfield 19, 3) := by decide +kernel
theorem dX3_back_11 : decode cX3_back 11 = .ok (.getfield 139, 3) := by decide +kernel
theorem dX3_back_14 : decode cX3_back 14 = .ok (.aload_n 0, 1) := by decide +kernel
theorem dX3_back_15 : decode cX3_back 15 = .ok (.getfield 10, 3) := by decide +kernel
theorem dX3_back_18 : decode cX3_back 18 = .ok (.getfield 139, 3) := by decide +kernel
theorem dX3_back_21 : decode cX3_back 21 = .ok (.if_icmp .eq 6, 3) := by decide +kernel
theorem dX3_back_24 : decode cX3_back 24 = .ok (.bipush (-3), 2) := by decide +kernel
theorem dX3_back_26 : decode cX3_back 26 = .ok (.ireturn, 1) := by decide +kernel
theorem dX3_back_27 : decode cX3_back 27 = .ok (.aload_n 0, 1) := by decide +kernel
theorem dX3_back_28 : decode cX3_back 28 = .ok (.getfield 10, 3) := by decide +kernel
theorem dX3_back_31 : decode cX3_back 31 = .ok (.aload_n 0, 1) := by decide +kernel
theorem dX3_back_32 : decode cX3_back 32 = .ok (.getfield 19, 3) := by decide +kernel
theorem dX3_back_35 : decode cX3_back 35 = .ok (.invokevirtual 172, 3) := by decide +kernel
theorem dX3_back_38 : decode cX3_back 38 = .ok (.iconst 1, 1) := by decide +kernel
theorem dX3_back_39 : decode cX3_back 39 = .ok (.ireturn, 1) := by decide +kernel
theorem dX3_isWithin_0 : decode cX3_isWithin 0 = .ok (.iload_n 0, 1) := by decide +kernel
theorem dX3_isWithin_1 : decode cX3_isWithin 1 = .ok (.iload_n 1, 1) := by decide +kernel
theorem dX3_isWithin_2 : decode cX3_isWithin 2 = .ok (.if_icmp .lt 12, 3) := by decide +kernel
theorem dX3_isWithin_5 : decode cX3_isWithin 5 = .ok (.iload_n 0, 1) := by decide +kernel
theorem dX3_isWithin_6 : decode cX3_isWithin 6 = .ok (.iload_n 2, 1) := by decide +kernel
theorem dX3_isWithin_7 : decode cX3_isWithin 7 = .ok (.if_icmp .gt 7, 3) := by decide +kernel
theorem dX3_isWithin_10 : decode cX3_isWithin 10 = .ok (.iconst 1, 1) := by decide +kernel
theorem dX3_isWithin_11 : decode cX3_isWithin 11 = .ok (.goto 4, 3) := by decide +kernel
theorem dX3_isWithin_14 : decode cX3_isWithin 14 = .ok (.iconst 0, 1) := by decide +kernel
theorem dX3_isWithin_15 : decode cX3_isWithin 15 = .ok (.ireturn, 1) := by decide +kernel
theorem dX3_mostOf_0 : decode cX3_mostOf 0 = .ok (.iload_n 0, 1) := by decide +kernel
theorem dX3_mostOf_1 : decode cX3_mostOf 1 = .ok (.ifCond .ne 6, 3) := by decide +kernel
theorem dX3_mostOf_4 : decode cX3_mostOf 4 = .ok (.bipush 99, 2) := by decide +kernel
theorem dX3_mostOf_6 : decode cX3_mostOf 6 = .ok (.ireturn, 1) := by decide +kernel
theorem dX3_mostOf_7 : decode cX3_mostOf 7 = .ok (.iload_n 0, 1) := by decide +kernel
theorem dX3_mostOf_8 : decode cX3_mostOf 8 = .ok (.iconst 1, 1) := by decide +kernel
theorem dX3_mostOf_9 : decode cX3_mostOf 9 = .ok (.if_icmp .ne 8, 3) := by decide +kernel
theorem dX3_mostOf_12 : decode cX3_mostOf 12 = .ok (.bipush 9, 2) := by decide +kernel
theorem dX3_mostOf_14 : decode cX3_mostOf 14 = .ok (.goto 5, 3) := by decide +kernel
theorem dX3_mostOf_17 : decode cX3_mostOf 17 = .ok (.bipush 20, 2) := by decide +kernel
theorem dX3_mostOf_19 : decode cX3_mostOf 19 = .ok (.ireturn, 1) := by decide +kernel
set_option maxRecDepth 20000 in
theorem ggX3_isWeather_X3_isWithin : GoodIn wsX3_isWeather wsX3_isWithin := goodIn_r _ [4] (by decide +kernel) (by decide +kernel)
set_option maxRecDepth 20000 in
theorem gX3_isWeather_X3_isWithin : GoodIn wsX3_isWeather (va_wsS RX3 48 yX3_isWithin wsX3_isWithin) := goodIn_app (goodIn_of _ (by decide +kernel)) ggX3_isWeather_X3_isWithin
theorem dX3_isWeather_0 : decode cX3_isWeather 0 = .ok (.iload_n 0, 1) := by decide +kernel
theorem dX3_isWeather_1 : decode cX3_isWeather 1 = .ok (.iconst 0, 1) := by decide +kernel
theorem dX3_isWeather_2 : decode cX3_isWeather 2 = .ok (.iconst 2, 1) := by decide +kernel
theorem dX3_isWeather_3 : decode cX3_isWeather 3 = .ok (.invokestatic 48, 3) := by decide +kernel
theorem dX3_isWeather_6 : decode cX3_isWeather 6 = .ok (.ireturn, 1) := by decide +kernel
set_option maxRecDepth 20000 in
theorem ggX3_isEvent_X3_isWithin : GoodIn wsX3_isEvent wsX3_isWithin := goodIn_r _ [4] (by decide +kernel) (by decide +kernel)
set_option maxRecDepth 20000 in
theorem gX3_isEvent_X3_isWithin : GoodIn wsX3_isEvent (va_wsS RX3 48 yX3_isWithin wsX3_isWithin) := goodIn_app (goodIn_of _ (by decide +kernel)) ggX3_isEvent_X3_isWithin
theorem dX3_isEvent_0 : decode cX3_isEvent 0 = .ok (.iload_n 0, 1) := by decide +kernel
theorem dX3_isEvent_1 : decode cX3_isEvent 1 = .ok (.lookupswitch 43 #[(0, 27), (1, 35)], 27) := by decide +kernel
theorem dX3_isEvent_28 : decode cX3_isEvent 28 = .ok (.iload_n 1, 1) := by decide +kernel
theorem dX3_isEvent_29 : decode cX3_isEvent 29 = .ok (.iconst 1, 1) := by decide +kernel
theorem dX3_isEvent_30 : decode cX3_isEvent 30 = .ok (.bipush 9, 2) := by decide +kernel
theorem dX3_isEvent_32 : decode cX3_isEvent 32 = .ok (.invokestatic 48, 3) := by decide +kernel
theorem dX3_isEvent_35 : decode cX3_isEvent 35 = .ok (.ireturn, 1) := by decide +kernel
theorem dX3_isEvent_36 : decode cX3_isEvent 36 = .ok (.iload_n 1, 1) := by decide +kernel
theorem dX3_isEvent_37 : decode cX3_isEvent 37 = .ok (.iconst 1, 1) := by decide +kernel
theorem dX3_isEvent_38 : decode cX3_isEvent 38 = .ok (.bipush 99, 2) := by decide +kernel
theorem dX3_isEvent_40 : decode cX3_isEvent 40 = .ok (.invokestatic 48, 3) := by decide +kernel
theorem dX3_isEvent_43 : decode cX3_isEvent 43 = .ok (.ireturn, 1) := by decide +kernel
theorem dX3_isEvent_44 : decode cX3_isEvent 44 = .ok (.iload_n 0, 1) := by decide +kernel
theorem dX3_isEvent_45 : decode cX3_isEvent 45 = .ok (.iconst 2, 1) := by decide +kernel
theorem dX3_isEvent_46 : decode cX3_isEvent 46 = .ok (.if_icmp .ne 7, 3) := by decide +kernel
theorem dX3_isEvent_49 : decode cX3_isEvent 49 = .ok (.iconst 1, 1) := by decide +kernel
theorem dX3_isEvent_50 : decode cX3_isEvent 50 = .ok (.goto 4, 3) := by decide +kernel
theorem dX3_isEvent_53 : decode cX3_isEvent 53 = .ok (.iconst 0, 1) := by decide +kernel
theorem dX3_isEvent_54 : decode cX3_isEvent 54 = .ok (.ireturn, 1) := by decide +kernel
set_option maxRecDepth 20000 in
theorem ggX3_isAim_X3_isWithin : GoodIn wsX3_isAim wsX3_isWithin := goodIn_r _ [4] (by decide +kernel) (by decide +kernel)
set_option maxRecDepth 20000 in
theorem gX3_isAim_X3_isWithin : GoodIn wsX3_isAim (va_wsS RX3 48 yX3_isWithin wsX3_isWithin) := goodIn_app (goodIn_of _ (by decide +kernel)) ggX3_isAim_X3_isWithin
theorem dX3_isAim_0 : decode cX3_isAim 0 = .ok (.iload_n 0, 1) := by decide +kernel
theorem dX3_isAim_1 : decode cX3_isAim 1 = .ok (.iconst 0, 1) := by decide +kernel
theorem dX3_isAim_2 : decode cX3_isAim 2 = .ok (.bipush 99, 2) := by decide +kernel
theorem dX3_isAim_4 : decode cX3_isAim 4 = .ok (.invokestatic 48, 3) := by decide +kernel
theorem dX3_isAim_7 : decode cX3_isAim 7 = .ok (.ireturn, 1) := by decide +kernel
set_option maxRecDepth 20000 in
theorem ggX3_isFractionPart_X3_isWithin : GoodIn wsX3_isFractionPart wsX3_isWithin := goodIn_r _ [4] (by decide +kernel) (by decide +kernel)
set_option maxRecDepth 20000 in
theorem gX3_isFractionPart_X3_isWithin : GoodIn wsX3_isFractionPart (va_wsS RX3 48 yX3_isWithin wsX3_isWithin) := goodIn_app (goodIn_of _ (by decide +kernel)) ggX3_isFractionPart_X3_isWithin
theorem dX3_isFractionPart_0 : decode cX3_isFractionPart 0 = .ok (.iload_n 0, 1) := by decide +kernel
theorem dX3_isFractionPart_1 : decode cX3_isFractionPart 1 = .ok (.iconst 0, 1) := by decide +kernel
theorem dX3_isFractionPart_2 : decode cX3_isFractionPart 2 = .ok (.iconst 1, 1) := by decide +kernel
theorem dX3_isFractionPart_3 : decode cX3_isFractionPart 3 = .ok (.invokestatic 48, 3) := by decide +kernel
theorem dX3_isFractionPart_6 : decode cX3_isFractionPart 6 = .ok (.ireturn, 1) := by decide +kernel
set_option maxRecDepth 20000 in
theorem ggX3_isCellOrNone_X0_has : GoodIn wsX3_isCellOrNone wsX0_has := goodIn_r _ [6, 7, 16, 17, 18, 19, 20, 21, 22, 23] (by decide +kernel) (by decide +kernel)
set_option maxRecDepth 20000 in
theorem gX3_isCellOrNone_X0_has : GoodIn wsX3_isCellOrNone (wsV RX3 59 RX0 yX0_has wsX0_has) := goodIn_app (goodIn_of _ (by decide +kernel)) ggX3_isCellOrNone_X0_has
theorem dX3_isCellOrNone_0 : decode cX3_isCellOrNone 0 = .ok (.iload_n 1, 1) := by decide +kernel
theorem dX3_isCellOrNone_1 : decode cX3_isCellOrNone 1 = .ok (.iconst (-1), 1) := by decide +kernel
theorem dX3_isCellOrNone_2 : decode cX3_isCellOrNone 2 = .ok (.if_icmp .eq 14, 3) := by decide +kernel
theorem dX3_isCellOrNone_5 : decode cX3_isCellOrNone 5 = .ok (.aload_n 0, 1) := by decide +kernel
theorem dX3_isCellOrNone_6 : decode cX3_isCellOrNone 6 = .ok (.getfield 10, 3) := by decide +kernel
theorem dX3_isCellOrNone_9 : decode cX3_isCellOrNone 9 = .ok (.iload_n 1, 1) := by decide +kernel
theorem dX3_isCellOrNone_10 : decode cX3_isCellOrNone 10 = .ok (.invokevirtual 59, 3) := by decide +kernel
theorem dX3_isCellOrNone_13 : decode cX3_isCellOrNone 13 = .ok (.ifCond .eq 7, 3) := by decide +kernel
theorem dX3_isCellOrNone_16 : decode cX3_isCellOrNone 16 = .ok (.iconst 1, 1) := by decide +kernel
theorem dX3_isCellOrNone_17 : decode cX3_isCellOrNone 17 = .ok (.goto 4, 3) := by decide +kernel
theorem dX3_isCellOrNone_20 : decode cX3_isCellOrNone 20 = .ok (.iconst 0, 1) := by decide +kernel
theorem dX3_isCellOrNone_21 : decode cX3_isCellOrNone 21 = .ok (.ireturn, 1) := by decide +kernel
set_option maxRecDepth 20000 in
theorem ggX3_tryOut_X3_isWeather : GoodIn wsX3_tryOut wsX3_isWeather := goodIn_r _ [5, 6, 7, 4, 8] (by decide +kernel) (by decide +kernel)
set_option maxRecDepth 20000 in
theorem gX3_tryOut_X3_isWeather : GoodIn wsX3_tryOut (va_wsS RX3 84 yX3_isWeather wsX3_isWeather) := goodIn_app (goodIn_of _ (by decide +kernel)) ggX3_tryOut_X3_isWeather
set_option maxRecDepth 20000 in
theorem ggX3_tryOut_X3_isCellOrNone : GoodIn wsX3_tryOut wsX3_isCellOrNone := goodIn_r _ [12, 13, 14, 15, 16, 17, 18, 19, 77, 78, 79, 80, 81, 82, 83, 84, 85, 86, 87, 88, 89, 90, 91, 92] (by decide +kernel) (by decide +kernel)
set_option maxRecDepth 20000 in
theorem gX3_tryOut_X3_isCellOrNone : GoodIn wsX3_tryOut (wsV RX3 176 RX3 yX3_isCellOrNone wsX3_isCellOrNone) := goodIn_app (goodIn_of _ (by decide +kernel)) ggX3_tryOut_X3_isCellOrNone
set_option maxRecDepth 20000 in
theorem ggX3_tryOut_X3_play : GoodIn wsX3_tryOut wsX3_play := goodIn_r _ [23, 24, 13, 25, 26, 27, 28, 29, 30, 31, 32, 17, 33, 19, 34, 35, 36, 37, 38, 39, 40, 41, 42, 43, 4, 44, 1, 45, 46, 14, 15, 16, 18, 47, 48, 49, 50, 51, 52, 53, 54, 55, 56, 57, 58, 59, 60, 61, 62, 63, 64, 65, 66, 67, 68, 69, 70, 71, 72, 73, 74, 75, 76, 7, 8, 77, 78, 79, 80, 81, 82, 83, 84, 85, 86, 87, 88, 89, 90, 91, 92, 93, 94, 95] (by decide +kernel) (by decide +kernel)
set_option maxRecDepth 20000 in
theorem gX3_tryOut_X3_play : GoodIn wsX3_tryOut (wsV RX3 179 RX3 yX3_play wsX3_play) := goodIn_app (goodIn_of _ (by decide +kernel)) ggX3_tryOut_X3_play
theorem dX3_tryOut_0 : decode cX3_tryOut 0 = .ok (.iload_n 1, 1) := by decide +kernel
theorem dX3_tryOut_1 : decode cX3_tryOut 1 = .ok (.invokestatic 84, 3) := by decide +kernel
theorem dX3_tryOut_4 : decode cX3_tryOut 4 = .ok (.ifCond .eq 28, 3) := by decide +kernel
theorem dX3_tryOut_7 : decode cX3_tryOut 7 = .ok (.aload_n 0, 1) := by decide +kernel
theorem dX3_tryOut_8 : decode cX3_tryOut 8 = .ok (.iload_n 2, 1) := by decide +kernel
theorem dX3_tryOut_9 : decode cX3_tryOut 9 = .ok (.invokevirtual 176, 3) := by decide +kernel
theorem dX3_tryOut_12 : decode cX3_tryOut 12 = .ok (.ifCond .eq 20, 3) := by decide +kernel
theorem dX3_tryOut_15 : decode cX3_tryOut 15 = .ok (.aload_n 0, 1) := by decide +kernel
theorem dX3_tryOut_16 : decode cX3_tryOut 16 = .ok (.iload_n 3, 1) := by decide +kernel
theorem dX3_tryOut_17 : decode cX3_tryOut 17 = .ok (.invokevirtual 176, 3) := by decide +kernel
theorem dX3_tryOut_20 : decode cX3_tryOut 20 = .ok (.ifCond .eq 12, 3) := by decide +kernel
theorem dX3_tryOut_23 : decode cX3_tryOut 23 = .ok (.aload_n 0, 1) := by decide +kernel
theorem dX3_tryOut_24 : decode cX3_tryOut 24 = .ok (.iload 4, 2) := by decide +kernel
theorem dX3_tryOut_26 : decode cX3_tryOut 26 = .ok (.invokevirtual 176, 3) := by decide +kernel
theorem dX3_tryOut_29 : decode cX3_tryOut 29 = .ok (.ifCond .ne 5, 3) := by decide +kernel
theorem dX3_tryOut_32 : decode cX3_tryOut 32 = .ok (.iconst 0, 1) := by decide +kernel
theorem dX3_tryOut_33 : decode cX3_tryOut 33 = .ok (.ireturn, 1) := by decide +kernel
theorem dX3_tryOut_34 : decode cX3_tryOut 34 = .ok (.aload_n 0, 1) := by decide +kernel
theorem dX3_tryOut_35 : decode cX3_tryOut 35 = .ok (.getfield 44, 3) := by decide +kernel
theorem dX3_tryOut_38 : decode cX3_tryOut 38 = .ok (.iconst 0, 1) := by decide +kernel
theorem dX3_tryOut_39 : decode cX3_tryOut 39 = .ok (.iload_n 2, 1) := by decide +kernel
theorem dX3_tryOut_40 : decode cX3_tryOut 40 = .ok (.iastore, 1) := by decide +kernel
theorem dX3_tryOut_41 : decode cX3_tryOut 41 = .ok (.aload_n 0, 1) := by decide +kernel
theorem dX3_tryOut_42 : decode cX3_tryOut 42 = .ok (.getfield 44, 3) := by decide +kernel
theorem dX3_tryOut_45 : decode cX3_tryOut 45 = .ok (.iconst 1, 1) := by decide +kernel
theorem dX3_tryOut_46 : decode cX3_tryOut 46 = .ok (.iload_n 3, 1) := by decide +kernel
theorem dX3_tryOut_47 : decode cX3_tryOut 47 = .ok (.iastore, 1) := by decide +kernel
theorem dX3_tryOut_48 : decode cX3_tryOut 48 = .ok (.aload_n 0, 1) := by decide +kernel
theorem dX3_tryOut_49 : decode cX3_tryOut 49 = .ok (.getfield 44, 3) := by decide +kernel
theorem dX3_tryOut_52 : decode cX3_tryOut 52 = .ok (.iconst 2, 1) := by decide +kernel
theorem dX3_tryOut_53 : decode cX3_tryOut 53 = .ok (.iload 4, 2) := by decide +kernel
theorem dX3_tryOut_55 : decode cX3_tryOut 55 = .ok (.iastore, 1) := by decide +kernel
theorem dX3_tryOut_56 : decode cX3_tryOut 56 = .ok (.aload_n 0, 1) := by decide +kernel
theorem dX3_tryOut_57 : decode cX3_tryOut 57 = .ok (.iload_n 1, 1) := by decide +kernel
theorem dX3_tryOut_58 : decode cX3_tryOut 58 = .ok (.invokevirtual 179, 3) := by decide +kernel
theorem dX3_tryOut_61 : decode cX3_tryOut 61 = .ok (.iconst 1, 1) := by decide +kernel
theorem dX3_tryOut_62 : decode cX3_tryOut 62 = .ok (.ireturn, 1) := by decide +kernel
set_option maxRecDepth 20000 in
theorem ggX3_play_X0_copyFrom : GoodIn wsX3_play wsX0_copyFrom := goodIn_r _ [12, 13, 14, 15, 16, 17, 18, 19, 20, 73, 74, 75, 76, 77, 78, 79, 80] (by decide +kernel) (by decide +kernel)
set_option maxRecDepth 20000 in
theorem gX3_play_X0_copyFrom : GoodIn wsX3_play (wsV RX3 172 RX0 yX0_copyFrom wsX0_copyFrom) := goodIn_app (goodIn_of _ (by decide +kernel)) ggX3_play_X0_copyFrom
set_option maxRecDepth 20000 in
theorem ggX3_play_X3_beginYear : GoodIn wsX3_play wsX3_beginYear := goodIn_r _ [25, 1, 26, 27, 28, 29, 30, 31, 11, 32, 13, 65, 66, 67, 68, 69, 70, 71, 72, 73, 74, 75, 76, 77, 78, 79, 80] (by decide +kernel) (by decide +kernel)
set_option maxRecDepth 20000 in
theorem gX3_play_X3_beginYear : GoodIn wsX3_play (wsV RX3 182 RX3 yX3_beginYear wsX3_beginYear) := goodIn_app (goodIn_of _ (by decide +kernel)) ggX3_play_X3_beginYear
set_option maxRecDepth 20000 in
theorem ggX3_play_X0_blow : GoodIn wsX3_play wsX0_blow := goodIn_r _ [36, 13, 14, 15, 37, 38, 39, 40, 41, 42, 43, 19, 44, 45, 46, 11, 47, 16, 17, 73, 74, 75, 76, 77, 78, 79, 80] (by decide +kernel) (by decide +kernel)
set_option maxRecDepth 20000 in
theorem gX3_play_X0_blow : GoodIn wsX3_play (wsV RX3 71 RX0 yX0_blow wsX0_blow) := goodIn_app (goodIn_of _ (by decide +kernel)) ggX3_play_X0_blow
set_option maxRecDepth 20000 in
theorem ggX3_play_X0_surge : GoodIn wsX3_play wsX0_surge := goodIn_r _ [51, 13, 14, 15, 16, 20, 52, 53, 54, 11, 55, 18, 73, 74, 75, 76, 77, 78, 79, 80] (by decide +kernel) (by decide +kernel)
set_option maxRecDepth 20000 in
theorem gX3_play_X0_surge : GoodIn wsX3_play (wsV RX3 74 RX0 yX0_surge wsX0_surge) := goodIn_app (goodIn_of _ (by decide +kernel)) ggX3_play_X0_surge
set_option maxRecDepth 20000 in
theorem ggX3_play_X0_endYear : GoodIn wsX3_play wsX0_endYear := goodIn_r _ [59, 13, 15, 17, 60, 61, 11, 62, 41, 42, 39, 43, 63, 24, 64, 73, 74, 75, 76, 77, 78, 79, 80] (by decide +kernel) (by decide +kernel)
set_option maxRecDepth 20000 in
theorem gX3_play_X0_endYear : GoodIn wsX3_play (wsV RX3 77 RX0 yX0_endYear wsX0_endYear) := goodIn_app (goodIn_of _ (by decide +kernel)) ggX3_play_X0_endYear
theorem dX3_play_0 : decode cX3_play 0 = .ok (.aload_n 0, 1) := by decide +kernel
theorem dX3_play_1 : decode cX3_play 1 = .ok (.getfield 16, 3) := by decide +kernel
theorem dX3_play_4 : decode cX3_play 4 = .ok (.aload_n 0, 1) := by decide +kernel
theorem dX3_play_5 : decode cX3_play 5 = .ok (.getfield 10, 3) := by decide +kernel
theorem dX3_play_8 : decode cX3_play 8 = .ok (.invokevirtual 172, 3) := by decide +kernel
theorem dX3_play_11 : decode cX3_play 11 = .ok (.aload_n 0, 1) := by decide +kernel
theorem dX3_play_12 : decode cX3_play 12 = .ok (.getfield 16, 3) := by decide +kernel
theorem dX3_play_15 : decode cX3_play 15 = .ok (.iconst 0, 1) := by decide +kernel
theorem dX3_play_16 : decode cX3_play 16 = .ok (.putfield 105, 3) := by decide +kernel
theorem dX3_play_19 : decode cX3_play 19 = .ok (.iconst 0, 1) := by decide +kernel
theorem dX3_play_20 : decode cX3_play 20 = .ok (.istore_n 2, 1) := by decide +kernel
theorem dX3_play_21 : decode cX3_play 21 = .ok (.aload_n 0, 1) := by decide +kernel
theorem dX3_play_22 : decode cX3_play 22 = .ok (.iload_n 2, 1) := by decide +kernel
theorem dX3_play_23 : decode cX3_play 23 = .ok (.invokevirtual 182, 3) := by decide +kernel
theorem dX3_play_26 : decode cX3_play 26 = .ok (.iconst 0, 1) := by decide +kernel
theorem dX3_play_27 : decode cX3_play 27 = .ok (.istore_n 3, 1) := by decide +kernel
theorem dX3_play_28 : decode cX3_play 28 = .ok (.iload_n 3, 1) := by decide +kernel
theorem dX3_play_29 : decode cX3_play 29 = .ok (.aload_n 0, 1) := by decide +kernel
theorem dX3_play_30 : decode cX3_play 30 = .ok (.getfield 29, 3) := by decide +kernel
theorem dX3_play_33 : decode cX3_play 33 = .ok (.getfield 91, 3) := by decide +kernel
theorem dX3_play_36 : decode cX3_play 36 = .ok (.iload_n 1, 1) := by decide +kernel
theorem dX3_play_37 : decode cX3_play 37 = .ok (.iaload, 1) := by decide +kernel
theorem dX3_play_38 : decode cX3_play 38 = .ok (.if_icmp .ge 102, 3) := by decide +kernel
theorem dX3_play_41 : decode cX3_play 41 = .ok (.aload_n 0, 1) := by decide +kernel
theorem dX3_play_42 : decode cX3_play 42 = .ok (.getfield 29, 3) := by decide +kernel
theorem dX3_play_45 : decode cX3_play 45 = .ok (.getfield 185, 3) := by decide +kernel
theorem dX3_play_48 : decode cX3_play 48 = .ok (.iload_n 1, 1) := by decide +kernel
theorem dX3_play_49 : decode cX3_play 49 = .ok (.aaload, 1) := by decide +kernel
theorem dX3_play_50 : decode cX3_play 50 = .ok (.iload_n 3, 1) := by decide +kernel
theorem dX3_play_51 : decode cX3_play 51 = .ok (.iaload, 1) := by decide +kernel
theorem dX3_play_52 : decode cX3_play 52 = .ok (.istore 4, 2) := by decide +kernel
theorem dX3_play_54 : decode cX3_play 54 = .ok (.aload_n 0, 1) := by decide +kernel
theorem dX3_play_55 : decode cX3_play 55 = .ok (.getfield 29, 3) := by decide +kernel
theorem dX3_play_58 : decode cX3_play 58 = .ok (.getfield 189, 3) := by decide +kernel
theorem dX3_play_61 : decode cX3_play 61 = .ok (.iload_n 1, 1) := by decide +kernel
theorem dX3_play_62 : decode cX3_play 62 = .ok (.aaload, 1) := by decide +kernel
theorem dX3_play_63 : decode cX3_play 63 = .ok (.iload_n 3, 1) := by decide +kernel
theorem dX3_play_64 : decode cX3_play 64 = .ok (.iaload, 1) := by decide +kernel
theorem dX3_play_65 : decode cX3_play 65 = .ok (.lookupswitch 53 #[(0, 27), (1, 40)], 27) := by decide +kernel
theorem dX3_play_92 : decode cX3_play 92 = .ok (.aload_n 0, 1) := by decide +kernel
theorem dX3_play_93 : decode cX3_play 93 = .ok (.getfield 16, 3) := by decide +kernel
theorem dX3_play_96 : decode cX3_play 96 = .ok (.iload 4, 2) := by decide +kernel
theorem dX3_play_98 : decode cX3_play 98 = .ok (.invokevirtual 71, 3) := by decide +kernel
theorem dX3_play_101 : decode cX3_play 101 = .ok (.pop, 1) := by decide +kernel
theorem dX3_play_102 : decode cX3_play 102 = .ok (.goto 32, 3) := by decide +kernel
theorem dX3_play_105 : decode cX3_play 105 = .ok (.aload_n 0, 1) := by decide +kernel
theorem dX3_play_106 : decode cX3_play 106 = .ok (.getfield 16, 3) := by decide +kernel
theorem dX3_play_109 : decode cX3_play 109 = .ok (.iload 4, 2) := by decide +kernel
theorem dX3_play_111 : decode cX3_play 111 = .ok (.invokevirtual 74, 3) := by decide +kernel
theorem dX3_play_114 : decode cX3_play 114 = .ok (.pop, 1) := by decide +kernel
theorem dX3_play_115 : decode cX3_play 115 = .ok (.goto 19, 3) := by decide +kernel
theorem dX3_play_118 : decode cX3_play 118 = .ok (.aload_n 0, 1) := by decide +kernel
theorem dX3_play_119 : decode cX3_play 119 = .ok (.getfield 16, 3) := by decide +kernel
theorem dX3_play_122 : decode cX3_play 122 = .ok (.invokevirtual 77, 3) := by decide +kernel
theorem dX3_play_125 : decode cX3_play 125 = .ok (.pop, 1) := by decide +kernel
theorem dX3_play_126 : decode cX3_play 126 = .ok (.iinc 2 1, 3) := by decide +kernel
theorem dX3_play_129 : decode cX3_play 129 = .ok (.aload_n 0, 1) := by decide +kernel
theorem dX3_play_130 : decode cX3_play 130 = .ok (.iload_n 2, 1) := by decide +kernel
theorem dX3_play_131 : decode cX3_play 131 = .ok (.invokevirtual 182, 3) := by decide +kernel
theorem dX3_play_134 : decode cX3_play 134 = .ok (.iinc 3 1, 3) := by decide +kernel
theorem dX3_play_137 : decode cX3_play 137 = .ok (.goto (-109), 3) := by decide +kernel
theorem dX3_play_140 : decode cX3_play 140 = .ok (.return_, 1) := by decide +kernel
set_option maxRecDepth 20000 in
theorem ggX3_beginYear_X0_has : GoodIn wsX3_beginYear wsX0_has := goodIn_r _ [9, 10, 19, 20, 21, 22, 23, 24, 25, 26] (by decide +kernel) (by decide +kernel)
set_option maxRecDepth 20000 in
theorem gX3_beginYear_X0_has : GoodIn wsX3_beginYear (wsV RX3 59 RX0 yX0_has wsX0_has) := goodIn_app (goodIn_of _ (by decide +kernel)) ggX3_beginYear_X0_has
theorem dX3_beginYear_0 : decode cX3_beginYear 0 = .ok (.iload_n 1, 1) := by decide +kernel
theorem dX3_beginYear_1 : decode cX3_beginYear 1 = .ok (.iconst 3, 1) := by decide +kernel
theorem dX3_beginYear_2 : decode cX3_beginYear 2 = .ok (.if_icmp .ge 37, 3) := by decide +kernel
theorem dX3_beginYear_5 : decode cX3_beginYear 5 = .ok (.aload_n 0, 1) := by decide +kernel
theorem dX3_beginYear_6 : decode cX3_beginYear 6 = .ok (.getfield 16, 3) := by decide +kernel
theorem dX3_beginYear_9 : decode cX3_beginYear 9 = .ok (.aload_n 0, 1) := by decide +kernel
theorem dX3_beginYear_10 : decode cX3_beginYear 10 = .ok (.getfield 44, 3) := by decide +kernel
theorem dX3_beginYear_13 : decode cX3_beginYear 13 = .ok (.iload_n 1, 1) := by decide +kernel
theorem dX3_beginYear_14 : decode cX3_beginYear 14 = .ok (.iaload, 1) := by decide +kernel
theorem dX3_beginYear_15 : decode cX3_beginYear 15 = .ok (.invokevirtual 59, 3) := by decide +kernel
theorem dX3_beginYear_18 : decode cX3_beginYear 18 = .ok (.ifCond .eq 21, 3) := by decide +kernel
theorem dX3_beginYear_21 : decode cX3_beginYear 21 = .ok (.aload_n 0, 1) := by decide +kernel
theorem dX3_beginYear_22 : decode cX3_beginYear 22 = .ok (.getfield 16, 3) := by decide +kernel
theorem dX3_beginYear_25 : decode cX3_beginYear 25 = .ok (.getfield 192, 3) := by decide +kernel
theorem dX3_beginYear_28 : decode cX3_beginYear 28 = .ok (.aload_n 0, 1) := by decide +kernel
theorem dX3_beginYear_29 : decode cX3_beginYear 29 = .ok (.getfield 44, 3) := by decide +kernel
theorem dX3_beginYear_32 : decode cX3_beginYear 32 = .ok (.iload_n 1, 1) := by decide +kernel
theorem dX3_beginYear_33 : decode cX3_beginYear 33 = .ok (.iaload, 1) := by decide +kernel
theorem dX3_beginYear_34 : decode cX3_beginYear 34 = .ok (.aload_n 0, 1) := by decide +kernel
theorem dX3_beginYear_35 : decode cX3_beginYear 35 = .ok (.getfield 40, 3) := by decide +kernel
theorem dX3_beginYear_38 : decode cX3_beginYear 38 = .ok (.iastore, 1) := by decide +kernel
theorem dX3_beginYear_39 : decode cX3_beginYear 39 = .ok (.return_, 1) := by decide +kernel
set_option maxRecDepth 20000 in
theorem ggX3_findPlan_X2_lastYear : GoodIn wsX3_findPlan wsX2_lastYear := goodIn_r _ [6, 7, 8, 9, 10, 11, 12, 13, 5, 14, 15, 16, 106, 107, 108] (by decide +kernel) (by decide +kernel)
set_option maxRecDepth 20000 in
theorem gX3_findPlan_X2_lastYear : GoodIn wsX3_findPlan (wsV RX3 121 RX2 yX2_lastYear wsX2_lastYear) := goodIn_app (goodIn_of _ (by decide +kernel)) ggX3_findPlan_X2_lastYear
set_option maxRecDepth 20000 in
theorem ggX3_findPlan_X3_choosePlan : GoodIn wsX3_findPlan wsX3_choosePlan := goodIn_r _ [21, 22, 23, 24, 25, 26, 27, 28, 29, 98, 99, 100, 101, 102, 103, 104, 105, 109, 110, 111, 112, 113, 114, 115, 116] (by decide +kernel) (by decide +kernel)
set_option maxRecDepth 20000 in
theorem gX3_findPlan_X3_choosePlan : GoodIn wsX3_findPlan (wsV RX3 124 RX3 yX3_choosePlan wsX3_choosePlan) := goodIn_app (goodIn_of _ (by decide +kernel)) ggX3_findPlan_X3_choosePlan
set_option maxRecDepth 20000 in
theorem ggX3_findPlan_X3_plannedFences : GoodIn wsX3_findPlan wsX3_plannedFences := goodIn_r _ [33, 22, 98, 99, 100, 101, 102, 103, 104, 105] (by decide +kernel) (by decide +kernel)
set_option maxRecDepth 20000 in
theorem gX3_findPlan_X3_plannedFences : GoodIn wsX3_findPlan (wsV RX3 114 RX3 yX3_plannedFences wsX3_plannedFences) := goodIn_app (goodIn_of _ (by decide +kernel)) ggX3_findPlan_X3_plannedFences
set_option maxRecDepth 20000 in
theorem ggX3_findPlan_X3_worstCrest : GoodIn wsX3_findPlan wsX3_worstCrest := goodIn_r _ [37, 1, 38, 39, 40, 41, 9, 42, 43, 44, 45, 46, 20, 47, 23, 48, 49, 50, 51, 52, 27, 53, 29, 54, 55, 56, 57, 58, 59, 60, 61, 62, 63, 64, 22, 65, 66, 24, 25, 26, 28, 67, 68, 69, 70, 71, 8, 10, 72, 73, 74, 75, 76, 77, 78, 79, 80, 81, 82, 83, 84, 85, 86, 87, 88, 89, 90, 91, 92, 93, 94, 95, 96, 97, 98, 99, 100, 101, 102, 103, 104, 105, 106, 107, 108, 109, 110, 111, 112, 113, 114, 115, 116] (by decide +kernel) (by decide +kernel)
set_option maxRecDepth 20000 in
theorem gX3_findPlan_X3_worstCrest : GoodIn wsX3_findPlan (wsV RX3 127 RX3 yX3_worstCrest wsX3_worstCrest) := goodIn_app (goodIn_of _ (by decide +kernel)) ggX3_findPlan_X3_worstCrest
theorem dX3_findPlan_0 : decode cX3_findPlan 0 = .ok (.aload_n 0, 1) := by decide +kernel
theorem dX3_findPlan_1 : decode cX3_findPlan 1 = .ok (.getfield 29, 3) := by decide +kernel
theorem dX3_findPlan_4 : decode cX3_findPlan 4 = .ok (.invokevirtual 121, 3) := by decide +kernel
theorem dX3_findPlan_7 : decode cX3_findPlan 7 = .ok (.istore_n 2, 1) := by decide +kernel
theorem dX3_findPlan_8 : decode cX3_findPlan 8 = .ok (.iconst 0, 1) := by decide +kernel
theorem dX3_findPlan_9 : decode cX3_findPlan 9 = .ok (.istore_n 3, 1) := by decide +kernel
theorem dX3_findPlan_10 : decode cX3_findPlan 10 = .ok (.iload_n 3, 1) := by decide +kernel
theorem dX3_findPlan_11 : decode cX3_findPlan 11 = .ok (.iconst 3, 1) := by decide +kernel
theorem dX3_findPlan_12 : decode cX3_findPlan 12 = .ok (.if_icmp .gt 55, 3) := by decide +kernel
theorem dX3_findPlan_15 : decode cX3_findPlan 15 = .ok (.iconst 0, 1) := by decide +kernel
theorem dX3_findPlan_16 : decode cX3_findPlan 16 = .ok (.istore 4, 2) := by decide +kernel
theorem dX3_findPlan_18 : decode cX3_findPlan 18 = .ok (.iload 4, 2) := by decide +kernel
theorem dX3_findPlan_20 : decode cX3_findPlan 20 = .ok (.sipush 512, 3) := by decide +kernel
theorem dX3_findPlan_23 : decode cX3_findPlan 23 = .ok (.if_icmp .ge 38, 3) := by decide +kernel
theorem dX3_findPlan_26 : decode cX3_findPlan 26 = .ok (.aload_n 0, 1) := by decide +kernel
theorem dX3_findPlan_27 : decode cX3_findPlan 27 = .ok (.iload 4, 2) := by decide +kernel
theorem dX3_findPlan_29 : decode cX3_findPlan 29 = .ok (.iload_n 2, 1) := by decide +kernel
theorem dX3_findPlan_30 : decode cX3_findPlan 30 = .ok (.invokevirtual 124, 3) := by decide +kernel
theorem dX3_findPlan_33 : decode cX3_findPlan 33 = .ok (.ifCond .eq 22, 3) := by decide +kernel
theorem dX3_findPlan_36 : decode cX3_findPlan 36 = .ok (.aload_n 0, 1) := by decide +kernel
theorem dX3_findPlan_37 : decode cX3_findPlan 37 = .ok (.invokevirtual 114, 3) := by decide +kernel
theorem dX3_findPlan_40 : decode cX3_findPlan 40 = .ok (.iload_n 3, 1) := by decide +kernel
theorem dX3_findPlan_41 : decode cX3_findPlan 41 = .ok (.if_icmp .ne 14, 3) := by decide +kernel
theorem dX3_findPlan_44 : decode cX3_findPlan 44 = .ok (.aload_n 0, 1) := by decide +kernel
theorem dX3_findPlan_45 : decode cX3_findPlan 45 = .ok (.iload_n 1, 1) := by decide +kernel
theorem dX3_findPlan_46 : decode cX3_findPlan 46 = .ok (.invokevirtual 127, 3) := by decide +kernel
theorem dX3_findPlan_49 : decode cX3_findPlan 49 = .ok (.iload_n 1, 1) := by decide +kernel
theorem dX3_findPlan_50 : decode cX3_findPlan 50 = .ok (.if_icmp .lt 5, 3) := by decide +kernel
theorem dX3_findPlan_53 : decode cX3_findPlan 53 = .ok (.iconst 1, 1) := by decide +kernel
theorem dX3_findPlan_54 : decode cX3_findPlan 54 = .ok (.ireturn, 1) := by decide +kernel
theorem dX3_findPlan_55 : decode cX3_findPlan 55 = .ok (.iinc 4 1, 3) := by decide +kernel
theorem dX3_findPlan_58 : decode cX3_findPlan 58 = .ok (.goto (-40), 3) := by decide +kernel
theorem dX3_findPlan_61 : decode cX3_findPlan 61 = .ok (.iinc 3 1, 3) := by decide +kernel
theorem dX3_findPlan_64 : decode cX3_findPlan 64 = .ok (.goto (-54), 3) := by decide +kernel
theorem dX3_findPlan_67 : decode cX3_findPlan 67 = .ok (.iconst 0, 1) := by decide +kernel
theorem dX3_findPlan_68 : decode cX3_findPlan 68 = .ok (.ireturn, 1) := by decide +kernel
set_option maxRecDepth 20000 in
theorem ggX3_choosePlan_X0_has : GoodIn wsX3_choosePlan wsX0_has := goodIn_r _ [7, 8, 17, 18, 19, 20, 21, 22, 23, 24] (by decide +kernel) (by decide +kernel)
set_option maxRecDepth 20000 in
theorem gX3_choosePlan_X0_has : GoodIn wsX3_choosePlan (wsV RX3 59 RX0 yX0_has wsX0_has) := goodIn_app (goodIn_of _ (by decide +kernel)) ggX3_choosePlan_X0_has
theorem dX3_choosePlan_0 : decode cX3_choosePlan 0 = .ok (.iconst 0, 1) := by decide +kernel
theorem dX3_choosePlan_1 : decode cX3_choosePlan 1 = .ok (.istore_n 3, 1) := by decide +kernel
theorem dX3_choosePlan_2 : decode cX3_choosePlan 2 = .ok (.iload_n 3, 1) := by decide +kernel
theorem dX3_choosePlan_3 : decode cX3_choosePlan 3 = .ok (.iconst 3, 1) := by decide +kernel
theorem dX3_choosePlan_4 : decode cX3_choosePlan 4 = .ok (.if_icmp .ge 68, 3) := by decide +kernel
theorem dX3_choosePlan_7 : decode cX3_choosePlan 7 = .ok (.iload_n 1, 1) := by decide +kernel
theorem dX3_choosePlan_8 : decode cX3_choosePlan 8 = .ok (.iconst 3, 1) := by decide +kernel
theorem dX3_choosePlan_9 : decode cX3_choosePlan 9 = .ok (.iconst 2, 1) := by decide +kernel
theorem dX3_choosePlan_10 : decode cX3_choosePlan 10 = .ok (.iload_n 3, 1) := by decide +kernel
theorem dX3_choosePlan_11 : decode cX3_choosePlan 11 = .ok (.isub, 1) := by decide +kernel
theorem dX3_choosePlan_12 : decode cX3_choosePlan 12 = .ok (.imul, 1) := by decide +kernel
theorem dX3_choosePlan_13 : decode cX3_choosePlan 13 = .ok (.ishr, 1) := by decide +kernel
theorem dX3_choosePlan_14 : decode cX3_choosePlan 14 = .ok (.bipush 7, 2) := by decide +kernel
theorem dX3_choosePlan_16 : decode cX3_choosePlan 16 = .ok (.iand, 1) := by decide +kernel
theorem dX3_choosePlan_17 : decode cX3_choosePlan 17 = .ok (.istore 4, 2) := by decide +kernel
theorem dX3_choosePlan_19 : decode cX3_choosePlan 19 = .ok (.iload 4, 2) := by decide +kernel
theorem dX3_choosePlan_21 : decode cX3_choosePlan 21 = .ok (.bipush 7, 2) := by decide +kernel
theorem dX3_choosePlan_23 : decode cX3_choosePlan 23 = .ok (.if_icmp .ne 13, 3) := by decide +kernel
theorem dX3_choosePlan_26 : decode cX3_choosePlan 26 = .ok (.aload_n 0, 1) := by decide +kernel
theorem dX3_choosePlan_27 : decode cX3_choosePlan 27 = .ok (.getfield 44, 3) := by decide +kernel
theorem dX3_choosePlan_30 : decode cX3_choosePlan 30 = .ok (.iload_n 3, 1) := by decide +kernel
theorem dX3_choosePlan_31 : decode cX3_choosePlan 31 = .ok (.iconst (-1), 1) := by decide +kernel
theorem dX3_choosePlan_32 : decode cX3_choosePlan 32 = .ok (.iastore, 1) := by decide +kernel
theorem dX3_choosePlan_33 : decode cX3_choosePlan 33 = .ok (.goto 33, 3) := by decide +kernel
theorem dX3_choosePlan_36 : decode cX3_choosePlan 36 = .ok (.aload_n 0, 1) := by decide +kernel
theorem dX3_choosePlan_37 : decode cX3_choosePlan 37 = .ok (.getfield 10, 3) := by decide +kernel
theorem dX3_choosePlan_40 : decode cX3_choosePlan 40 = .ok (.iload 4, 2) := by decide +kernel
theorem dX3_choosePlan_42 : decode cX3_choosePlan 42 = .ok (.invokevirtual 59, 3) := by decide +kernel
theorem dX3_choosePlan_45 : decode cX3_choosePlan 45 = .ok (.ifCond .eq 19, 3) := by decide +kernel
theorem dX3_choosePlan_48 : decode cX3_choosePlan 48 = .ok (.iload_n 3, 1) := by decide +kernel
theorem dX3_choosePlan_49 : decode cX3_choosePlan 49 = .ok (.iload_n 2, 1) := by decide +kernel
theorem dX3_choosePlan_50 : decode cX3_choosePlan 50 = .ok (.if_icmp .gt 14, 3) := by decide +kernel
theorem dX3_choosePlan_53 : decode cX3_choosePlan 53 = .ok (.aload_n 0, 1) := by decide +kernel
theorem dX3_choosePlan_54 : decode cX3_choosePlan 54 = .ok (.getfield 44, 3) := by decide +kernel
theorem dX3_choosePlan_57 : decode cX3_choosePlan 57 = .ok (.iload_n 3, 1) := by decide +kernel
theorem dX3_choosePlan_58 : decode cX3_choosePlan 58 = .ok (.iload 4, 2) := by decide +kernel
theorem dX3_choosePlan_60 : decode cX3_choosePlan 60 = .ok (.iastore, 1) := by decide +kernel
theorem dX3_choosePlan_61 : decode cX3_choosePlan 61 = .ok (.goto 5, 3) := by decide +kernel
theorem dX3_choosePlan_64 : decode cX3_choosePlan 64 = .ok (.iconst 0, 1) := by decide +kernel
theorem dX3_choosePlan_65 : decode cX3_choosePlan 65 = .ok (.ireturn, 1) := by decide +kernel
theorem dX3_choosePlan_66 : decode cX3_choosePlan 66 = .ok (.iinc 3 1, 3) := by decide +kernel
theorem dX3_choosePlan_69 : decode cX3_choosePlan 69 = .ok (.goto (-67), 3) := by decide +kernel
theorem dX3_choosePlan_72 : decode cX3_choosePlan 72 = .ok (.iconst 1, 1) := by decide +kernel
theorem dX3_choosePlan_73 : decode cX3_choosePlan 73 = .ok (.ireturn, 1) := by decide +kernel
theorem dX3_plannedFences_0 : decode cX3_plannedFences 0 = .ok (.iconst 0, 1) := by decide +kernel
theorem dX3_plannedFences_1 : decode cX3_plannedFences 1 = .ok (.istore_n 1, 1) := by decide +kernel
theorem dX3_plannedFences_2 : decode cX3_plannedFences 2 = .ok (.iconst 0, 1) := by decide +kernel
theorem dX3_plannedFences_3 : decode cX3_plannedFences 3 = .ok (.istore_n 2, 1) := by decide +kernel
theorem dX3_plannedFences_4 : decode cX3_plannedFences 4 = .ok (.iload_n 2, 1) := by decide +kernel
theorem dX3_plannedFences_5 : decode cX3_plannedFences 5 = .ok (.iconst 3, 1) := by decide +kernel
theorem dX3_plannedFences_6 : decode cX3_plannedFences 6 = .ok (.if_icmp .ge 22, 3) := by decide +kernel
theorem dX3_plannedFences_9 : decode cX3_plannedFences 9 = .ok (.aload_n 0, 1) := by decide +kernel
theorem dX3_plannedFences_10 : decode cX3_plannedFences 10 = .ok (.getfield 44, 3) := by decide +kernel
theorem dX3_plannedFences_13 : decode cX3_plannedFences 13 = .ok (.iload_n 2, 1) := by decide +kernel
theorem dX3_plannedFences_14 : decode cX3_plannedFences 14 = .ok (.iaload, 1) := by decide +kernel
theorem dX3_plannedFences_15 : decode cX3_plannedFences 15 = .ok (.iconst (-1), 1) := by decide +kernel
theorem dX3_plannedFences_16 : decode cX3_plannedFences 16 = .ok (.if_icmp .eq 6, 3) := by decide +kernel
theorem dX3_plannedFences_19 : decode cX3_plannedFences 19 = .ok (.iinc 1 1, 3) := by decide +kernel
theorem dX3_plannedFences_22 : decode cX3_plannedFences 22 = .ok (.iinc 2 1, 3) := by decide +kernel
theorem dX3_plannedFences_25 : decode cX3_plannedFences 25 = .ok (.goto (-21), 3) := by decide +kernel
theorem dX3_plannedFences_28 : decode cX3_plannedFences 28 = .ok (.iload_n 1, 1) := by decide +kernel
theorem dX3_plannedFences_29 : decode cX3_plannedFences 29 = .ok (.ireturn, 1) := by decide +kernel
set_option maxRecDepth 20000 in
theorem ggX3_worstCrest_X3_play : GoodIn wsX3_worstCrest wsX3_play := goodIn_r _ [13, 3, 14, 8, 1, 2, 15, 16, 17, 18, 19, 20, 21, 22, 23, 24, 25, 26, 27, 28, 29, 30, 31, 32, 12, 33, 34, 35, 36, 37, 38, 39, 40, 41, 42, 43, 44, 45, 46, 6, 47, 48, 5, 7, 49, 50, 51, 52, 53, 54, 55, 56, 57, 58, 59, 60, 61, 62, 63, 64, 65, 66, 67, 68, 69, 74, 75, 76, 77, 78, 79, 80, 81, 85, 86, 87, 88, 89, 90, 91, 92, 82, 83, 84] (by decide +kernel) (by decide +kernel)
set_option maxRecDepth 20000 in
theorem gX3_worstCrest_X3_play : GoodIn wsX3_worstCrest (wsV RX3 179 RX3 yX3_play wsX3_play) := goodIn_app (goodIn_of _ (by decide +kernel)) ggX3_worstCrest_X3_play
set_option maxRecDepth 20000 in
theorem ggX3_worstCrest_X0_greatestHeight : GoodIn wsX3_worstCrest wsX0_greatestHeight := goodIn_r _ [73, 22, 23, 45, 46, 6, 47, 85, 86, 87, 88, 89, 90, 91, 92] (by decide +kernel) (by decide +kernel)
set_option maxRecDepth 20000 in
theorem gX3_worstCrest_X0_greatestHeight : GoodIn wsX3_worstCrest (wsV RX3 102 RX0 yX0_greatestHeight wsX0_greatestHeight) := goodIn_app (goodIn_of _ (by decide +kernel)) ggX3_worstCrest_X0_greatestHeight
theorem dX3_worstCrest_0 : decode cX3_worstCrest 0 = .ok (.bipush 99, 2) := by decide +kernel
theorem dX3_worstCrest_2 : decode cX3_worstCrest 2 = .ok (.istore_n 2, 1) := by decide +kernel
theorem dX3_worstCrest_3 : decode cX3_worstCrest 3 = .ok (.iconst 0, 1) := by decide +kernel
theorem dX3_worstCrest_4 : decode cX3_worstCrest 4 = .ok (.istore_n 3, 1) := by decide +kernel
theorem dX3_worstCrest_5 : decode cX3_worstCrest 5 = .ok (.iload_n 3, 1) := by decide +kernel
theorem dX3_worstCrest_6 : decode cX3_worstCrest 6 = .ok (.iconst 3, 1) := by decide +kernel
theorem dX3_worstCrest_7 : decode cX3_worstCrest 7 = .ok (.if_icmp .ge 55, 3) := by decide +kernel
theorem dX3_worstCrest_10 : decode cX3_worstCrest 10 = .ok (.aload_n 0, 1) := by decide +kernel
theorem dX3_worstCrest_11 : decode cX3_worstCrest 11 = .ok (.getfield 29, 3) := by decide +kernel
theorem dX3_worstCrest_14 : decode cX3_worstCrest 14 = .ok (.getfield 91, 3) := by decide +kernel
theorem dX3_worstCrest_17 : decode cX3_worstCrest 17 = .ok (.iload_n 3, 1) := by decide +kernel
theorem dX3_worstCrest_18 : decode cX3_worstCrest 18 = .ok (.iaload, 1) := by decide +kernel
theorem dX3_worstCrest_19 : decode cX3_worstCrest 19 = .ok (.ifCond .le 37, 3) := by decide +kernel
theorem dX3_worstCrest_22 : decode cX3_worstCrest 22 = .ok (.aload_n 0, 1) := by decide +kernel
theorem dX3_worstCrest_23 : decode cX3_worstCrest 23 = .ok (.iload_n 3, 1) := by decide +kernel
theorem dX3_worstCrest_24 : decode cX3_worstCrest 24 = .ok (.invokevirtual 179, 3) := by decide +kernel
theorem dX3_worstCrest_27 : decode cX3_worstCrest 27 = .ok (.iload_n 2, 1) := by decide +kernel
theorem dX3_worstCrest_28 : decode cX3_worstCrest 28 = .ok (.aload_n 0, 1) := by decide +kernel
theorem dX3_worstCrest_29 : decode cX3_worstCrest 29 = .ok (.getfield 16, 3) := by decide +kernel
theorem dX3_worstCrest_32 : decode cX3_worstCrest 32 = .ok (.invokevirtual 102, 3) := by decide +kernel
theorem dX3_worstCrest_35 : decode cX3_worstCrest 35 = .ok (.invokestatic 195, 3) := by decide +kernel
theorem dX3_worstCrest_38 : decode cX3_worstCrest 38 = .ok (.istore_n 2, 1) := by decide +kernel
theorem dX3_worstCrest_39 : decode cX3_worstCrest 39 = .ok (.aload_n 0, 1) := by decide +kernel
theorem dX3_worstCrest_40 : decode cX3_worstCrest 40 = .ok (.getfield 16, 3) := by decide +kernel
theorem dX3_worstCrest_43 : decode cX3_worstCrest 43 = .ok (.getfield 105, 3) := by decide +kernel
theorem dX3_worstCrest_46 : decode cX3_worstCrest 46 = .ok (.ifCond .gt 8, 3) := by decide +kernel
theorem dX3_worstCrest_49 : decode cX3_worstCrest 49 = .ok (.iload_n 2, 1) := by decide +kernel
theorem dX3_worstCrest_50 : decode cX3_worstCrest 50 = .ok (.iload_n 1, 1) := by decide +kernel
theorem dX3_worstCrest_51 : decode cX3_worstCrest 51 = .ok (.if_icmp .ge 5, 3) := by decide +kernel
theorem dX3_worstCrest_54 : decode cX3_worstCrest 54 = .ok (.iconst (-1), 1) := by decide +kernel
theorem dX3_worstCrest_55 : decode cX3_worstCrest 55 = .ok (.ireturn, 1) := by decide +kernel
theorem dX3_worstCrest_56 : decode cX3_worstCrest 56 = .ok (.iinc 3 1, 3) := by decide +kernel
theorem dX3_worstCrest_59 : decode cX3_worstCrest 59 = .ok (.goto (-54), 3) := by decide +kernel
theorem dX3_worstCrest_62 : decode cX3_worstCrest 62 = .ok (.iload_n 2, 1) := by decide +kernel
theorem dX3_worstCrest_63 : decode cX3_worstCrest 63 = .ok (.ireturn, 1) := by decide +kernel
theorem dX3_cleared_0 : decode cX3_cleared 0 = .ok (.bipush 60, 2) := by decide +kernel
theorem dX3_cleared_2 : decode cX3_cleared 2 = .ok (.istore_n 2, 1) := by decide +kernel
theorem dX3_cleared_3 : decode cX3_cleared 3 = .ok (.iload_n 2, 1) := by decide +kernel
theorem dX3_cleared_4 : decode cX3_cleared 4 = .ok (.iconst 1, 1) := by decide +kernel
theorem dX3_cleared_5 : decode cX3_cleared 5 = .ok (.if_icmp .le 37, 3) := by decide +kernel
theorem dX3_cleared_8 : decode cX3_cleared 8 = .ok (.bipush 60, 2) := by decide +kernel
theorem dX3_cleared_10 : decode cX3_cleared 10 = .ok (.iload_n 2, 1) := by decide +kernel
theorem dX3_cleared_11 : decode cX3_cleared 11 = .ok (.irem, 1) := by decide +kernel
theorem dX3_cleared_12 : decode cX3_cleared 12 = .ok (.ifCond .ne 24, 3) := by decide +kernel
theorem dX3_cleared_15 : decode cX3_cleared 15 = .ok (.iload_n 0, 1) := by decide +kernel
theorem dX3_cleared_16 : decode cX3_cleared 16 = .ok (.iload_n 2, 1) := by decide +kernel
theorem dX3_cleared_17 : decode cX3_cleared 17 = .ok (.irem, 1) := by decide +kernel
theorem dX3_cleared_18 : decode cX3_cleared 18 = .ok (.ifCond .ne 18, 3) := by decide +kernel
theorem dX3_cleared_21 : decode cX3_cleared 21 = .ok (.iload_n 1, 1) := by decide +kernel
theorem dX3_cleared_22 : decode cX3_cleared 22 = .ok (.ifCond .ne 9, 3) := by decide +kernel
theorem dX3_cleared_25 : decode cX3_cleared 25 = .ok (.iload_n 0, 1) := by decide +kernel
theorem dX3_cleared_26 : decode cX3_cleared 26 = .ok (.iload_n 2, 1) := by decide +kernel
theorem dX3_cleared_27 : decode cX3_cleared 27 = .ok (.idiv, 1) := by decide +kernel
theorem dX3_cleared_28 : decode cX3_cleared 28 = .ok (.goto 7, 3) := by decide +kernel
theorem dX3_cleared_31 : decode cX3_cleared 31 = .ok (.bipush 60, 2) := by decide +kernel
theorem dX3_cleared_33 : decode cX3_cleared 33 = .ok (.iload_n 2, 1) := by decide +kernel
theorem dX3_cleared_34 : decode cX3_cleared 34 = .ok (.idiv, 1) := by decide +kernel
theorem dX3_cleared_35 : decode cX3_cleared 35 = .ok (.ireturn, 1) := by decide +kernel
theorem dX3_cleared_36 : decode cX3_cleared 36 = .ok (.iinc 2 (-1), 3) := by decide +kernel
theorem dX3_cleared_39 : decode cX3_cleared 39 = .ok (.goto (-36), 3) := by decide +kernel
theorem dX3_cleared_42 : decode cX3_cleared 42 = .ok (.iload_n 1, 1) := by decide +kernel
theorem dX3_cleared_43 : decode cX3_cleared 43 = .ok (.ifCond .ne 7, 3) := by decide +kernel
theorem dX3_cleared_46 : decode cX3_cleared 46 = .ok (.iload_n 0, 1) := by decide +kernel
theorem dX3_cleared_47 : decode cX3_cleared 47 = .ok (.goto 5, 3) := by decide +kernel
theorem dX3_cleared_50 : decode cX3_cleared 50 = .ok (.bipush 60, 2) := by decide +kernel
theorem dX3_cleared_52 : decode cX3_cleared 52 = .ok (.ireturn, 1) := by decide +kernel
