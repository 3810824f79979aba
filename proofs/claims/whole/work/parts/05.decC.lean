set_option maxRecDepth 20000 in
theorem ggX4_init_X4_begin : GoodIn wsX4_init wsX4_begin := goodIn_r _ [24, 4, 7, 8, 9, 10, 17, 11, 12, 13, 25, 26, 27, 28, 29, 30, 31, 32, 33, 34, 35, 36, 37, 38, 39, 40] (by decide +kernel) (by decide +kernel)
set_option maxRecDepth 20000 in
theorem gX4_init_X4_begin : GoodIn wsX4_init (wsV RX4 56 RX4 yX4_begin wsX4_begin) := goodIn_app (goodIn_of _ (by decide +kernel)) ggX4_init_X4_begin
theorem dX4_init_0 : decode cX4_init 0 = .ok (.aload_n 0, 1) := by decide +kernel
theorem dX4_init_1 : decode cX4_init 1 = .ok (.invokespecial 1, 3) := by decide +kernel
theorem dX4_init_4 : decode cX4_init 4 = .ok (.aload_n 0, 1) := by decide +kernel
theorem dX4_init_5 : decode cX4_init 5 = .ok (.iconst 5, 1) := by decide +kernel
theorem dX4_init_6 : decode cX4_init 6 = .ok (.putfield 7, 3) := by decide +kernel
theorem dX4_init_9 : decode cX4_init 9 = .ok (.aload_n 0, 1) := by decide +kernel
theorem dX4_init_10 : decode cX4_init 10 = .ok (.bipush 10, 2) := by decide +kernel
theorem dX4_init_12 : decode cX4_init 12 = .ok (.putfield 13, 3) := by decide +kernel
theorem dX4_init_15 : decode cX4_init 15 = .ok (.aload_n 0, 1) := by decide +kernel
theorem dX4_init_16 : decode cX4_init 16 = .ok (.bipush 21, 2) := by decide +kernel
theorem dX4_init_18 : decode cX4_init 18 = .ok (.newarray .int, 2) := by decide +kernel
theorem dX4_init_20 : decode cX4_init 20 = .ok (.putfield 16, 3) := by decide +kernel
theorem dX4_init_23 : decode cX4_init 23 = .ok (.aload_n 0, 1) := by decide +kernel
theorem dX4_init_24 : decode cX4_init 24 = .ok (.bipush 21, 2) := by decide +kernel
theorem dX4_init_26 : decode cX4_init 26 = .ok (.newarray .int, 2) := by decide +kernel
theorem dX4_init_28 : decode cX4_init 28 = .ok (.putfield 20, 3) := by decide +kernel
theorem dX4_init_31 : decode cX4_init 31 = .ok (.aload_n 0, 1) := by decide +kernel
theorem dX4_init_32 : decode cX4_init 32 = .ok (.bipush 21, 2) := by decide +kernel
theorem dX4_init_34 : decode cX4_init 34 = .ok (.newarray .int, 2) := by decide +kernel
theorem dX4_init_36 : decode cX4_init 36 = .ok (.putfield 23, 3) := by decide +kernel
theorem dX4_init_39 : decode cX4_init 39 = .ok (.aload_n 0, 1) := by decide +kernel
theorem dX4_init_40 : decode cX4_init 40 = .ok (.bipush 21, 2) := by decide +kernel
theorem dX4_init_42 : decode cX4_init 42 = .ok (.newarray .int, 2) := by decide +kernel
theorem dX4_init_44 : decode cX4_init 44 = .ok (.putfield 26, 3) := by decide +kernel
theorem dX4_init_47 : decode cX4_init 47 = .ok (.aload_n 0, 1) := by decide +kernel
theorem dX4_init_48 : decode cX4_init 48 = .ok (.iconst 3, 1) := by decide +kernel
theorem dX4_init_49 : decode cX4_init 49 = .ok (.newarray .int, 2) := by decide +kernel
theorem dX4_init_51 : decode cX4_init 51 = .ok (.putfield 29, 3) := by decide +kernel
theorem dX4_init_54 : decode cX4_init 54 = .ok (.aload_n 0, 1) := by decide +kernel
theorem dX4_init_55 : decode cX4_init 55 = .ok (.iconst 3, 1) := by decide +kernel
theorem dX4_init_56 : decode cX4_init 56 = .ok (.newarray .int, 2) := by decide +kernel
theorem dX4_init_58 : decode cX4_init 58 = .ok (.putfield 32, 3) := by decide +kernel
theorem dX4_init_61 : decode cX4_init 61 = .ok (.aload_n 0, 1) := by decide +kernel
theorem dX4_init_62 : decode cX4_init 62 = .ok (.iconst 3, 1) := by decide +kernel
theorem dX4_init_63 : decode cX4_init 63 = .ok (.newarray .int, 2) := by decide +kernel
theorem dX4_init_65 : decode cX4_init 65 = .ok (.putfield 35, 3) := by decide +kernel
theorem dX4_init_68 : decode cX4_init 68 = .ok (.aload_n 0, 1) := by decide +kernel
theorem dX4_init_69 : decode cX4_init 69 = .ok (.iconst 3, 1) := by decide +kernel
theorem dX4_init_70 : decode cX4_init 70 = .ok (.newarray .int, 2) := by decide +kernel
theorem dX4_init_72 : decode cX4_init 72 = .ok (.putfield 38, 3) := by decide +kernel
theorem dX4_init_75 : decode cX4_init 75 = .ok (.aload_n 0, 1) := by decide +kernel
theorem dX4_init_76 : decode cX4_init 76 = .ok (.bipush 36, 2) := by decide +kernel
theorem dX4_init_78 : decode cX4_init 78 = .ok (.newarray .int, 2) := by decide +kernel
theorem dX4_init_80 : decode cX4_init 80 = .ok (.putfield 41, 3) := by decide +kernel
theorem dX4_init_83 : decode cX4_init 83 = .ok (.aload_n 0, 1) := by decide +kernel
theorem dX4_init_84 : decode cX4_init 84 = .ok (.bipush 36, 2) := by decide +kernel
theorem dX4_init_86 : decode cX4_init 86 = .ok (.newarray .int, 2) := by decide +kernel
theorem dX4_init_88 : decode cX4_init 88 = .ok (.putfield 44, 3) := by decide +kernel
theorem dX4_init_91 : decode cX4_init 91 = .ok (.aload_n 0, 1) := by decide +kernel
theorem dX4_init_92 : decode cX4_init 92 = .ok (.bipush 7, 2) := by decide +kernel
theorem dX4_init_94 : decode cX4_init 94 = .ok (.newarray .int, 2) := by decide +kernel
theorem dX4_init_96 : decode cX4_init 96 = .ok (.putfield 47, 3) := by decide +kernel
theorem dX4_init_99 : decode cX4_init 99 = .ok (.aload_n 0, 1) := by decide +kernel
theorem dX4_init_100 : decode cX4_init 100 = .ok (.iconst 3, 1) := by decide +kernel
theorem dX4_init_101 : decode cX4_init 101 = .ok (.newarray .int, 2) := by decide +kernel
theorem dX4_init_103 : decode cX4_init 103 = .ok (.putfield 50, 3) := by decide +kernel
theorem dX4_init_106 : decode cX4_init 106 = .ok (.aload_n 0, 1) := by decide +kernel
theorem dX4_init_107 : decode cX4_init 107 = .ok (.iconst 3, 1) := by decide +kernel
theorem dX4_init_108 : decode cX4_init 108 = .ok (.newarray .int, 2) := by decide +kernel
theorem dX4_init_110 : decode cX4_init 110 = .ok (.putfield 53, 3) := by decide +kernel
theorem dX4_init_113 : decode cX4_init 113 = .ok (.aload_n 0, 1) := by decide +kernel
theorem dX4_init_114 : decode cX4_init 114 = .ok (.iconst 5, 1) := by decide +kernel
theorem dX4_init_115 : decode cX4_init 115 = .ok (.invokevirtual 56, 3) := by decide +kernel
theorem dX4_init_118 : decode cX4_init 118 = .ok (.return_, 1) := by decide +kernel
theorem dX4_in_0 : decode cX4_in 0 = .ok (.iload_n 0, 1) := by decide +kernel
theorem dX4_in_1 : decode cX4_in 1 = .ok (.iload_n 1, 1) := by decide +kernel
theorem dX4_in_2 : decode cX4_in 2 = .ok (.if_icmp .lt 12, 3) := by decide +kernel
theorem dX4_in_5 : decode cX4_in 5 = .ok (.iload_n 0, 1) := by decide +kernel
theorem dX4_in_6 : decode cX4_in 6 = .ok (.iload_n 2, 1) := by decide +kernel
theorem dX4_in_7 : decode cX4_in 7 = .ok (.if_icmp .gt 7, 3) := by decide +kernel
theorem dX4_in_10 : decode cX4_in 10 = .ok (.iconst 1, 1) := by decide +kernel
theorem dX4_in_11 : decode cX4_in 11 = .ok (.goto 4, 3) := by decide +kernel
theorem dX4_in_14 : decode cX4_in 14 = .ok (.iconst 0, 1) := by decide +kernel
theorem dX4_in_15 : decode cX4_in 15 = .ok (.ireturn, 1) := by decide +kernel
set_option maxRecDepth 20000 in
theorem ggX4_isCell_X4_in : GoodIn wsX4_isCell wsX4_in := goodIn_r _ [5] (by decide +kernel) (by decide +kernel)
set_option maxRecDepth 20000 in
theorem gX4_isCell_X4_in : GoodIn wsX4_isCell (va_wsS RX4 60 yX4_in wsX4_in) := goodIn_app (goodIn_of _ (by decide +kernel)) ggX4_isCell_X4_in
theorem dX4_isCell_0 : decode cX4_isCell 0 = .ok (.iload_n 1, 1) := by decide +kernel
theorem dX4_isCell_1 : decode cX4_isCell 1 = .ok (.iconst 0, 1) := by decide +kernel
theorem dX4_isCell_2 : decode cX4_isCell 2 = .ok (.aload_n 0, 1) := by decide +kernel
theorem dX4_isCell_3 : decode cX4_isCell 3 = .ok (.getfield 7, 3) := by decide +kernel
theorem dX4_isCell_6 : decode cX4_isCell 6 = .ok (.iconst 1, 1) := by decide +kernel
theorem dX4_isCell_7 : decode cX4_isCell 7 = .ok (.isub, 1) := by decide +kernel
theorem dX4_isCell_8 : decode cX4_isCell 8 = .ok (.invokestatic 60, 3) := by decide +kernel
theorem dX4_isCell_11 : decode cX4_isCell 11 = .ok (.ireturn, 1) := by decide +kernel
set_option maxRecDepth 20000 in
theorem ggX4_isWeather_X4_in : GoodIn wsX4_isWeather wsX4_in := goodIn_r _ [4] (by decide +kernel) (by decide +kernel)
set_option maxRecDepth 20000 in
theorem gX4_isWeather_X4_in : GoodIn wsX4_isWeather (va_wsS RX4 60 yX4_in wsX4_in) := goodIn_app (goodIn_of _ (by decide +kernel)) ggX4_isWeather_X4_in
theorem dX4_isWeather_0 : decode cX4_isWeather 0 = .ok (.iload_n 0, 1) := by decide +kernel
theorem dX4_isWeather_1 : decode cX4_isWeather 1 = .ok (.iconst 0, 1) := by decide +kernel
theorem dX4_isWeather_2 : decode cX4_isWeather 2 = .ok (.iconst 2, 1) := by decide +kernel
theorem dX4_isWeather_3 : decode cX4_isWeather 3 = .ok (.invokestatic 60, 3) := by decide +kernel
theorem dX4_isWeather_6 : decode cX4_isWeather 6 = .ok (.ireturn, 1) := by decide +kernel
theorem dX4_begin_0 : decode cX4_begin 0 = .ok (.aload_n 0, 1) := by decide +kernel
theorem dX4_begin_1 : decode cX4_begin 1 = .ok (.iload_n 1, 1) := by decide +kernel
theorem dX4_begin_2 : decode cX4_begin 2 = .ok (.putfield 7, 3) := by decide +kernel
theorem dX4_begin_5 : decode cX4_begin 5 = .ok (.iconst 0, 1) := by decide +kernel
theorem dX4_begin_6 : decode cX4_begin 6 = .ok (.istore_n 2, 1) := by decide +kernel
theorem dX4_begin_7 : decode cX4_begin 7 = .ok (.iload_n 2, 1) := by decide +kernel
theorem dX4_begin_8 : decode cX4_begin 8 = .ok (.bipush 7, 2) := by decide +kernel
theorem dX4_begin_10 : decode cX4_begin 10 = .ok (.if_icmp .ge 44, 3) := by decide +kernel
theorem dX4_begin_13 : decode cX4_begin 13 = .ok (.aload_n 0, 1) := by decide +kernel
theorem dX4_begin_14 : decode cX4_begin 14 = .ok (.getfield 16, 3) := by decide +kernel
theorem dX4_begin_17 : decode cX4_begin 17 = .ok (.iload_n 2, 1) := by decide +kernel
theorem dX4_begin_18 : decode cX4_begin 18 = .ok (.iconst 0, 1) := by decide +kernel
theorem dX4_begin_19 : decode cX4_begin 19 = .ok (.iastore, 1) := by decide +kernel
theorem dX4_begin_20 : decode cX4_begin 20 = .ok (.aload_n 0, 1) := by decide +kernel
theorem dX4_begin_21 : decode cX4_begin 21 = .ok (.getfield 20, 3) := by decide +kernel
theorem dX4_begin_24 : decode cX4_begin 24 = .ok (.iload_n 2, 1) := by decide +kernel
theorem dX4_begin_25 : decode cX4_begin 25 = .ok (.iconst 0, 1) := by decide +kernel
theorem dX4_begin_26 : decode cX4_begin 26 = .ok (.iastore, 1) := by decide +kernel
theorem dX4_begin_27 : decode cX4_begin 27 = .ok (.aload_n 0, 1) := by decide +kernel
theorem dX4_begin_28 : decode cX4_begin 28 = .ok (.getfield 23, 3) := by decide +kernel
theorem dX4_begin_31 : decode cX4_begin 31 = .ok (.iload_n 2, 1) := by decide +kernel
theorem dX4_begin_32 : decode cX4_begin 32 = .ok (.iconst 0, 1) := by decide +kernel
theorem dX4_begin_33 : decode cX4_begin 33 = .ok (.iastore, 1) := by decide +kernel
theorem dX4_begin_34 : decode cX4_begin 34 = .ok (.aload_n 0, 1) := by decide +kernel
theorem dX4_begin_35 : decode cX4_begin 35 = .ok (.getfield 26, 3) := by decide +kernel
theorem dX4_begin_38 : decode cX4_begin 38 = .ok (.iload_n 2, 1) := by decide +kernel
theorem dX4_begin_39 : decode cX4_begin 39 = .ok (.iconst 0, 1) := by decide +kernel
theorem dX4_begin_40 : decode cX4_begin 40 = .ok (.iastore, 1) := by decide +kernel
theorem dX4_begin_41 : decode cX4_begin 41 = .ok (.aload_n 0, 1) := by decide +kernel
theorem dX4_begin_42 : decode cX4_begin 42 = .ok (.getfield 47, 3) := by decide +kernel
theorem dX4_begin_45 : decode cX4_begin 45 = .ok (.iload_n 2, 1) := by decide +kernel
theorem dX4_begin_46 : decode cX4_begin 46 = .ok (.iconst (-1), 1) := by decide +kernel
theorem dX4_begin_47 : decode cX4_begin 47 = .ok (.iastore, 1) := by decide +kernel
theorem dX4_begin_48 : decode cX4_begin 48 = .ok (.iinc 2 1, 3) := by decide +kernel
theorem dX4_begin_51 : decode cX4_begin 51 = .ok (.goto (-44), 3) := by decide +kernel
theorem dX4_begin_54 : decode cX4_begin 54 = .ok (.aload_n 0, 1) := by decide +kernel
theorem dX4_begin_55 : decode cX4_begin 55 = .ok (.getfield 29, 3) := by decide +kernel
theorem dX4_begin_58 : decode cX4_begin 58 = .ok (.iconst 0, 1) := by decide +kernel
theorem dX4_begin_59 : decode cX4_begin 59 = .ok (.iconst 0, 1) := by decide +kernel
theorem dX4_begin_60 : decode cX4_begin 60 = .ok (.iastore, 1) := by decide +kernel
theorem dX4_begin_61 : decode cX4_begin 61 = .ok (.aload_n 0, 1) := by decide +kernel
theorem dX4_begin_62 : decode cX4_begin 62 = .ok (.getfield 32, 3) := by decide +kernel
theorem dX4_begin_65 : decode cX4_begin 65 = .ok (.iconst 0, 1) := by decide +kernel
theorem dX4_begin_66 : decode cX4_begin 66 = .ok (.iconst 0, 1) := by decide +kernel
theorem dX4_begin_67 : decode cX4_begin 67 = .ok (.iastore, 1) := by decide +kernel
theorem dX4_begin_68 : decode cX4_begin 68 = .ok (.aload_n 0, 1) := by decide +kernel
theorem dX4_begin_69 : decode cX4_begin 69 = .ok (.getfield 35, 3) := by decide +kernel
theorem dX4_begin_72 : decode cX4_begin 72 = .ok (.iconst 0, 1) := by decide +kernel
theorem dX4_begin_73 : decode cX4_begin 73 = .ok (.iconst 0, 1) := by decide +kernel
theorem dX4_begin_74 : decode cX4_begin 74 = .ok (.iastore, 1) := by decide +kernel
theorem dX4_begin_75 : decode cX4_begin 75 = .ok (.return_, 1) := by decide +kernel
theorem dX4_copy_0 : decode cX4_copy 0 = .ok (.iconst 0, 1) := by decide +kernel
theorem dX4_copy_1 : decode cX4_copy 1 = .ok (.istore_n 3, 1) := by decide +kernel
theorem dX4_copy_2 : decode cX4_copy 2 = .ok (.iload_n 3, 1) := by decide +kernel
theorem dX4_copy_3 : decode cX4_copy 3 = .ok (.bipush 7, 2) := by decide +kernel
theorem dX4_copy_5 : decode cX4_copy 5 = .ok (.if_icmp .ge 97, 3) := by decide +kernel
theorem dX4_copy_8 : decode cX4_copy 8 = .ok (.aload_n 0, 1) := by decide +kernel
theorem dX4_copy_9 : decode cX4_copy 9 = .ok (.getfield 16, 3) := by decide +kernel
theorem dX4_copy_12 : decode cX4_copy 12 = .ok (.bipush 7, 2) := by decide +kernel
theorem dX4_copy_14 : decode cX4_copy 14 = .ok (.iload_n 2, 1) := by decide +kernel
theorem dX4_copy_15 : decode cX4_copy 15 = .ok (.imul, 1) := by decide +kernel
theorem dX4_copy_16 : decode cX4_copy 16 = .ok (.iload_n 3, 1) := by decide +kernel
theorem dX4_copy_17 : decode cX4_copy 17 = .ok (.iadd, 1) := by decide +kernel
theorem dX4_copy_18 : decode cX4_copy 18 = .ok (.aload_n 0, 1) := by decide +kernel
theorem dX4_copy_19 : decode cX4_copy 19 = .ok (.getfield 16, 3) := by decide +kernel
theorem dX4_copy_22 : decode cX4_copy 22 = .ok (.bipush 7, 2) := by decide +kernel
theorem dX4_copy_24 : decode cX4_copy 24 = .ok (.iload_n 1, 1) := by decide +kernel
theorem dX4_copy_25 : decode cX4_copy 25 = .ok (.imul, 1) := by decide +kernel
theorem dX4_copy_26 : decode cX4_copy 26 = .ok (.iload_n 3, 1) := by decide +kernel
theorem dX4_copy_27 : decode cX4_copy 27 = .ok (.iadd, 1) := by decide +kernel
theorem dX4_copy_28 : decode cX4_copy 28 = .ok (.iaload, 1) := by decide +kernel
theorem dX4_copy_29 : decode cX4_copy 29 = .ok (.iastore, 1) := by decide +kernel
theorem dX4_copy_30 : decode cX4_copy 30 = .ok (.aload_n 0, 1) := by decide +kernel
theorem dX4_copy_31 : decode cX4_copy 31 = .ok (.getfield 20, 3) := by decide +kernel
theorem dX4_copy_34 : decode cX4_copy 34 = .ok (.bipush 7, 2) := by decide +kernel
theorem dX4_copy_36 : decode cX4_copy 36 = .ok (.iload_n 2, 1) := by decide +kernel
theorem dX4_copy_37 : decode cX4_copy 37 = .ok (.imul, 1) := by decide +kernel
theorem dX4_copy_38 : decode cX4_copy 38 = .ok (.iload_n 3, 1) := by decide +kernel
theorem dX4_copy_39 : decode cX4_copy 39 = .ok (.iadd, 1) := by decide +kernel
theorem dX4_copy_40 : decode cX4_copy 40 = .ok (.aload_n 0, 1) := by decide +kernel
theorem dX4_copy_41 : decode cX4_copy 41 = .ok (.getfield 20, 3) := by decide +kernel
theorem dX4_copy_44 : decode cX4_copy 44 = .ok (.bipush 7, 2) := by decide +kernel
theorem dX4_copy_46 : decode cX4_copy 46 = .ok (.iload_n 1, 1) := by decide +kernel
theorem dX4_copy_47 : decode cX4_copy 47 = .ok (.imul, 1) := by decide +kernel
theorem dX4_copy_48 : decode cX4_copy 48 = .ok (.iload_n 3, 1) := by decide +kernel
theorem dX4_copy_49 : decode cX4_copy 49 = .ok (.iadd, 1) := by decide +kernel
theorem dX4_copy_50 : decode cX4_copy 50 = .ok (.iaload, 1) := by decide +kernel
theorem dX4_copy_51 : decode cX4_copy 51 = .ok (.iastore, 1) := by decide +kernel
theorem dX4_copy_52 : decode cX4_copy 52 = .ok (.aload_n 0, 1) := by decide +kernel
theorem dX4_copy_53 : decode cX4_copy 53 = .ok (.getfield 23, 3) := by decide +kernel
theorem dX4_copy_56 : decode cX4_copy 56 = .ok (.bipush 7, 2) := by decide +kernel
theorem dX4_copy_58 : decode cX4_copy 58 = .ok (.iload_n 2, 1) := by decide +kernel
theorem dX4_copy_59 : decode cX4_copy 59 = .ok (.imul, 1) := by decide +kernel
theorem dX4_copy_60 : decode cX4_copy 60 = .ok (.iload_n 3, 1) := by decide +kernel
theorem dX4_copy_61 : decode cX4_copy 61 = .ok (.iadd, 1) := by decide +kernel
theorem dX4_copy_62 : decode cX4_copy 62 = .ok (.aload_n 0, 1) := by decide +kernel
theorem dX4_copy_63 : decode cX4_copy 63 = .ok (.getfield 23, 3) := by decide +kernel
theorem dX4_copy_66 : decode cX4_copy 66 = .ok (.bipush 7, 2) := by decide +kernel
theorem dX4_copy_68 : decode cX4_copy 68 = .ok (.iload_n 1, 1) := by decide +kernel
theorem dX4_copy_69 : decode cX4_copy 69 = .ok (.imul, 1) := by decide +kernel
theorem dX4_copy_70 : decode cX4_copy 70 = .ok (.iload_n 3, 1) := by decide +kernel
theorem dX4_copy_71 : decode cX4_copy 71 = .ok (.iadd, 1) := by decide +kernel
theorem dX4_copy_72 : decode cX4_copy 72 = .ok (.iaload, 1) := by decide +kernel
theorem dX4_copy_73 : decode cX4_copy 73 = .ok (.iastore, 1) := by decide +kernel
theorem dX4_copy_74 : decode cX4_copy 74 = .ok (.aload_n 0, 1) := by decide +kernel
theorem dX4_copy_75 : decode cX4_copy 75 = .ok (.getfield 26, 3) := by decide +kernel
theorem dX4_copy_78 : decode cX4_copy 78 = .ok (.bipush 7, 2) := by decide +kernel
theorem dX4_copy_80 : decode cX4_copy 80 = .ok (.iload_n 2, 1) := by decide +kernel
theorem dX4_copy_81 : decode cX4_copy 81 = .ok (.imul, 1) := by decide +kernel
theorem dX4_copy_82 : decode cX4_copy 82 = .ok (.iload_n 3, 1) := by decide +kernel
theorem dX4_copy_83 : decode cX4_copy 83 = .ok (.iadd, 1) := by decide +kernel
theorem dX4_copy_84 : decode cX4_copy 84 = .ok (.aload_n 0, 1) := by decide +kernel
theorem dX4_copy_85 : decode cX4_copy 85 = .ok (.getfield 26, 3) := by decide +kernel
theorem dX4_copy_88 : decode cX4_copy 88 = .ok (.bipush 7, 2) := by decide +kernel
theorem dX4_copy_90 : decode cX4_copy 90 = .ok (.iload_n 1, 1) := by decide +kernel
theorem dX4_copy_91 : decode cX4_copy 91 = .ok (.imul, 1) := by decide +kernel
theorem dX4_copy_92 : decode cX4_copy 92 = .ok (.iload_n 3, 1) := by decide +kernel
theorem dX4_copy_93 : decode cX4_copy 93 = .ok (.iadd, 1) := by decide +kernel
theorem dX4_copy_94 : decode cX4_copy 94 = .ok (.iaload, 1) := by decide +kernel
theorem dX4_copy_95 : decode cX4_copy 95 = .ok (.iastore, 1) := by decide +kernel
theorem dX4_copy_96 : decode cX4_copy 96 = .ok (.iinc 3 1, 3) := by decide +kernel
theorem dX4_copy_99 : decode cX4_copy 99 = .ok (.goto (-97), 3) := by decide +kernel
theorem dX4_copy_102 : decode cX4_copy 102 = .ok (.aload_n 0, 1) := by decide +kernel
theorem dX4_copy_103 : decode cX4_copy 103 = .ok (.getfield 29, 3) := by decide +kernel
theorem dX4_copy_106 : decode cX4_copy 106 = .ok (.iload_n 2, 1) := by decide +kernel
theorem dX4_copy_107 : decode cX4_copy 107 = .ok (.aload_n 0, 1) := by decide +kernel
theorem dX4_copy_108 : decode cX4_copy 108 = .ok (.getfield 29, 3) := by decide +kernel
theorem dX4_copy_111 : decode cX4_copy 111 = .ok (.iload_n 1, 1) := by decide +kernel
theorem dX4_copy_112 : decode cX4_copy 112 = .ok (.iaload, 1) := by decide +kernel
theorem dX4_copy_113 : decode cX4_copy 113 = .ok (.iastore, 1) := by decide +kernel
theorem dX4_copy_114 : decode cX4_copy 114 = .ok (.aload_n 0, 1) := by decide +kernel
theorem dX4_copy_115 : decode cX4_copy 115 = .ok (.getfield 32, 3) := by decide +kernel
theorem dX4_copy_118 : decode cX4_copy 118 = .ok (.iload_n 2, 1) := by decide +kernel
theorem dX4_copy_119 : decode cX4_copy 119 = .ok (.aload_n 0, 1) := by decide +kernel
theorem dX4_copy_120 : decode cX4_copy 120 = .ok (.getfield 32, 3) := by decide +kernel
theorem dX4_copy_123 : decode cX4_copy 123 = .ok (.iload_n 1, 1) := by decide +kernel
theorem dX4_copy_124 : decode cX4_copy 124 = .ok (.iaload, 1) := by decide +kernel
theorem dX4_copy_125 : decode cX4_copy 125 = .ok (.iastore, 1) := by decide +kernel
theorem dX4_copy_126 : decode cX4_copy 126 = .ok (.aload_n 0, 1) := by decide +kernel
theorem dX4_copy_127 : decode cX4_copy 127 = .ok (.getfield 35, 3) := by decide +kernel
theorem dX4_copy_130 : decode cX4_copy 130 = .ok (.iload_n 2, 1) := by decide +kernel
theorem dX4_copy_131 : decode cX4_copy 131 = .ok (.aload_n 0, 1) := by decide +kernel
theorem dX4_copy_132 : decode cX4_copy 132 = .ok (.getfield 35, 3) := by decide +kernel
theorem dX4_copy_135 : decode cX4_copy 135 = .ok (.iload_n 1, 1) := by decide +kernel
theorem dX4_copy_136 : decode cX4_copy 136 = .ok (.iaload, 1) := by decide +kernel
theorem dX4_copy_137 : decode cX4_copy 137 = .ok (.iastore, 1) := by decide +kernel
theorem dX4_copy_138 : decode cX4_copy 138 = .ok (.return_, 1) := by decide +kernel
set_option maxRecDepth 20000 in
theorem ggX4_coast_X4_in : GoodIn wsX4_coast wsX4_in := goodIn_r _ [4] (by decide +kernel) (by decide +kernel)
set_option maxRecDepth 20000 in
theorem gX4_coast_X4_in : GoodIn wsX4_coast (va_wsS RX4 60 yX4_in wsX4_in) := goodIn_app (goodIn_of _ (by decide +kernel)) ggX4_coast_X4_in
set_option maxRecDepth 20000 in
theorem ggX4_coast_X4_begin : GoodIn wsX4_coast wsX4_begin := goodIn_r _ [8, 9, 10, 11, 12, 13, 14, 15, 16, 17, 18, 19, 20, 21, 22, 23, 24, 25, 26, 27, 28, 29, 30, 31, 32, 33] (by decide +kernel) (by decide +kernel)
set_option maxRecDepth 20000 in
theorem gX4_coast_X4_begin : GoodIn wsX4_coast (wsV RX4 56 RX4 yX4_begin wsX4_begin) := goodIn_app (goodIn_of _ (by decide +kernel)) ggX4_coast_X4_begin
theorem dX4_coast_0 : decode cX4_coast 0 = .ok (.iload_n 1, 1) := by decide +kernel
theorem dX4_coast_1 : decode cX4_coast 1 = .ok (.iconst 3, 1) := by decide +kernel
theorem dX4_coast_2 : decode cX4_coast 2 = .ok (.bipush 7, 2) := by decide +kernel
theorem dX4_coast_4 : decode cX4_coast 4 = .ok (.invokestatic 60, 3) := by decide +kernel
theorem dX4_coast_7 : decode cX4_coast 7 = .ok (.ifCond .ne 5, 3) := by decide +kernel
theorem dX4_coast_10 : decode cX4_coast 10 = .ok (.iconst (-1), 1) := by decide +kernel
theorem dX4_coast_11 : decode cX4_coast 11 = .ok (.ireturn, 1) := by decide +kernel
theorem dX4_coast_12 : decode cX4_coast 12 = .ok (.aload_n 0, 1) := by decide +kernel
theorem dX4_coast_13 : decode cX4_coast 13 = .ok (.iload_n 1, 1) := by decide +kernel
theorem dX4_coast_14 : decode cX4_coast 14 = .ok (.invokevirtual 56, 3) := by decide +kernel
theorem dX4_coast_17 : decode cX4_coast 17 = .ok (.iload_n 1, 1) := by decide +kernel
theorem dX4_coast_18 : decode cX4_coast 18 = .ok (.ireturn, 1) := by decide +kernel
set_option maxRecDepth 20000 in
theorem ggX4_set_X4_isCell : GoodIn wsX4_set wsX4_isCell := goodIn_r _ [8, 9, 10, 11, 7, 12, 13, 14, 15, 16, 17, 18, 19, 20, 21, 22, 23, 24, 25, 26, 27, 28] (by decide +kernel) (by decide +kernel)
set_option maxRecDepth 20000 in
theorem gX4_set_X4_isCell : GoodIn wsX4_set (wsV RX4 64 RX4 yX4_isCell wsX4_isCell) := goodIn_app (goodIn_of _ (by decide +kernel)) ggX4_set_X4_isCell
set_option maxRecDepth 20000 in
theorem ggX4_set_X4_in : GoodIn wsX4_set wsX4_in := goodIn_r _ [12] (by decide +kernel) (by decide +kernel)
set_option maxRecDepth 20000 in
theorem gX4_set_X4_in : GoodIn wsX4_set (va_wsS RX4 60 yX4_in wsX4_in) := goodIn_app (goodIn_of _ (by decide +kernel)) ggX4_set_X4_in
theorem dX4_set_0 : decode cX4_set 0 = .ok (.aload_n 0, 1) := by decide +kernel
theorem dX4_set_1 : decode cX4_set 1 = .ok (.iload_n 1, 1) := by decide +kernel
theorem dX4_set_2 : decode cX4_set 2 = .ok (.invokevirtual 64, 3) := by decide +kernel
theorem dX4_set_5 : decode cX4_set 5 = .ok (.ifCond .eq 41, 3) := by decide +kernel
theorem dX4_set_8 : decode cX4_set 8 = .ok (.iload_n 2, 1) := by decide +kernel
theorem dX4_set_9 : decode cX4_set 9 = .ok (.iconst 0, 1) := by decide +kernel
theorem dX4_set_10 : decode cX4_set 10 = .ok (.iconst 2, 1) := by decide +kernel
theorem dX4_set_11 : decode cX4_set 11 = .ok (.invokestatic 60, 3) := by decide +kernel
theorem dX4_set_14 : decode cX4_set 14 = .ok (.ifCond .eq 32, 3) := by decide +kernel
theorem dX4_set_17 : decode cX4_set 17 = .ok (.iload_n 3, 1) := by decide +kernel
theorem dX4_set_18 : decode cX4_set 18 = .ok (.iconst 0, 1) := by decide +kernel
theorem dX4_set_19 : decode cX4_set 19 = .ok (.iload_n 2, 1) := by decide +kernel
theorem dX4_set_20 : decode cX4_set 20 = .ok (.ifCond .ne 8, 3) := by decide +kernel
theorem dX4_set_23 : decode cX4_set 23 = .ok (.bipush 99, 2) := by decide +kernel
theorem dX4_set_25 : decode cX4_set 25 = .ok (.goto 15, 3) := by decide +kernel
theorem dX4_set_28 : decode cX4_set 28 = .ok (.iload_n 2, 1) := by decide +kernel
theorem dX4_set_29 : decode cX4_set 29 = .ok (.iconst 1, 1) := by decide +kernel
theorem dX4_set_30 : decode cX4_set 30 = .ok (.if_icmp .ne 8, 3) := by decide +kernel
theorem dX4_set_33 : decode cX4_set 33 = .ok (.bipush 9, 2) := by decide +kernel
theorem dX4_set_35 : decode cX4_set 35 = .ok (.goto 5, 3) := by decide +kernel
theorem dX4_set_38 : decode cX4_set 38 = .ok (.bipush 20, 2) := by decide +kernel
theorem dX4_set_40 : decode cX4_set 40 = .ok (.invokestatic 60, 3) := by decide +kernel
theorem dX4_set_43 : decode cX4_set 43 = .ok (.ifCond .ne 5, 3) := by decide +kernel
theorem dX4_set_46 : decode cX4_set 46 = .ok (.iconst (-1), 1) := by decide +kernel
theorem dX4_set_47 : decode cX4_set 47 = .ok (.ireturn, 1) := by decide +kernel
theorem dX4_set_48 : decode cX4_set 48 = .ok (.iload_n 2, 1) := by decide +kernel
theorem dX4_set_49 : decode cX4_set 49 = .ok (.ifCond .ne 12, 3) := by decide +kernel
theorem dX4_set_52 : decode cX4_set 52 = .ok (.aload_n 0, 1) := by decide +kernel
theorem dX4_set_53 : decode cX4_set 53 = .ok (.getfield 16, 3) := by decide +kernel
theorem dX4_set_56 : decode cX4_set 56 = .ok (.iload_n 1, 1) := by decide +kernel
theorem dX4_set_57 : decode cX4_set 57 = .ok (.iaload, 1) := by decide +kernel
theorem dX4_set_58 : decode cX4_set 58 = .ok (.goto 23, 3) := by decide +kernel
theorem dX4_set_61 : decode cX4_set 61 = .ok (.iload_n 2, 1) := by decide +kernel
theorem dX4_set_62 : decode cX4_set 62 = .ok (.iconst 1, 1) := by decide +kernel
theorem dX4_set_63 : decode cX4_set 63 = .ok (.if_icmp .ne 12, 3) := by decide +kernel
theorem dX4_set_66 : decode cX4_set 66 = .ok (.aload_n 0, 1) := by decide +kernel
theorem dX4_set_67 : decode cX4_set 67 = .ok (.getfield 20, 3) := by decide +kernel
theorem dX4_set_70 : decode cX4_set 70 = .ok (.iload_n 1, 1) := by decide +kernel
theorem dX4_set_71 : decode cX4_set 71 = .ok (.iaload, 1) := by decide +kernel
theorem dX4_set_72 : decode cX4_set 72 = .ok (.goto 9, 3) := by decide +kernel
theorem dX4_set_75 : decode cX4_set 75 = .ok (.aload_n 0, 1) := by decide +kernel
theorem dX4_set_76 : decode cX4_set 76 = .ok (.getfield 23, 3) := by decide +kernel
theorem dX4_set_79 : decode cX4_set 79 = .ok (.iload_n 1, 1) := by decide +kernel
theorem dX4_set_80 : decode cX4_set 80 = .ok (.iaload, 1) := by decide +kernel
theorem dX4_set_81 : decode cX4_set 81 = .ok (.istore 4, 2) := by decide +kernel
theorem dX4_set_83 : decode cX4_set 83 = .ok (.aload_n 0, 1) := by decide +kernel
theorem dX4_set_84 : decode cX4_set 84 = .ok (.getfield 16, 3) := by decide +kernel
theorem dX4_set_87 : decode cX4_set 87 = .ok (.iload_n 1, 1) := by decide +kernel
theorem dX4_set_88 : decode cX4_set 88 = .ok (.iload_n 2, 1) := by decide +kernel
theorem dX4_set_89 : decode cX4_set 89 = .ok (.ifCond .ne 7, 3) := by decide +kernel
theorem dX4_set_92 : decode cX4_set 92 = .ok (.iload_n 3, 1) := by decide +kernel
theorem dX4_set_93 : decode cX4_set 93 = .ok (.goto 9, 3) := by decide +kernel
theorem dX4_set_96 : decode cX4_set 96 = .ok (.aload_n 0, 1) := by decide +kernel
theorem dX4_set_97 : decode cX4_set 97 = .ok (.getfield 16, 3) := by decide +kernel
theorem dX4_set_100 : decode cX4_set 100 = .ok (.iload_n 1, 1) := by decide +kernel
theorem dX4_set_101 : decode cX4_set 101 = .ok (.iaload, 1) := by decide +kernel
theorem dX4_set_102 : decode cX4_set 102 = .ok (.iastore, 1) := by decide +kernel
theorem dX4_set_103 : decode cX4_set 103 = .ok (.aload_n 0, 1) := by decide +kernel
theorem dX4_set_104 : decode cX4_set 104 = .ok (.getfield 20, 3) := by decide +kernel
theorem dX4_set_107 : decode cX4_set 107 = .ok (.iload_n 1, 1) := by decide +kernel
theorem dX4_set_108 : decode cX4_set 108 = .ok (.iload_n 2, 1) := by decide +kernel
theorem dX4_set_109 : decode cX4_set 109 = .ok (.iconst 1, 1) := by decide +kernel
theorem dX4_set_110 : decode cX4_set 110 = .ok (.if_icmp .ne 7, 3) := by decide +kernel
theorem dX4_set_113 : decode cX4_set 113 = .ok (.iload_n 3, 1) := by decide +kernel
theorem dX4_set_114 : decode cX4_set 114 = .ok (.goto 9, 3) := by decide +kernel
theorem dX4_set_117 : decode cX4_set 117 = .ok (.aload_n 0, 1) := by decide +kernel
theorem dX4_set_118 : decode cX4_set 118 = .ok (.getfield 20, 3) := by decide +kernel
theorem dX4_set_121 : decode cX4_set 121 = .ok (.iload_n 1, 1) := by decide +kernel
theorem dX4_set_122 : decode cX4_set 122 = .ok (.iaload, 1) := by decide +kernel
theorem dX4_set_123 : decode cX4_set 123 = .ok (.iastore, 1) := by decide +kernel
theorem dX4_set_124 : decode cX4_set 124 = .ok (.aload_n 0, 1) := by decide +kernel
theorem dX4_set_125 : decode cX4_set 125 = .ok (.getfield 23, 3) := by decide +kernel
theorem dX4_set_128 : decode cX4_set 128 = .ok (.iload_n 1, 1) := by decide +kernel
theorem dX4_set_129 : decode cX4_set 129 = .ok (.iload_n 2, 1) := by decide +kernel
theorem dX4_set_130 : decode cX4_set 130 = .ok (.iconst 2, 1) := by decide +kernel
theorem dX4_set_131 : decode cX4_set 131 = .ok (.if_icmp .ne 7, 3) := by decide +kernel
theorem dX4_set_134 : decode cX4_set 134 = .ok (.iload_n 3, 1) := by decide +kernel
theorem dX4_set_135 : decode cX4_set 135 = .ok (.goto 9, 3) := by decide +kernel
theorem dX4_set_138 : decode cX4_set 138 = .ok (.aload_n 0, 1) := by decide +kernel
theorem dX4_set_139 : decode cX4_set 139 = .ok (.getfield 23, 3) := by decide +kernel
theorem dX4_set_142 : decode cX4_set 142 = .ok (.iload_n 1, 1) := by decide +kernel
theorem dX4_set_143 : decode cX4_set 143 = .ok (.iaload, 1) := by decide +kernel
theorem dX4_set_144 : decode cX4_set 144 = .ok (.iastore, 1) := by decide +kernel
theorem dX4_set_145 : decode cX4_set 145 = .ok (.iload 4, 2) := by decide +kernel
theorem dX4_set_147 : decode cX4_set 147 = .ok (.ireturn, 1) := by decide +kernel
set_option maxRecDepth 20000 in
theorem ggX4_of_X4_isCell : GoodIn wsX4_of wsX4_isCell := goodIn_r _ [9, 10, 11, 12, 8, 13, 14, 15, 16, 17, 18, 19, 20, 21, 22, 23, 24, 25, 26, 27, 28, 29] (by decide +kernel) (by decide +kernel)
set_option maxRecDepth 20000 in
theorem gX4_of_X4_isCell : GoodIn wsX4_of (wsV RX4 64 RX4 yX4_isCell wsX4_isCell) := goodIn_app (goodIn_of _ (by decide +kernel)) ggX4_of_X4_isCell
set_option maxRecDepth 20000 in
theorem ggX4_of_X4_in : GoodIn wsX4_of wsX4_in := goodIn_r _ [13] (by decide +kernel) (by decide +kernel)
set_option maxRecDepth 20000 in
theorem gX4_of_X4_in : GoodIn wsX4_of (va_wsS RX4 60 yX4_in wsX4_in) := goodIn_app (goodIn_of _ (by decide +kernel)) ggX4_of_X4_in
theorem dX4_of_0 : decode cX4_of 0 = .ok (.aload_n 0, 1) := by decide +kernel
theorem dX4_of_1 : decode cX4_of 1 = .ok (.iload_n 1, 1) := by decide +kernel
theorem dX4_of_2 : decode cX4_of 2 = .ok (.invokevirtual 64, 3) := by decide +kernel
theorem dX4_of_5 : decode cX4_of 5 = .ok (.ifCond .eq 12, 3) := by decide +kernel
theorem dX4_of_8 : decode cX4_of 8 = .ok (.iload_n 2, 1) := by decide +kernel
theorem dX4_of_9 : decode cX4_of 9 = .ok (.iconst 0, 1) := by decide +kernel
theorem dX4_of_10 : decode cX4_of 10 = .ok (.iconst 3, 1) := by decide +kernel
theorem dX4_of_11 : decode cX4_of 11 = .ok (.invokestatic 60, 3) := by decide +kernel
theorem dX4_of_14 : decode cX4_of 14 = .ok (.ifCond .ne 5, 3) := by decide +kernel
theorem dX4_of_17 : decode cX4_of 17 = .ok (.iconst (-1), 1) := by decide +kernel
theorem dX4_of_18 : decode cX4_of 18 = .ok (.ireturn, 1) := by decide +kernel
theorem dX4_of_19 : decode cX4_of 19 = .ok (.iload_n 2, 1) := by decide +kernel
theorem dX4_of_20 : decode cX4_of 20 = .ok (.ifCond .ne 12, 3) := by decide +kernel
theorem dX4_of_23 : decode cX4_of 23 = .ok (.aload_n 0, 1) := by decide +kernel
theorem dX4_of_24 : decode cX4_of 24 = .ok (.getfield 16, 3) := by decide +kernel
theorem dX4_of_27 : decode cX4_of 27 = .ok (.iload_n 1, 1) := by decide +kernel
theorem dX4_of_28 : decode cX4_of 28 = .ok (.iaload, 1) := by decide +kernel
theorem dX4_of_29 : decode cX4_of 29 = .ok (.goto 37, 3) := by decide +kernel
theorem dX4_of_32 : decode cX4_of 32 = .ok (.iload_n 2, 1) := by decide +kernel
theorem dX4_of_33 : decode cX4_of 33 = .ok (.iconst 1, 1) := by decide +kernel
theorem dX4_of_34 : decode cX4_of 34 = .ok (.if_icmp .ne 12, 3) := by decide +kernel
theorem dX4_of_37 : decode cX4_of 37 = .ok (.aload_n 0, 1) := by decide +kernel
theorem dX4_of_38 : decode cX4_of 38 = .ok (.getfield 20, 3) := by decide +kernel
theorem dX4_of_41 : decode cX4_of 41 = .ok (.iload_n 1, 1) := by decide +kernel
theorem dX4_of_42 : decode cX4_of 42 = .ok (.iaload, 1) := by decide +kernel
theorem dX4_of_43 : decode cX4_of 43 = .ok (.goto 23, 3) := by decide +kernel
theorem dX4_of_46 : decode cX4_of 46 = .ok (.iload_n 2, 1) := by decide +kernel
theorem dX4_of_47 : decode cX4_of 47 = .ok (.iconst 2, 1) := by decide +kernel
theorem dX4_of_48 : decode cX4_of 48 = .ok (.if_icmp .ne 12, 3) := by decide +kernel
theorem dX4_of_51 : decode cX4_of 51 = .ok (.aload_n 0, 1) := by decide +kernel
theorem dX4_of_52 : decode cX4_of 52 = .ok (.getfield 23, 3) := by decide +kernel
theorem dX4_of_55 : decode cX4_of 55 = .ok (.iload_n 1, 1) := by decide +kernel
theorem dX4_of_56 : decode cX4_of 56 = .ok (.iaload, 1) := by decide +kernel
theorem dX4_of_57 : decode cX4_of 57 = .ok (.goto 9, 3) := by decide +kernel
theorem dX4_of_60 : decode cX4_of 60 = .ok (.aload_n 0, 1) := by decide +kernel
theorem dX4_of_61 : decode cX4_of 61 = .ok (.getfield 26, 3) := by decide +kernel
theorem dX4_of_64 : decode cX4_of 64 = .ok (.iload_n 1, 1) := by decide +kernel
theorem dX4_of_65 : decode cX4_of 65 = .ok (.iaload, 1) := by decide +kernel
theorem dX4_of_66 : decode cX4_of 66 = .ok (.ireturn, 1) := by decide +kernel
theorem dX4_keeps_0 : decode cX4_keeps 0 = .ok (.iconst 1, 1) := by decide +kernel
theorem dX4_keeps_1 : decode cX4_keeps 1 = .ok (.iconst 2, 1) := by decide +kernel
theorem dX4_keeps_2 : decode cX4_keeps 2 = .ok (.aload_n 0, 1) := by decide +kernel
theorem dX4_keeps_3 : decode cX4_keeps 3 = .ok (.getfield 20, 3) := by decide +kernel
theorem dX4_keeps_6 : decode cX4_keeps 6 = .ok (.iload_n 1, 1) := by decide +kernel
theorem dX4_keeps_7 : decode cX4_keeps 7 = .ok (.iaload, 1) := by decide +kernel
theorem dX4_keeps_8 : decode cX4_keeps 8 = .ok (.imul, 1) := by decide +kernel
theorem dX4_keeps_9 : decode cX4_keeps 9 = .ok (.iadd, 1) := by decide +kernel
theorem dX4_keeps_10 : decode cX4_keeps 10 = .ok (.istore_n 3, 1) := by decide +kernel
theorem dX4_keeps_11 : decode cX4_keeps 11 = .ok (.iload_n 3, 1) := by decide +kernel
theorem dX4_keeps_12 : decode cX4_keeps 12 = .ok (.aload_n 0, 1) := by decide +kernel
theorem dX4_keeps_13 : decode cX4_keeps 13 = .ok (.getfield 23, 3) := by decide +kernel
theorem dX4_keeps_16 : decode cX4_keeps 16 = .ok (.iload_n 1, 1) := by decide +kernel
theorem dX4_keeps_17 : decode cX4_keeps 17 = .ok (.iaload, 1) := by decide +kernel
theorem dX4_keeps_18 : decode cX4_keeps 18 = .ok (.iadd, 1) := by decide +kernel
theorem dX4_keeps_19 : decode cX4_keeps 19 = .ok (.istore 4, 2) := by decide +kernel
theorem dX4_keeps_21 : decode cX4_keeps 21 = .ok (.iload 4, 2) := by decide +kernel
theorem dX4_keeps_23 : decode cX4_keeps 23 = .ok (.bipush 99, 2) := by decide +kernel
theorem dX4_keeps_25 : decode cX4_keeps 25 = .ok (.aload_n 0, 1) := by decide +kernel
theorem dX4_keeps_26 : decode cX4_keeps 26 = .ok (.getfield 16, 3) := by decide +kernel
theorem dX4_keeps_29 : decode cX4_keeps 29 = .ok (.iload_n 1, 1) := by decide +kernel
theorem dX4_keeps_30 : decode cX4_keeps 30 = .ok (.iaload, 1) := by decide +kernel
theorem dX4_keeps_31 : decode cX4_keeps 31 = .ok (.isub, 1) := by decide +kernel
theorem dX4_keeps_32 : decode cX4_keeps 32 = .ok (.if_icmp .ge 8, 3) := by decide +kernel
theorem dX4_keeps_35 : decode cX4_keeps 35 = .ok (.iload 4, 2) := by decide +kernel
theorem dX4_keeps_37 : decode cX4_keeps 37 = .ok (.goto 12, 3) := by decide +kernel
theorem dX4_keeps_40 : decode cX4_keeps 40 = .ok (.bipush 99, 2) := by decide +kernel
theorem dX4_keeps_42 : decode cX4_keeps 42 = .ok (.aload_n 0, 1) := by decide +kernel
theorem dX4_keeps_43 : decode cX4_keeps 43 = .ok (.getfield 16, 3) := by decide +kernel
theorem dX4_keeps_46 : decode cX4_keeps 46 = .ok (.iload_n 1, 1) := by decide +kernel
theorem dX4_keeps_47 : decode cX4_keeps 47 = .ok (.iaload, 1) := by decide +kernel
theorem dX4_keeps_48 : decode cX4_keeps 48 = .ok (.isub, 1) := by decide +kernel
theorem dX4_keeps_49 : decode cX4_keeps 49 = .ok (.istore 4, 2) := by decide +kernel
theorem dX4_keeps_51 : decode cX4_keeps 51 = .ok (.iload_n 2, 1) := by decide +kernel
theorem dX4_keeps_52 : decode cX4_keeps 52 = .ok (.iload 4, 2) := by decide +kernel
theorem dX4_keeps_54 : decode cX4_keeps 54 = .ok (.if_icmp .ge 7, 3) := by decide +kernel
theorem dX4_keeps_57 : decode cX4_keeps 57 = .ok (.iload_n 2, 1) := by decide +kernel
theorem dX4_keeps_58 : decode cX4_keeps 58 = .ok (.goto 5, 3) := by decide +kernel
theorem dX4_keeps_61 : decode cX4_keeps 61 = .ok (.iload 4, 2) := by decide +kernel
theorem dX4_keeps_63 : decode cX4_keeps 63 = .ok (.istore 5, 2) := by decide +kernel
theorem dX4_keeps_65 : decode cX4_keeps 65 = .ok (.aload_n 0, 1) := by decide +kernel
theorem dX4_keeps_66 : decode cX4_keeps 66 = .ok (.getfield 16, 3) := by decide +kernel
theorem dX4_keeps_69 : decode cX4_keeps 69 = .ok (.iload_n 1, 1) := by decide +kernel
theorem dX4_keeps_70 : decode cX4_keeps 70 = .ok (.dup2, 1) := by decide +kernel
theorem dX4_keeps_71 : decode cX4_keeps 71 = .ok (.iaload, 1) := by decide +kernel
theorem dX4_keeps_72 : decode cX4_keeps 72 = .ok (.iload 5, 2) := by decide +kernel
theorem dX4_keeps_74 : decode cX4_keeps 74 = .ok (.iadd, 1) := by decide +kernel
theorem dX4_keeps_75 : decode cX4_keeps 75 = .ok (.iastore, 1) := by decide +kernel
theorem dX4_keeps_76 : decode cX4_keeps 76 = .ok (.aload_n 0, 1) := by decide +kernel
theorem dX4_keeps_77 : decode cX4_keeps 77 = .ok (.getfield 26, 3) := by decide +kernel
theorem dX4_keeps_80 : decode cX4_keeps 80 = .ok (.iload_n 1, 1) := by decide +kernel
theorem dX4_keeps_81 : decode cX4_keeps 81 = .ok (.dup2, 1) := by decide +kernel
theorem dX4_keeps_82 : decode cX4_keeps 82 = .ok (.iaload, 1) := by decide +kernel
theorem dX4_keeps_83 : decode cX4_keeps 83 = .ok (.iload 5, 2) := by decide +kernel
theorem dX4_keeps_85 : decode cX4_keeps 85 = .ok (.iadd, 1) := by decide +kernel
theorem dX4_keeps_86 : decode cX4_keeps 86 = .ok (.iastore, 1) := by decide +kernel
theorem dX4_keeps_87 : decode cX4_keeps 87 = .ok (.aload_n 0, 1) := by decide +kernel
theorem dX4_keeps_88 : decode cX4_keeps 88 = .ok (.getfield 23, 3) := by decide +kernel
theorem dX4_keeps_91 : decode cX4_keeps 91 = .ok (.iload_n 1, 1) := by decide +kernel
theorem dX4_keeps_92 : decode cX4_keeps 92 = .ok (.dup2, 1) := by decide +kernel
theorem dX4_keeps_93 : decode cX4_keeps 93 = .ok (.iaload, 1) := by decide +kernel
theorem dX4_keeps_94 : decode cX4_keeps 94 = .ok (.iload 5, 2) := by decide +kernel
theorem dX4_keeps_96 : decode cX4_keeps 96 = .ok (.iload_n 3, 1) := by decide +kernel
theorem dX4_keeps_97 : decode cX4_keeps 97 = .ok (.if_icmp .le 10, 3) := by decide +kernel
theorem dX4_keeps_100 : decode cX4_keeps 100 = .ok (.iload 5, 2) := by decide +kernel
theorem dX4_keeps_102 : decode cX4_keeps 102 = .ok (.iload_n 3, 1) := by decide +kernel
theorem dX4_keeps_103 : decode cX4_keeps 103 = .ok (.isub, 1) := by decide +kernel
theorem dX4_keeps_104 : decode cX4_keeps 104 = .ok (.goto 4, 3) := by decide +kernel
theorem dX4_keeps_107 : decode cX4_keeps 107 = .ok (.iconst 0, 1) := by decide +kernel
theorem dX4_keeps_108 : decode cX4_keeps 108 = .ok (.isub, 1) := by decide +kernel
theorem dX4_keeps_109 : decode cX4_keeps 109 = .ok (.iastore, 1) := by decide +kernel
theorem dX4_keeps_110 : decode cX4_keeps 110 = .ok (.iload 5, 2) := by decide +kernel
theorem dX4_keeps_112 : decode cX4_keeps 112 = .ok (.ireturn, 1) := by decide +kernel
set_option maxRecDepth 20000 in
theorem ggX4_blow_X4_keeps : GoodIn wsX4_blow wsX4_keeps := goodIn_r _ [9, 2, 10, 3, 11, 12, 13, 14, 15, 16, 17, 18, 19, 20, 21, 22, 23, 24, 25, 26, 27] (by decide +kernel) (by decide +kernel)
set_option maxRecDepth 20000 in
theorem gX4_blow_X4_keeps : GoodIn wsX4_blow (wsV RX4 68 RX4 yX4_keeps wsX4_keeps) := goodIn_app (goodIn_of _ (by decide +kernel)) ggX4_blow_X4_keeps
theorem dX4_blow_0 : decode cX4_blow 0 = .ok (.iconst 0, 1) := by decide +kernel
theorem dX4_blow_1 : decode cX4_blow 1 = .ok (.istore_n 3, 1) := by decide +kernel
theorem dX4_blow_2 : decode cX4_blow 2 = .ok (.aload_n 0, 1) := by decide +kernel
theorem dX4_blow_3 : decode cX4_blow 3 = .ok (.getfield 7, 3) := by decide +kernel
theorem dX4_blow_6 : decode cX4_blow 6 = .ok (.iconst 1, 1) := by decide +kernel
theorem dX4_blow_7 : decode cX4_blow 7 = .ok (.isub, 1) := by decide +kernel
theorem dX4_blow_8 : decode cX4_blow 8 = .ok (.istore 4, 2) := by decide +kernel
theorem dX4_blow_10 : decode cX4_blow 10 = .ok (.iload 4, 2) := by decide +kernel
theorem dX4_blow_12 : decode cX4_blow 12 = .ok (.ifCond .lt 126, 3) := by decide +kernel
theorem dX4_blow_15 : decode cX4_blow 15 = .ok (.bipush 7, 2) := by decide +kernel
theorem dX4_blow_17 : decode cX4_blow 17 = .ok (.iload_n 1, 1) := by decide +kernel
theorem dX4_blow_18 : decode cX4_blow 18 = .ok (.imul, 1) := by decide +kernel
theorem dX4_blow_19 : decode cX4_blow 19 = .ok (.iload 4, 2) := by decide +kernel
theorem dX4_blow_21 : decode cX4_blow 21 = .ok (.iadd, 1) := by decide +kernel
theorem dX4_blow_22 : decode cX4_blow 22 = .ok (.istore 5, 2) := by decide +kernel
theorem dX4_blow_24 : decode cX4_blow 24 = .ok (.iload_n 2, 1) := by decide +kernel
theorem dX4_blow_25 : decode cX4_blow 25 = .ok (.aload_n 0, 1) := by decide +kernel
theorem dX4_blow_26 : decode cX4_blow 26 = .ok (.getfield 20, 3) := by decide +kernel
theorem dX4_blow_29 : decode cX4_blow 29 = .ok (.iload 5, 2) := by decide +kernel
theorem dX4_blow_31 : decode cX4_blow 31 = .ok (.iaload, 1) := by decide +kernel
theorem dX4_blow_32 : decode cX4_blow 32 = .ok (.if_icmp .le 15, 3) := by decide +kernel
theorem dX4_blow_35 : decode cX4_blow 35 = .ok (.iload_n 2, 1) := by decide +kernel
theorem dX4_blow_36 : decode cX4_blow 36 = .ok (.aload_n 0, 1) := by decide +kernel
theorem dX4_blow_37 : decode cX4_blow 37 = .ok (.getfield 20, 3) := by decide +kernel
theorem dX4_blow_40 : decode cX4_blow 40 = .ok (.iload 5, 2) := by decide +kernel
theorem dX4_blow_42 : decode cX4_blow 42 = .ok (.iaload, 1) := by decide +kernel
theorem dX4_blow_43 : decode cX4_blow 43 = .ok (.isub, 1) := by decide +kernel
theorem dX4_blow_44 : decode cX4_blow 44 = .ok (.goto 4, 3) := by decide +kernel
theorem dX4_blow_47 : decode cX4_blow 47 = .ok (.iconst 0, 1) := by decide +kernel
theorem dX4_blow_48 : decode cX4_blow 48 = .ok (.istore 6, 2) := by decide +kernel
theorem dX4_blow_50 : decode cX4_blow 50 = .ok (.iload 6, 2) := by decide +kernel
theorem dX4_blow_52 : decode cX4_blow 52 = .ok (.aload_n 0, 1) := by decide +kernel
theorem dX4_blow_53 : decode cX4_blow 53 = .ok (.getfield 16, 3) := by decide +kernel
theorem dX4_blow_56 : decode cX4_blow 56 = .ok (.iload 5, 2) := by decide +kernel
theorem dX4_blow_58 : decode cX4_blow 58 = .ok (.iaload, 1) := by decide +kernel
theorem dX4_blow_59 : decode cX4_blow 59 = .ok (.if_icmp .ge 8, 3) := by decide +kernel
theorem dX4_blow_62 : decode cX4_blow 62 = .ok (.iload 6, 2) := by decide +kernel
theorem dX4_blow_64 : decode cX4_blow 64 = .ok (.goto 10, 3) := by decide +kernel
theorem dX4_blow_67 : decode cX4_blow 67 = .ok (.aload_n 0, 1) := by decide +kernel
theorem dX4_blow_68 : decode cX4_blow 68 = .ok (.getfield 16, 3) := by decide +kernel
theorem dX4_blow_71 : decode cX4_blow 71 = .ok (.iload 5, 2) := by decide +kernel
theorem dX4_blow_73 : decode cX4_blow 73 = .ok (.iaload, 1) := by decide +kernel
theorem dX4_blow_74 : decode cX4_blow 74 = .ok (.istore 6, 2) := by decide +kernel
theorem dX4_blow_76 : decode cX4_blow 76 = .ok (.aload_n 0, 1) := by decide +kernel
theorem dX4_blow_77 : decode cX4_blow 77 = .ok (.getfield 16, 3) := by decide +kernel
theorem dX4_blow_80 : decode cX4_blow 80 = .ok (.iload 5, 2) := by decide +kernel
theorem dX4_blow_82 : decode cX4_blow 82 = .ok (.dup2, 1) := by decide +kernel
theorem dX4_blow_83 : decode cX4_blow 83 = .ok (.iaload, 1) := by decide +kernel
theorem dX4_blow_84 : decode cX4_blow 84 = .ok (.iload 6, 2) := by decide +kernel
theorem dX4_blow_86 : decode cX4_blow 86 = .ok (.isub, 1) := by decide +kernel
theorem dX4_blow_87 : decode cX4_blow 87 = .ok (.iastore, 1) := by decide +kernel
theorem dX4_blow_88 : decode cX4_blow 88 = .ok (.iload 4, 2) := by decide +kernel
theorem dX4_blow_90 : decode cX4_blow 90 = .ok (.iconst 1, 1) := by decide +kernel
theorem dX4_blow_91 : decode cX4_blow 91 = .ok (.iadd, 1) := by decide +kernel
theorem dX4_blow_92 : decode cX4_blow 92 = .ok (.istore 7, 2) := by decide +kernel
theorem dX4_blow_94 : decode cX4_blow 94 = .ok (.iload 7, 2) := by decide +kernel
theorem dX4_blow_96 : decode cX4_blow 96 = .ok (.aload_n 0, 1) := by decide +kernel
theorem dX4_blow_97 : decode cX4_blow 97 = .ok (.getfield 7, 3) := by decide +kernel
theorem dX4_blow_100 : decode cX4_blow 100 = .ok (.if_icmp .ge 27, 3) := by decide +kernel
theorem dX4_blow_103 : decode cX4_blow 103 = .ok (.iload 6, 2) := by decide +kernel
theorem dX4_blow_105 : decode cX4_blow 105 = .ok (.aload_n 0, 1) := by decide +kernel
theorem dX4_blow_106 : decode cX4_blow 106 = .ok (.bipush 7, 2) := by decide +kernel
theorem dX4_blow_108 : decode cX4_blow 108 = .ok (.iload_n 1, 1) := by decide +kernel
theorem dX4_blow_109 : decode cX4_blow 109 = .ok (.imul, 1) := by decide +kernel
theorem dX4_blow_110 : decode cX4_blow 110 = .ok (.iload 7, 2) := by decide +kernel
theorem dX4_blow_112 : decode cX4_blow 112 = .ok (.iadd, 1) := by decide +kernel
theorem dX4_blow_113 : decode cX4_blow 113 = .ok (.iload 6, 2) := by decide +kernel
theorem dX4_blow_115 : decode cX4_blow 115 = .ok (.invokevirtual 68, 3) := by decide +kernel
theorem dX4_blow_118 : decode cX4_blow 118 = .ok (.isub, 1) := by decide +kernel
theorem dX4_blow_119 : decode cX4_blow 119 = .ok (.istore 6, 2) := by decide +kernel
theorem dX4_blow_121 : decode cX4_blow 121 = .ok (.iinc 7 1, 3) := by decide +kernel
theorem dX4_blow_124 : decode cX4_blow 124 = .ok (.goto (-30), 3) := by decide +kernel
theorem dX4_blow_127 : decode cX4_blow 127 = .ok (.iload_n 3, 1) := by decide +kernel
theorem dX4_blow_128 : decode cX4_blow 128 = .ok (.iload 6, 2) := by decide +kernel
theorem dX4_blow_130 : decode cX4_blow 130 = .ok (.iadd, 1) := by decide +kernel
theorem dX4_blow_131 : decode cX4_blow 131 = .ok (.istore_n 3, 1) := by decide +kernel
theorem dX4_blow_132 : decode cX4_blow 132 = .ok (.iinc 4 (-1), 3) := by decide +kernel
theorem dX4_blow_135 : decode cX4_blow 135 = .ok (.goto (-125), 3) := by decide +kernel
theorem dX4_blow_138 : decode cX4_blow 138 = .ok (.aload_n 0, 1) := by decide +kernel
theorem dX4_blow_139 : decode cX4_blow 139 = .ok (.getfield 32, 3) := by decide +kernel
theorem dX4_blow_142 : decode cX4_blow 142 = .ok (.iload_n 1, 1) := by decide +kernel
theorem dX4_blow_143 : decode cX4_blow 143 = .ok (.dup2, 1) := by decide +kernel
theorem dX4_blow_144 : decode cX4_blow 144 = .ok (.iaload, 1) := by decide +kernel
theorem dX4_blow_145 : decode cX4_blow 145 = .ok (.iload_n 3, 1) := by decide +kernel
theorem dX4_blow_146 : decode cX4_blow 146 = .ok (.iadd, 1) := by decide +kernel
theorem dX4_blow_147 : decode cX4_blow 147 = .ok (.iastore, 1) := by decide +kernel
theorem dX4_blow_148 : decode cX4_blow 148 = .ok (.iload_n 3, 1) := by decide +kernel
theorem dX4_blow_149 : decode cX4_blow 149 = .ok (.ireturn, 1) := by decide +kernel
theorem dX4_flood_0 : decode cX4_flood 0 = .ok (.iconst 0, 1) := by decide +kernel
theorem dX4_flood_1 : decode cX4_flood 1 = .ok (.istore_n 3, 1) := by decide +kernel
theorem dX4_flood_2 : decode cX4_flood 2 = .ok (.iload_n 3, 1) := by decide +kernel
theorem dX4_flood_3 : decode cX4_flood 3 = .ok (.aload_n 0, 1) := by decide +kernel
theorem dX4_flood_4 : decode cX4_flood 4 = .ok (.getfield 7, 3) := by decide +kernel
theorem dX4_flood_7 : decode cX4_flood 7 = .ok (.if_icmp .ge 82, 3) := by decide +kernel
theorem dX4_flood_10 : decode cX4_flood 10 = .ok (.aload_n 0, 1) := by decide +kernel
theorem dX4_flood_11 : decode cX4_flood 11 = .ok (.getfield 16, 3) := by decide +kernel
theorem dX4_flood_14 : decode cX4_flood 14 = .ok (.bipush 7, 2) := by decide +kernel
theorem dX4_flood_16 : decode cX4_flood 16 = .ok (.iload_n 1, 1) := by decide +kernel
theorem dX4_flood_17 : decode cX4_flood 17 = .ok (.imul, 1) := by decide +kernel
theorem dX4_flood_18 : decode cX4_flood 18 = .ok (.iload_n 3, 1) := by decide +kernel
theorem dX4_flood_19 : decode cX4_flood 19 = .ok (.iadd, 1) := by decide +kernel
theorem dX4_flood_20 : decode cX4_flood 20 = .ok (.iaload, 1) := by decide +kernel
theorem dX4_flood_21 : decode cX4_flood 21 = .ok (.iload_n 2, 1) := by decide +kernel
theorem dX4_flood_22 : decode cX4_flood 22 = .ok (.if_icmp .ge 67, 3) := by decide +kernel
theorem dX4_flood_25 : decode cX4_flood 25 = .ok (.bipush 7, 2) := by decide +kernel
theorem dX4_flood_27 : decode cX4_flood 27 = .ok (.iload_n 1, 1) := by decide +kernel
theorem dX4_flood_28 : decode cX4_flood 28 = .ok (.imul, 1) := by decide +kernel
theorem dX4_flood_29 : decode cX4_flood 29 = .ok (.iload_n 3, 1) := by decide +kernel
theorem dX4_flood_30 : decode cX4_flood 30 = .ok (.iadd, 1) := by decide +kernel
theorem dX4_flood_31 : decode cX4_flood 31 = .ok (.istore 4, 2) := by decide +kernel
theorem dX4_flood_33 : decode cX4_flood 33 = .ok (.aload_n 0, 1) := by decide +kernel
theorem dX4_flood_34 : decode cX4_flood 34 = .ok (.getfield 16, 3) := by decide +kernel
theorem dX4_flood_37 : decode cX4_flood 37 = .ok (.iload 4, 2) := by decide +kernel
theorem dX4_flood_39 : decode cX4_flood 39 = .ok (.iaload, 1) := by decide +kernel
theorem dX4_flood_40 : decode cX4_flood 40 = .ok (.iconst 2, 1) := by decide +kernel
theorem dX4_flood_41 : decode cX4_flood 41 = .ok (.idiv, 1) := by decide +kernel
theorem dX4_flood_42 : decode cX4_flood 42 = .ok (.istore 5, 2) := by decide +kernel
theorem dX4_flood_44 : decode cX4_flood 44 = .ok (.aload_n 0, 1) := by decide +kernel
theorem dX4_flood_45 : decode cX4_flood 45 = .ok (.getfield 16, 3) := by decide +kernel
theorem dX4_flood_48 : decode cX4_flood 48 = .ok (.iload 4, 2) := by decide +kernel
theorem dX4_flood_50 : decode cX4_flood 50 = .ok (.dup2, 1) := by decide +kernel
theorem dX4_flood_51 : decode cX4_flood 51 = .ok (.iaload, 1) := by decide +kernel
theorem dX4_flood_52 : decode cX4_flood 52 = .ok (.iload 5, 2) := by decide +kernel
theorem dX4_flood_54 : decode cX4_flood 54 = .ok (.isub, 1) := by decide +kernel
theorem dX4_flood_55 : decode cX4_flood 55 = .ok (.iastore, 1) := by decide +kernel
theorem dX4_flood_56 : decode cX4_flood 56 = .ok (.aload_n 0, 1) := by decide +kernel
theorem dX4_flood_57 : decode cX4_flood 57 = .ok (.getfield 29, 3) := by decide +kernel
theorem dX4_flood_60 : decode cX4_flood 60 = .ok (.iload_n 1, 1) := by decide +kernel
theorem dX4_flood_61 : decode cX4_flood 61 = .ok (.dup2, 1) := by decide +kernel
theorem dX4_flood_62 : decode cX4_flood 62 = .ok (.iaload, 1) := by decide +kernel
theorem dX4_flood_63 : decode cX4_flood 63 = .ok (.iload 5, 2) := by decide +kernel
theorem dX4_flood_65 : decode cX4_flood 65 = .ok (.iadd, 1) := by decide +kernel
theorem dX4_flood_66 : decode cX4_flood 66 = .ok (.iastore, 1) := by decide +kernel
theorem dX4_flood_67 : decode cX4_flood 67 = .ok (.aload_n 0, 1) := by decide +kernel
theorem dX4_flood_68 : decode cX4_flood 68 = .ok (.getfield 20, 3) := by decide +kernel
theorem dX4_flood_71 : decode cX4_flood 71 = .ok (.iload 4, 2) := by decide +kernel
theorem dX4_flood_73 : decode cX4_flood 73 = .ok (.iconst 0, 1) := by decide +kernel
theorem dX4_flood_74 : decode cX4_flood 74 = .ok (.iastore, 1) := by decide +kernel
theorem dX4_flood_75 : decode cX4_flood 75 = .ok (.aload_n 0, 1) := by decide +kernel
theorem dX4_flood_76 : decode cX4_flood 76 = .ok (.getfield 23, 3) := by decide +kernel
theorem dX4_flood_79 : decode cX4_flood 79 = .ok (.iload 4, 2) := by decide +kernel
theorem dX4_flood_81 : decode cX4_flood 81 = .ok (.iconst 0, 1) := by decide +kernel
theorem dX4_flood_82 : decode cX4_flood 82 = .ok (.iastore, 1) := by decide +kernel
theorem dX4_flood_83 : decode cX4_flood 83 = .ok (.iinc 3 1, 3) := by decide +kernel
theorem dX4_flood_86 : decode cX4_flood 86 = .ok (.goto (-84), 3) := by decide +kernel
theorem dX4_flood_89 : decode cX4_flood 89 = .ok (.iload_n 3, 1) := by decide +kernel
theorem dX4_flood_90 : decode cX4_flood 90 = .ok (.aload_n 0, 1) := by decide +kernel
theorem dX4_flood_91 : decode cX4_flood 91 = .ok (.getfield 7, 3) := by decide +kernel
theorem dX4_flood_94 : decode cX4_flood 94 = .ok (.if_icmp .ne 16, 3) := by decide +kernel
theorem dX4_flood_97 : decode cX4_flood 97 = .ok (.aload_n 0, 1) := by decide +kernel
theorem dX4_flood_98 : decode cX4_flood 98 = .ok (.getfield 35, 3) := by decide +kernel
theorem dX4_flood_101 : decode cX4_flood 101 = .ok (.iload_n 1, 1) := by decide +kernel
theorem dX4_flood_102 : decode cX4_flood 102 = .ok (.dup2, 1) := by decide +kernel
theorem dX4_flood_103 : decode cX4_flood 103 = .ok (.iaload, 1) := by decide +kernel
theorem dX4_flood_104 : decode cX4_flood 104 = .ok (.iconst 1, 1) := by decide +kernel
theorem dX4_flood_105 : decode cX4_flood 105 = .ok (.iadd, 1) := by decide +kernel
theorem dX4_flood_106 : decode cX4_flood 106 = .ok (.iastore, 1) := by decide +kernel
theorem dX4_flood_107 : decode cX4_flood 107 = .ok (.goto 32, 3) := by decide +kernel
theorem dX4_flood_110 : decode cX4_flood 110 = .ok (.aload_n 0, 1) := by decide +kernel
theorem dX4_flood_111 : decode cX4_flood 111 = .ok (.getfield 16, 3) := by decide +kernel
theorem dX4_flood_114 : decode cX4_flood 114 = .ok (.bipush 7, 2) := by decide +kernel
theorem dX4_flood_116 : decode cX4_flood 116 = .ok (.iload_n 1, 1) := by decide +kernel
theorem dX4_flood_117 : decode cX4_flood 117 = .ok (.imul, 1) := by decide +kernel
theorem dX4_flood_118 : decode cX4_flood 118 = .ok (.iload_n 3, 1) := by decide +kernel
theorem dX4_flood_119 : decode cX4_flood 119 = .ok (.iadd, 1) := by decide +kernel
theorem dX4_flood_120 : decode cX4_flood 120 = .ok (.dup2, 1) := by decide +kernel
theorem dX4_flood_121 : decode cX4_flood 121 = .ok (.iaload, 1) := by decide +kernel
theorem dX4_flood_122 : decode cX4_flood 122 = .ok (.iload_n 2, 1) := by decide +kernel
theorem dX4_flood_123 : decode cX4_flood 123 = .ok (.iconst 4, 1) := by decide +kernel
theorem dX4_flood_124 : decode cX4_flood 124 = .ok (.idiv, 1) := by decide +kernel
theorem dX4_flood_125 : decode cX4_flood 125 = .ok (.isub, 1) := by decide +kernel
theorem dX4_flood_126 : decode cX4_flood 126 = .ok (.iastore, 1) := by decide +kernel
theorem dX4_flood_127 : decode cX4_flood 127 = .ok (.aload_n 0, 1) := by decide +kernel
theorem dX4_flood_128 : decode cX4_flood 128 = .ok (.getfield 29, 3) := by decide +kernel
theorem dX4_flood_131 : decode cX4_flood 131 = .ok (.iload_n 1, 1) := by decide +kernel
theorem dX4_flood_132 : decode cX4_flood 132 = .ok (.dup2, 1) := by decide +kernel
theorem dX4_flood_133 : decode cX4_flood 133 = .ok (.iaload, 1) := by decide +kernel
theorem dX4_flood_134 : decode cX4_flood 134 = .ok (.iload_n 2, 1) := by decide +kernel
theorem dX4_flood_135 : decode cX4_flood 135 = .ok (.iconst 4, 1) := by decide +kernel
theorem dX4_flood_136 : decode cX4_flood 136 = .ok (.idiv, 1) := by decide +kernel
theorem dX4_flood_137 : decode cX4_flood 137 = .ok (.iadd, 1) := by decide +kernel
theorem dX4_flood_138 : decode cX4_flood 138 = .ok (.iastore, 1) := by decide +kernel
theorem dX4_flood_139 : decode cX4_flood 139 = .ok (.iload_n 3, 1) := by decide +kernel
theorem dX4_flood_140 : decode cX4_flood 140 = .ok (.ireturn, 1) := by decide +kernel
set_option maxRecDepth 20000 in
theorem ggX4_endYear_X4_in : GoodIn wsX4_endYear wsX4_in := goodIn_r _ [7] (by decide +kernel) (by decide +kernel)
set_option maxRecDepth 20000 in
theorem gX4_endYear_X4_in : GoodIn wsX4_endYear (va_wsS RX4 60 yX4_in wsX4_in) := goodIn_app (goodIn_of _ (by decide +kernel)) ggX4_endYear_X4_in
theorem dX4_endYear_0 : decode cX4_endYear 0 = .ok (.iconst 0, 1) := by decide +kernel
theorem dX4_endYear_1 : decode cX4_endYear 1 = .ok (.istore_n 2, 1) := by decide +kernel
theorem dX4_endYear_2 : decode cX4_endYear 2 = .ok (.bipush 7, 2) := by decide +kernel
theorem dX4_endYear_4 : decode cX4_endYear 4 = .ok (.iload_n 1, 1) := by decide +kernel
theorem dX4_endYear_5 : decode cX4_endYear 5 = .ok (.imul, 1) := by decide +kernel
theorem dX4_endYear_6 : decode cX4_endYear 6 = .ok (.istore_n 3, 1) := by decide +kernel
theorem dX4_endYear_7 : decode cX4_endYear 7 = .ok (.iload_n 3, 1) := by decide +kernel
theorem dX4_endYear_8 : decode cX4_endYear 8 = .ok (.bipush 7, 2) := by decide +kernel
theorem dX4_endYear_10 : decode cX4_endYear 10 = .ok (.iload_n 1, 1) := by decide +kernel
theorem dX4_endYear_11 : decode cX4_endYear 11 = .ok (.imul, 1) := by decide +kernel
theorem dX4_endYear_12 : decode cX4_endYear 12 = .ok (.aload_n 0, 1) := by decide +kernel
theorem dX4_endYear_13 : decode cX4_endYear 13 = .ok (.getfield 7, 3) := by decide +kernel
theorem dX4_endYear_16 : decode cX4_endYear 16 = .ok (.iadd, 1) := by decide +kernel
theorem dX4_endYear_17 : decode cX4_endYear 17 = .ok (.if_icmp .ge 98, 3) := by decide +kernel
theorem dX4_endYear_20 : decode cX4_endYear 20 = .ok (.aload_n 0, 1) := by decide +kernel
theorem dX4_endYear_21 : decode cX4_endYear 21 = .ok (.getfield 20, 3) := by decide +kernel
theorem dX4_endYear_24 : decode cX4_endYear 24 = .ok (.iload_n 3, 1) := by decide +kernel
theorem dX4_endYear_25 : decode cX4_endYear 25 = .ok (.iaload, 1) := by decide +kernel
theorem dX4_endYear_26 : decode cX4_endYear 26 = .ok (.istore 4, 2) := by decide +kernel
theorem dX4_endYear_28 : decode cX4_endYear 28 = .ok (.iload 4, 2) := by decide +kernel
theorem dX4_endYear_30 : decode cX4_endYear 30 = .ok (.ifCond .le 35, 3) := by decide +kernel
theorem dX4_endYear_33 : decode cX4_endYear 33 = .ok (.aload_n 0, 1) := by decide +kernel
theorem dX4_endYear_34 : decode cX4_endYear 34 = .ok (.getfield 26, 3) := by decide +kernel
theorem dX4_endYear_37 : decode cX4_endYear 37 = .ok (.iload_n 3, 1) := by decide +kernel
theorem dX4_endYear_38 : decode cX4_endYear 38 = .ok (.iaload, 1) := by decide +kernel
theorem dX4_endYear_39 : decode cX4_endYear 39 = .ok (.iconst 1, 1) := by decide +kernel
theorem dX4_endYear_40 : decode cX4_endYear 40 = .ok (.bipush 9, 2) := by decide +kernel
theorem dX4_endYear_42 : decode cX4_endYear 42 = .ok (.invokestatic 60, 3) := by decide +kernel
theorem dX4_endYear_45 : decode cX4_endYear 45 = .ok (.ifCond .eq 20, 3) := by decide +kernel
theorem dX4_endYear_48 : decode cX4_endYear 48 = .ok (.iload 4, 2) := by decide +kernel
theorem dX4_endYear_50 : decode cX4_endYear 50 = .ok (.bipush 9, 2) := by decide +kernel
theorem dX4_endYear_52 : decode cX4_endYear 52 = .ok (.if_icmp .ge 13, 3) := by decide +kernel
theorem dX4_endYear_55 : decode cX4_endYear 55 = .ok (.aload_n 0, 1) := by decide +kernel
theorem dX4_endYear_56 : decode cX4_endYear 56 = .ok (.getfield 20, 3) := by decide +kernel
theorem dX4_endYear_59 : decode cX4_endYear 59 = .ok (.iload_n 3, 1) := by decide +kernel
theorem dX4_endYear_60 : decode cX4_endYear 60 = .ok (.iload 4, 2) := by decide +kernel
theorem dX4_endYear_62 : decode cX4_endYear 62 = .ok (.iconst 1, 1) := by decide +kernel
theorem dX4_endYear_63 : decode cX4_endYear 63 = .ok (.iadd, 1) := by decide +kernel
theorem dX4_endYear_64 : decode cX4_endYear 64 = .ok (.iastore, 1) := by decide +kernel
theorem dX4_endYear_65 : decode cX4_endYear 65 = .ok (.aload_n 0, 1) := by decide +kernel
theorem dX4_endYear_66 : decode cX4_endYear 66 = .ok (.getfield 26, 3) := by decide +kernel
theorem dX4_endYear_69 : decode cX4_endYear 69 = .ok (.iload_n 3, 1) := by decide +kernel
theorem dX4_endYear_70 : decode cX4_endYear 70 = .ok (.iaload, 1) := by decide +kernel
theorem dX4_endYear_71 : decode cX4_endYear 71 = .ok (.bipush 30, 2) := by decide +kernel
theorem dX4_endYear_73 : decode cX4_endYear 73 = .ok (.if_icmp .le 10, 3) := by decide +kernel
theorem dX4_endYear_76 : decode cX4_endYear 76 = .ok (.aload_n 0, 1) := by decide +kernel
theorem dX4_endYear_77 : decode cX4_endYear 77 = .ok (.getfield 20, 3) := by decide +kernel
theorem dX4_endYear_80 : decode cX4_endYear 80 = .ok (.iload_n 3, 1) := by decide +kernel
theorem dX4_endYear_81 : decode cX4_endYear 81 = .ok (.iconst 0, 1) := by decide +kernel
theorem dX4_endYear_82 : decode cX4_endYear 82 = .ok (.iastore, 1) := by decide +kernel
theorem dX4_endYear_83 : decode cX4_endYear 83 = .ok (.iload_n 2, 1) := by decide +kernel
theorem dX4_endYear_84 : decode cX4_endYear 84 = .ok (.aload_n 0, 1) := by decide +kernel
theorem dX4_endYear_85 : decode cX4_endYear 85 = .ok (.getfield 20, 3) := by decide +kernel
theorem dX4_endYear_88 : decode cX4_endYear 88 = .ok (.iload_n 3, 1) := by decide +kernel
theorem dX4_endYear_89 : decode cX4_endYear 89 = .ok (.iaload, 1) := by decide +kernel
theorem dX4_endYear_90 : decode cX4_endYear 90 = .ok (.iload 4, 2) := by decide +kernel
theorem dX4_endYear_92 : decode cX4_endYear 92 = .ok (.if_icmp .eq 7, 3) := by decide +kernel
theorem dX4_endYear_95 : decode cX4_endYear 95 = .ok (.iconst 1, 1) := by decide +kernel
theorem dX4_endYear_96 : decode cX4_endYear 96 = .ok (.goto 4, 3) := by decide +kernel
theorem dX4_endYear_99 : decode cX4_endYear 99 = .ok (.iconst 0, 1) := by decide +kernel
theorem dX4_endYear_100 : decode cX4_endYear 100 = .ok (.iadd, 1) := by decide +kernel
theorem dX4_endYear_101 : decode cX4_endYear 101 = .ok (.istore_n 2, 1) := by decide +kernel
theorem dX4_endYear_102 : decode cX4_endYear 102 = .ok (.aload_n 0, 1) := by decide +kernel
theorem dX4_endYear_103 : decode cX4_endYear 103 = .ok (.getfield 26, 3) := by decide +kernel
theorem dX4_endYear_106 : decode cX4_endYear 106 = .ok (.iload_n 3, 1) := by decide +kernel
theorem dX4_endYear_107 : decode cX4_endYear 107 = .ok (.iconst 0, 1) := by decide +kernel
theorem dX4_endYear_108 : decode cX4_endYear 108 = .ok (.iastore, 1) := by decide +kernel
theorem dX4_endYear_109 : decode cX4_endYear 109 = .ok (.iinc 3 1, 3) := by decide +kernel
theorem dX4_endYear_112 : decode cX4_endYear 112 = .ok (.goto (-105), 3) := by decide +kernel
theorem dX4_endYear_115 : decode cX4_endYear 115 = .ok (.iload_n 2, 1) := by decide +kernel
theorem dX4_endYear_116 : decode cX4_endYear 116 = .ok (.ireturn, 1) := by decide +kernel
set_option maxRecDepth 20000 in
theorem ggX4_wind_X4_in : GoodIn wsX4_wind wsX4_in := goodIn_r _ [4] (by decide +kernel) (by decide +kernel)
set_option maxRecDepth 20000 in
theorem gX4_wind_X4_in : GoodIn wsX4_wind (va_wsS RX4 60 yX4_in wsX4_in) := goodIn_app (goodIn_of _ (by decide +kernel)) ggX4_wind_X4_in
set_option maxRecDepth 20000 in
theorem ggX4_wind_X4_blow : GoodIn wsX4_wind wsX4_blow := goodIn_r _ [8, 9, 10, 11, 12, 13, 14, 15, 3, 16, 17, 18, 19, 20, 21, 22, 23, 24, 25, 26, 27, 28, 29, 30, 31, 32, 33, 34] (by decide +kernel) (by decide +kernel)
set_option maxRecDepth 20000 in
theorem gX4_wind_X4_blow : GoodIn wsX4_wind (wsV RX4 72 RX4 yX4_blow wsX4_blow) := goodIn_app (goodIn_of _ (by decide +kernel)) ggX4_wind_X4_blow
theorem dX4_wind_0 : decode cX4_wind 0 = .ok (.iload_n 1, 1) := by decide +kernel
theorem dX4_wind_1 : decode cX4_wind 1 = .ok (.iconst 1, 1) := by decide +kernel
theorem dX4_wind_2 : decode cX4_wind 2 = .ok (.bipush 9, 2) := by decide +kernel
theorem dX4_wind_4 : decode cX4_wind 4 = .ok (.invokestatic 60, 3) := by decide +kernel
theorem dX4_wind_7 : decode cX4_wind 7 = .ok (.ifCond .eq 12, 3) := by decide +kernel
theorem dX4_wind_10 : decode cX4_wind 10 = .ok (.aload_n 0, 1) := by decide +kernel
theorem dX4_wind_11 : decode cX4_wind 11 = .ok (.iconst 0, 1) := by decide +kernel
theorem dX4_wind_12 : decode cX4_wind 12 = .ok (.iload_n 1, 1) := by decide +kernel
theorem dX4_wind_13 : decode cX4_wind 13 = .ok (.invokevirtual 72, 3) := by decide +kernel
theorem dX4_wind_16 : decode cX4_wind 16 = .ok (.goto 4, 3) := by decide +kernel
theorem dX4_wind_19 : decode cX4_wind 19 = .ok (.iconst (-1), 1) := by decide +kernel
theorem dX4_wind_20 : decode cX4_wind 20 = .ok (.ireturn, 1) := by decide +kernel
set_option maxRecDepth 20000 in
theorem ggX4_storm_X4_in : GoodIn wsX4_storm wsX4_in := goodIn_r _ [4] (by decide +kernel) (by decide +kernel)
set_option maxRecDepth 20000 in
theorem gX4_storm_X4_in : GoodIn wsX4_storm (va_wsS RX4 60 yX4_in wsX4_in) := goodIn_app (goodIn_of _ (by decide +kernel)) ggX4_storm_X4_in
set_option maxRecDepth 20000 in
theorem ggX4_storm_X4_flood : GoodIn wsX4_storm wsX4_flood := goodIn_r _ [8, 9, 10, 11, 12, 13, 14, 15, 16, 17, 18, 19, 20, 21, 22, 23, 24, 25, 26, 27, 28, 29, 30] (by decide +kernel) (by decide +kernel)
set_option maxRecDepth 20000 in
theorem gX4_storm_X4_flood : GoodIn wsX4_storm (wsV RX4 75 RX4 yX4_flood wsX4_flood) := goodIn_app (goodIn_of _ (by decide +kernel)) ggX4_storm_X4_flood
theorem dX4_storm_0 : decode cX4_storm 0 = .ok (.iload_n 1, 1) := by decide +kernel
theorem dX4_storm_1 : decode cX4_storm 1 = .ok (.iconst 1, 1) := by decide +kernel
theorem dX4_storm_2 : decode cX4_storm 2 = .ok (.bipush 99, 2) := by decide +kernel
theorem dX4_storm_4 : decode cX4_storm 4 = .ok (.invokestatic 60, 3) := by decide +kernel
theorem dX4_storm_7 : decode cX4_storm 7 = .ok (.ifCond .eq 12, 3) := by decide +kernel
theorem dX4_storm_10 : decode cX4_storm 10 = .ok (.aload_n 0, 1) := by decide +kernel
theorem dX4_storm_11 : decode cX4_storm 11 = .ok (.iconst 0, 1) := by decide +kernel
theorem dX4_storm_12 : decode cX4_storm 12 = .ok (.iload_n 1, 1) := by decide +kernel
theorem dX4_storm_13 : decode cX4_storm 13 = .ok (.invokevirtual 75, 3) := by decide +kernel
theorem dX4_storm_16 : decode cX4_storm 16 = .ok (.goto 4, 3) := by decide +kernel
theorem dX4_storm_19 : decode cX4_storm 19 = .ok (.iconst (-1), 1) := by decide +kernel
theorem dX4_storm_20 : decode cX4_storm 20 = .ok (.ireturn, 1) := by decide +kernel
set_option maxRecDepth 20000 in
theorem ggX4_end_X4_endYear : GoodIn wsX4_end wsX4_endYear := goodIn_r _ [5, 6, 7, 8, 9, 10, 4, 11, 12, 13, 14, 15, 16, 17, 18, 19, 20, 21, 22, 23, 24, 25, 26, 27] (by decide +kernel) (by decide +kernel)
set_option maxRecDepth 20000 in
theorem gX4_end_X4_endYear : GoodIn wsX4_end (wsV RX4 78 RX4 yX4_endYear wsX4_endYear) := goodIn_app (goodIn_of _ (by decide +kernel)) ggX4_end_X4_endYear
theorem dX4_end_0 : decode cX4_end 0 = .ok (.aload_n 0, 1) := by decide +kernel
theorem dX4_end_1 : decode cX4_end 1 = .ok (.iconst 0, 1) := by decide +kernel
theorem dX4_end_2 : decode cX4_end 2 = .ok (.invokevirtual 78, 3) := by decide +kernel
theorem dX4_end_5 : decode cX4_end 5 = .ok (.ireturn, 1) := by decide +kernel
set_option maxRecDepth 20000 in
theorem ggX4_nourish_X4_in : GoodIn wsX4_nourish wsX4_in := goodIn_r _ [5] (by decide +kernel) (by decide +kernel)
set_option maxRecDepth 20000 in
theorem gX4_nourish_X4_in : GoodIn wsX4_nourish (va_wsS RX4 60 yX4_in wsX4_in) := goodIn_app (goodIn_of _ (by decide +kernel)) ggX4_nourish_X4_in
theorem dX4_nourish_0 : decode cX4_nourish 0 = .ok (.iload_n 1, 1) := by decide +kernel
theorem dX4_nourish_1 : decode cX4_nourish 1 = .ok (.iconst 1, 1) := by decide +kernel
theorem dX4_nourish_2 : decode cX4_nourish 2 = .ok (.bipush 99, 2) := by decide +kernel
theorem dX4_nourish_4 : decode cX4_nourish 4 = .ok (.invokestatic 60, 3) := by decide +kernel
theorem dX4_nourish_7 : decode cX4_nourish 7 = .ok (.ifCond .ne 5, 3) := by decide +kernel
theorem dX4_nourish_10 : decode cX4_nourish 10 = .ok (.iconst (-1), 1) := by decide +kernel
theorem dX4_nourish_11 : decode cX4_nourish 11 = .ok (.ireturn, 1) := by decide +kernel
theorem dX4_nourish_12 : decode cX4_nourish 12 = .ok (.iload_n 1, 1) := by decide +kernel
theorem dX4_nourish_13 : decode cX4_nourish 13 = .ok (.bipush 99, 2) := by decide +kernel
theorem dX4_nourish_15 : decode cX4_nourish 15 = .ok (.aload_n 0, 1) := by decide +kernel
theorem dX4_nourish_16 : decode cX4_nourish 16 = .ok (.getfield 16, 3) := by decide +kernel
theorem dX4_nourish_19 : decode cX4_nourish 19 = .ok (.iconst 0, 1) := by decide +kernel
theorem dX4_nourish_20 : decode cX4_nourish 20 = .ok (.iaload, 1) := by decide +kernel
theorem dX4_nourish_21 : decode cX4_nourish 21 = .ok (.isub, 1) := by decide +kernel
theorem dX4_nourish_22 : decode cX4_nourish 22 = .ok (.if_icmp .ge 7, 3) := by decide +kernel
theorem dX4_nourish_25 : decode cX4_nourish 25 = .ok (.iload_n 1, 1) := by decide +kernel
theorem dX4_nourish_26 : decode cX4_nourish 26 = .ok (.goto 12, 3) := by decide +kernel
theorem dX4_nourish_29 : decode cX4_nourish 29 = .ok (.bipush 99, 2) := by decide +kernel
theorem dX4_nourish_31 : decode cX4_nourish 31 = .ok (.aload_n 0, 1) := by decide +kernel
theorem dX4_nourish_32 : decode cX4_nourish 32 = .ok (.getfield 16, 3) := by decide +kernel
theorem dX4_nourish_35 : decode cX4_nourish 35 = .ok (.iconst 0, 1) := by decide +kernel
theorem dX4_nourish_36 : decode cX4_nourish 36 = .ok (.iaload, 1) := by decide +kernel
theorem dX4_nourish_37 : decode cX4_nourish 37 = .ok (.isub, 1) := by decide +kernel
theorem dX4_nourish_38 : decode cX4_nourish 38 = .ok (.istore_n 2, 1) := by decide +kernel
theorem dX4_nourish_39 : decode cX4_nourish 39 = .ok (.aload_n 0, 1) := by decide +kernel
theorem dX4_nourish_40 : decode cX4_nourish 40 = .ok (.getfield 16, 3) := by decide +kernel
theorem dX4_nourish_43 : decode cX4_nourish 43 = .ok (.iconst 0, 1) := by decide +kernel
theorem dX4_nourish_44 : decode cX4_nourish 44 = .ok (.dup2, 1) := by decide +kernel
theorem dX4_nourish_45 : decode cX4_nourish 45 = .ok (.iaload, 1) := by decide +kernel
theorem dX4_nourish_46 : decode cX4_nourish 46 = .ok (.iload_n 2, 1) := by decide +kernel
theorem dX4_nourish_47 : decode cX4_nourish 47 = .ok (.iadd, 1) := by decide +kernel
theorem dX4_nourish_48 : decode cX4_nourish 48 = .ok (.iastore, 1) := by decide +kernel
theorem dX4_nourish_49 : decode cX4_nourish 49 = .ok (.iload_n 2, 1) := by decide +kernel
theorem dX4_nourish_50 : decode cX4_nourish 50 = .ok (.ireturn, 1) := by decide +kernel
set_option maxRecDepth 20000 in
theorem ggX4_event_X4_isWeather : GoodIn wsX4_event wsX4_isWeather := goodIn_r _ [7, 8, 9, 6, 10] (by decide +kernel) (by decide +kernel)
set_option maxRecDepth 20000 in
theorem gX4_event_X4_isWeather : GoodIn wsX4_event (va_wsS RX4 82 yX4_isWeather wsX4_isWeather) := goodIn_app (goodIn_of _ (by decide +kernel)) ggX4_event_X4_isWeather
set_option maxRecDepth 20000 in
theorem ggX4_event_X4_in : GoodIn wsX4_event wsX4_in := goodIn_r _ [10] (by decide +kernel) (by decide +kernel)
set_option maxRecDepth 20000 in
theorem gX4_event_X4_in : GoodIn wsX4_event (va_wsS RX4 60 yX4_in wsX4_in) := goodIn_app (goodIn_of _ (by decide +kernel)) ggX4_event_X4_in
theorem dX4_event_0 : decode cX4_event 0 = .ok (.iload_n 1, 1) := by decide +kernel
theorem dX4_event_1 : decode cX4_event 1 = .ok (.invokestatic 82, 3) := by decide +kernel
theorem dX4_event_4 : decode cX4_event 4 = .ok (.ifCond .eq 36, 3) := by decide +kernel
theorem dX4_event_7 : decode cX4_event 7 = .ok (.iload_n 2, 1) := by decide +kernel
theorem dX4_event_8 : decode cX4_event 8 = .ok (.iconst 0, 1) := by decide +kernel
theorem dX4_event_9 : decode cX4_event 9 = .ok (.iconst 2, 1) := by decide +kernel
theorem dX4_event_10 : decode cX4_event 10 = .ok (.invokestatic 60, 3) := by decide +kernel
theorem dX4_event_13 : decode cX4_event 13 = .ok (.ifCond .eq 27, 3) := by decide +kernel
theorem dX4_event_16 : decode cX4_event 16 = .ok (.iload_n 2, 1) := by decide +kernel
theorem dX4_event_17 : decode cX4_event 17 = .ok (.iconst 2, 1) := by decide +kernel
theorem dX4_event_18 : decode cX4_event 18 = .ok (.if_icmp .ge 24, 3) := by decide +kernel
theorem dX4_event_21 : decode cX4_event 21 = .ok (.iload_n 3, 1) := by decide +kernel
theorem dX4_event_22 : decode cX4_event 22 = .ok (.iconst 1, 1) := by decide +kernel
theorem dX4_event_23 : decode cX4_event 23 = .ok (.iload_n 2, 1) := by decide +kernel
theorem dX4_event_24 : decode cX4_event 24 = .ok (.ifCond .ne 8, 3) := by decide +kernel
theorem dX4_event_27 : decode cX4_event 27 = .ok (.bipush 9, 2) := by decide +kernel
theorem dX4_event_29 : decode cX4_event 29 = .ok (.goto 5, 3) := by decide +kernel
theorem dX4_event_32 : decode cX4_event 32 = .ok (.bipush 99, 2) := by decide +kernel
theorem dX4_event_34 : decode cX4_event 34 = .ok (.invokestatic 60, 3) := by decide +kernel
theorem dX4_event_37 : decode cX4_event 37 = .ok (.ifCond .ne 5, 3) := by decide +kernel
theorem dX4_event_40 : decode cX4_event 40 = .ok (.iconst (-1), 1) := by decide +kernel
theorem dX4_event_41 : decode cX4_event 41 = .ok (.ireturn, 1) := by decide +kernel
theorem dX4_event_42 : decode cX4_event 42 = .ok (.aload_n 0, 1) := by decide +kernel
theorem dX4_event_43 : decode cX4_event 43 = .ok (.getfield 38, 3) := by decide +kernel
theorem dX4_event_46 : decode cX4_event 46 = .ok (.iload_n 1, 1) := by decide +kernel
theorem dX4_event_47 : decode cX4_event 47 = .ok (.iaload, 1) := by decide +kernel
theorem dX4_event_48 : decode cX4_event 48 = .ok (.bipush 12, 2) := by decide +kernel
theorem dX4_event_50 : decode cX4_event 50 = .ok (.if_icmp .ne 6, 3) := by decide +kernel
theorem dX4_event_53 : decode cX4_event 53 = .ok (.bipush (-2), 2) := by decide +kernel
theorem dX4_event_55 : decode cX4_event 55 = .ok (.ireturn, 1) := by decide +kernel
theorem dX4_event_56 : decode cX4_event 56 = .ok (.aload_n 0, 1) := by decide +kernel
theorem dX4_event_57 : decode cX4_event 57 = .ok (.getfield 41, 3) := by decide +kernel
theorem dX4_event_60 : decode cX4_event 60 = .ok (.bipush 12, 2) := by decide +kernel
theorem dX4_event_62 : decode cX4_event 62 = .ok (.iload_n 1, 1) := by decide +kernel
theorem dX4_event_63 : decode cX4_event 63 = .ok (.imul, 1) := by decide +kernel
theorem dX4_event_64 : decode cX4_event 64 = .ok (.aload_n 0, 1) := by decide +kernel
theorem dX4_event_65 : decode cX4_event 65 = .ok (.getfield 38, 3) := by decide +kernel
theorem dX4_event_68 : decode cX4_event 68 = .ok (.iload_n 1, 1) := by decide +kernel
theorem dX4_event_69 : decode cX4_event 69 = .ok (.iaload, 1) := by decide +kernel
theorem dX4_event_70 : decode cX4_event 70 = .ok (.iadd, 1) := by decide +kernel
theorem dX4_event_71 : decode cX4_event 71 = .ok (.iload_n 2, 1) := by decide +kernel
theorem dX4_event_72 : decode cX4_event 72 = .ok (.iastore, 1) := by decide +kernel
theorem dX4_event_73 : decode cX4_event 73 = .ok (.aload_n 0, 1) := by decide +kernel
theorem dX4_event_74 : decode cX4_event 74 = .ok (.getfield 44, 3) := by decide +kernel
theorem dX4_event_77 : decode cX4_event 77 = .ok (.bipush 12, 2) := by decide +kernel
theorem dX4_event_79 : decode cX4_event 79 = .ok (.iload_n 1, 1) := by decide +kernel
theorem dX4_event_80 : decode cX4_event 80 = .ok (.imul, 1) := by decide +kernel
theorem dX4_event_81 : decode cX4_event 81 = .ok (.aload_n 0, 1) := by decide +kernel
theorem dX4_event_82 : decode cX4_event 82 = .ok (.getfield 38, 3) := by decide +kernel
theorem dX4_event_85 : decode cX4_event 85 = .ok (.iload_n 1, 1) := by decide +kernel
theorem dX4_event_86 : decode cX4_event 86 = .ok (.iaload, 1) := by decide +kernel
theorem dX4_event_87 : decode cX4_event 87 = .ok (.iadd, 1) := by decide +kernel
theorem dX4_event_88 : decode cX4_event 88 = .ok (.iload_n 3, 1) := by decide +kernel
theorem dX4_event_89 : decode cX4_event 89 = .ok (.iastore, 1) := by decide +kernel
theorem dX4_event_90 : decode cX4_event 90 = .ok (.aload_n 0, 1) := by decide +kernel
theorem dX4_event_91 : decode cX4_event 91 = .ok (.getfield 38, 3) := by decide +kernel
theorem dX4_event_94 : decode cX4_event 94 = .ok (.iload_n 1, 1) := by decide +kernel
theorem dX4_event_95 : decode cX4_event 95 = .ok (.dup2, 1) := by decide +kernel
theorem dX4_event_96 : decode cX4_event 96 = .ok (.iaload, 1) := by decide +kernel
theorem dX4_event_97 : decode cX4_event 97 = .ok (.iconst 1, 1) := by decide +kernel
theorem dX4_event_98 : decode cX4_event 98 = .ok (.iadd, 1) := by decide +kernel
theorem dX4_event_99 : decode cX4_event 99 = .ok (.iastore, 1) := by decide +kernel
theorem dX4_event_100 : decode cX4_event 100 = .ok (.aload_n 0, 1) := by decide +kernel
theorem dX4_event_101 : decode cX4_event 101 = .ok (.getfield 38, 3) := by decide +kernel
theorem dX4_event_104 : decode cX4_event 104 = .ok (.iload_n 1, 1) := by decide +kernel
theorem dX4_event_105 : decode cX4_event 105 = .ok (.iaload, 1) := by decide +kernel
theorem dX4_event_106 : decode cX4_event 106 = .ok (.ireturn, 1) := by decide +kernel
set_option maxRecDepth 20000 in
theorem ggX4_calm_X4_isWeather : GoodIn wsX4_calm wsX4_isWeather := goodIn_r _ [5, 6, 7, 4, 8] (by decide +kernel) (by decide +kernel)
set_option maxRecDepth 20000 in
theorem gX4_calm_X4_isWeather : GoodIn wsX4_calm (va_wsS RX4 82 yX4_isWeather wsX4_isWeather) := goodIn_app (goodIn_of _ (by decide +kernel)) ggX4_calm_X4_isWeather
theorem dX4_calm_0 : decode cX4_calm 0 = .ok (.iload_n 1, 1) := by decide +kernel
theorem dX4_calm_1 : decode cX4_calm 1 = .ok (.invokestatic 82, 3) := by decide +kernel
theorem dX4_calm_4 : decode cX4_calm 4 = .ok (.ifCond .ne 5, 3) := by decide +kernel
theorem dX4_calm_7 : decode cX4_calm 7 = .ok (.iconst (-1), 1) := by decide +kernel
theorem dX4_calm_8 : decode cX4_calm 8 = .ok (.ireturn, 1) := by decide +kernel
theorem dX4_calm_9 : decode cX4_calm 9 = .ok (.aload_n 0, 1) := by decide +kernel
theorem dX4_calm_10 : decode cX4_calm 10 = .ok (.getfield 38, 3) := by decide +kernel
theorem dX4_calm_13 : decode cX4_calm 13 = .ok (.iload_n 1, 1) := by decide +kernel
theorem dX4_calm_14 : decode cX4_calm 14 = .ok (.iaload, 1) := by decide +kernel
theorem dX4_calm_15 : decode cX4_calm 15 = .ok (.istore_n 2, 1) := by decide +kernel
theorem dX4_calm_16 : decode cX4_calm 16 = .ok (.aload_n 0, 1) := by decide +kernel
theorem dX4_calm_17 : decode cX4_calm 17 = .ok (.getfield 38, 3) := by decide +kernel
theorem dX4_calm_20 : decode cX4_calm 20 = .ok (.iload_n 1, 1) := by decide +kernel
theorem dX4_calm_21 : decode cX4_calm 21 = .ok (.iconst 0, 1) := by decide +kernel
theorem dX4_calm_22 : decode cX4_calm 22 = .ok (.iastore, 1) := by decide +kernel
theorem dX4_calm_23 : decode cX4_calm 23 = .ok (.iload_n 2, 1) := by decide +kernel
theorem dX4_calm_24 : decode cX4_calm 24 = .ok (.ireturn, 1) := by decide +kernel
set_option maxRecDepth 20000 in
theorem ggX4_size_X4_in : GoodIn wsX4_size wsX4_in := goodIn_r _ [5] (by decide +kernel) (by decide +kernel)
set_option maxRecDepth 20000 in
theorem gX4_size_X4_in : GoodIn wsX4_size (va_wsS RX4 60 yX4_in wsX4_in) := goodIn_app (goodIn_of _ (by decide +kernel)) ggX4_size_X4_in
theorem dX4_size_0 : decode cX4_size 0 = .ok (.iload_n 1, 1) := by decide +kernel
theorem dX4_size_1 : decode cX4_size 1 = .ok (.iconst 1, 1) := by decide +kernel
theorem dX4_size_2 : decode cX4_size 2 = .ok (.bipush 20, 2) := by decide +kernel
theorem dX4_size_4 : decode cX4_size 4 = .ok (.invokestatic 60, 3) := by decide +kernel
theorem dX4_size_7 : decode cX4_size 7 = .ok (.ifCond .ne 5, 3) := by decide +kernel
theorem dX4_size_10 : decode cX4_size 10 = .ok (.iconst (-1), 1) := by decide +kernel
theorem dX4_size_11 : decode cX4_size 11 = .ok (.ireturn, 1) := by decide +kernel
theorem dX4_size_12 : decode cX4_size 12 = .ok (.aload_n 0, 1) := by decide +kernel
theorem dX4_size_13 : decode cX4_size 13 = .ok (.getfield 13, 3) := by decide +kernel
theorem dX4_size_16 : decode cX4_size 16 = .ok (.istore_n 2, 1) := by decide +kernel
theorem dX4_size_17 : decode cX4_size 17 = .ok (.aload_n 0, 1) := by decide +kernel
theorem dX4_size_18 : decode cX4_size 18 = .ok (.iload_n 1, 1) := by decide +kernel
theorem dX4_size_19 : decode cX4_size 19 = .ok (.putfield 13, 3) := by decide +kernel
theorem dX4_size_22 : decode cX4_size 22 = .ok (.iload_n 2, 1) := by decide +kernel
theorem dX4_size_23 : decode cX4_size 23 = .ok (.ireturn, 1) := by decide +kernel
theorem dX4_setFence_0 : decode cX4_setFence 0 = .ok (.iload_n 1, 1) := by decide +kernel
theorem dX4_setFence_1 : decode cX4_setFence 1 = .ok (.iconst 3, 1) := by decide +kernel
theorem dX4_setFence_2 : decode cX4_setFence 2 = .ok (.if_icmp .ge 30, 3) := by decide +kernel
theorem dX4_setFence_5 : decode cX4_setFence 5 = .ok (.aload_n 0, 1) := by decide +kernel
theorem dX4_setFence_6 : decode cX4_setFence 6 = .ok (.getfield 50, 3) := by decide +kernel
theorem dX4_setFence_9 : decode cX4_setFence 9 = .ok (.iload_n 1, 1) := by decide +kernel
theorem dX4_setFence_10 : decode cX4_setFence 10 = .ok (.iaload, 1) := by decide +kernel
theorem dX4_setFence_11 : decode cX4_setFence 11 = .ok (.ifCond .lt 21, 3) := by decide +kernel
theorem dX4_setFence_14 : decode cX4_setFence 14 = .ok (.aload_n 0, 1) := by decide +kernel
theorem dX4_setFence_15 : decode cX4_setFence 15 = .ok (.getfield 23, 3) := by decide +kernel
theorem dX4_setFence_18 : decode cX4_setFence 18 = .ok (.bipush 14, 2) := by decide +kernel
theorem dX4_setFence_20 : decode cX4_setFence 20 = .ok (.aload_n 0, 1) := by decide +kernel
theorem dX4_setFence_21 : decode cX4_setFence 21 = .ok (.getfield 50, 3) := by decide +kernel
theorem dX4_setFence_24 : decode cX4_setFence 24 = .ok (.iload_n 1, 1) := by decide +kernel
theorem dX4_setFence_25 : decode cX4_setFence 25 = .ok (.iaload, 1) := by decide +kernel
theorem dX4_setFence_26 : decode cX4_setFence 26 = .ok (.iadd, 1) := by decide +kernel
theorem dX4_setFence_27 : decode cX4_setFence 27 = .ok (.aload_n 0, 1) := by decide +kernel
theorem dX4_setFence_28 : decode cX4_setFence 28 = .ok (.getfield 13, 3) := by decide +kernel
theorem dX4_setFence_31 : decode cX4_setFence 31 = .ok (.iastore, 1) := by decide +kernel
theorem dX4_setFence_32 : decode cX4_setFence 32 = .ok (.return_, 1) := by decide +kernel
set_option maxRecDepth 20000 in
theorem ggX4_tryOut_X4_copy : GoodIn wsX4_tryOut wsX4_copy := goodIn_r _ [9, 10, 11, 12, 13, 14, 15, 1, 42, 43, 44, 45, 46, 47, 48, 49, 50, 51, 52, 53, 54, 55, 56, 57] (by decide +kernel) (by decide +kernel)
set_option maxRecDepth 20000 in
theorem gX4_tryOut_X4_copy : GoodIn wsX4_tryOut (wsV RX4 85 RX4 yX4_copy wsX4_copy) := goodIn_app (goodIn_of _ (by decide +kernel)) ggX4_tryOut_X4_copy
set_option maxRecDepth 20000 in
theorem ggX4_tryOut_X4_setFence : GoodIn wsX4_tryOut wsX4_setFence := goodIn_r _ [19, 20, 12, 21, 42, 43, 44, 45, 46, 47, 48, 49, 50, 51, 52, 53, 54, 55, 56, 57] (by decide +kernel) (by decide +kernel)
set_option maxRecDepth 20000 in
theorem gX4_tryOut_X4_setFence : GoodIn wsX4_tryOut (wsV RX4 89 RX4 yX4_setFence wsX4_setFence) := goodIn_app (goodIn_of _ (by decide +kernel)) ggX4_tryOut_X4_setFence
set_option maxRecDepth 20000 in
theorem ggX4_tryOut_X4_blow : GoodIn wsX4_tryOut wsX4_blow := goodIn_r _ [25, 26, 11, 10, 15, 27, 28, 29, 8, 30, 12, 13, 42, 43, 44, 45, 46, 47, 48, 49, 50, 51, 52, 53, 54, 55, 56, 57] (by decide +kernel) (by decide +kernel)
set_option maxRecDepth 20000 in
theorem gX4_tryOut_X4_blow : GoodIn wsX4_tryOut (wsV RX4 72 RX4 yX4_blow wsX4_blow) := goodIn_app (goodIn_of _ (by decide +kernel)) ggX4_tryOut_X4_blow
set_option maxRecDepth 20000 in
theorem ggX4_tryOut_X4_flood : GoodIn wsX4_tryOut wsX4_flood := goodIn_r _ [34, 26, 10, 14, 11, 12, 1, 42, 43, 44, 45, 46, 47, 48, 49, 50, 51, 52, 53, 54, 55, 56, 57] (by decide +kernel) (by decide +kernel)
set_option maxRecDepth 20000 in
theorem gX4_tryOut_X4_flood : GoodIn wsX4_tryOut (wsV RX4 75 RX4 yX4_flood wsX4_flood) := goodIn_app (goodIn_of _ (by decide +kernel)) ggX4_tryOut_X4_flood
set_option maxRecDepth 20000 in
theorem ggX4_tryOut_X4_endYear : GoodIn wsX4_tryOut wsX4_endYear := goodIn_r _ [38, 26, 11, 13, 39, 40, 8, 41, 42, 43, 44, 45, 46, 47, 48, 49, 50, 51, 52, 53, 54, 55, 56, 57] (by decide +kernel) (by decide +kernel)
set_option maxRecDepth 20000 in
theorem gX4_tryOut_X4_endYear : GoodIn wsX4_tryOut (wsV RX4 78 RX4 yX4_endYear wsX4_endYear) := goodIn_app (goodIn_of _ (by decide +kernel)) ggX4_tryOut_X4_endYear
theorem dX4_tryOut_0 : decode cX4_tryOut 0 = .ok (.aload_n 0, 1) := by decide +kernel
theorem dX4_tryOut_1 : decode cX4_tryOut 1 = .ok (.iconst 0, 1) := by decide +kernel
theorem dX4_tryOut_2 : decode cX4_tryOut 2 = .ok (.iconst 2, 1) := by decide +kernel
theorem dX4_tryOut_3 : decode cX4_tryOut 3 = .ok (.invokevirtual 85, 3) := by decide +kernel
theorem dX4_tryOut_6 : decode cX4_tryOut 6 = .ok (.aload_n 0, 1) := by decide +kernel
theorem dX4_tryOut_7 : decode cX4_tryOut 7 = .ok (.getfield 35, 3) := by decide +kernel
theorem dX4_tryOut_10 : decode cX4_tryOut 10 = .ok (.iconst 2, 1) := by decide +kernel
theorem dX4_tryOut_11 : decode cX4_tryOut 11 = .ok (.iconst 0, 1) := by decide +kernel
theorem dX4_tryOut_12 : decode cX4_tryOut 12 = .ok (.iastore, 1) := by decide +kernel
theorem dX4_tryOut_13 : decode cX4_tryOut 13 = .ok (.iconst 0, 1) := by decide +kernel
theorem dX4_tryOut_14 : decode cX4_tryOut 14 = .ok (.istore_n 2, 1) := by decide +kernel
theorem dX4_tryOut_15 : decode cX4_tryOut 15 = .ok (.aload_n 0, 1) := by decide +kernel
theorem dX4_tryOut_16 : decode cX4_tryOut 16 = .ok (.iconst 0, 1) := by decide +kernel
theorem dX4_tryOut_17 : decode cX4_tryOut 17 = .ok (.invokevirtual 89, 3) := by decide +kernel
theorem dX4_tryOut_20 : decode cX4_tryOut 20 = .ok (.bipush 12, 2) := by decide +kernel
theorem dX4_tryOut_22 : decode cX4_tryOut 22 = .ok (.iload_n 1, 1) := by decide +kernel
theorem dX4_tryOut_23 : decode cX4_tryOut 23 = .ok (.imul, 1) := by decide +kernel
theorem dX4_tryOut_24 : decode cX4_tryOut 24 = .ok (.istore_n 3, 1) := by decide +kernel
theorem dX4_tryOut_25 : decode cX4_tryOut 25 = .ok (.iload_n 3, 1) := by decide +kernel
theorem dX4_tryOut_26 : decode cX4_tryOut 26 = .ok (.bipush 12, 2) := by decide +kernel
theorem dX4_tryOut_28 : decode cX4_tryOut 28 = .ok (.iload_n 1, 1) := by decide +kernel
theorem dX4_tryOut_29 : decode cX4_tryOut 29 = .ok (.imul, 1) := by decide +kernel
theorem dX4_tryOut_30 : decode cX4_tryOut 30 = .ok (.aload_n 0, 1) := by decide +kernel
theorem dX4_tryOut_31 : decode cX4_tryOut 31 = .ok (.getfield 38, 3) := by decide +kernel
theorem dX4_tryOut_34 : decode cX4_tryOut 34 = .ok (.iload_n 1, 1) := by decide +kernel
theorem dX4_tryOut_35 : decode cX4_tryOut 35 = .ok (.iaload, 1) := by decide +kernel
theorem dX4_tryOut_36 : decode cX4_tryOut 36 = .ok (.iadd, 1) := by decide +kernel
theorem dX4_tryOut_37 : decode cX4_tryOut 37 = .ok (.if_icmp .ge 75, 3) := by decide +kernel
theorem dX4_tryOut_40 : decode cX4_tryOut 40 = .ok (.aload_n 0, 1) := by decide +kernel
theorem dX4_tryOut_41 : decode cX4_tryOut 41 = .ok (.getfield 41, 3) := by decide +kernel
theorem dX4_tryOut_44 : decode cX4_tryOut 44 = .ok (.iload_n 3, 1) := by decide +kernel
theorem dX4_tryOut_45 : decode cX4_tryOut 45 = .ok (.iaload, 1) := by decide +kernel
theorem dX4_tryOut_46 : decode cX4_tryOut 46 = .ok (.ifCond .ne 19, 3) := by decide +kernel
theorem dX4_tryOut_49 : decode cX4_tryOut 49 = .ok (.aload_n 0, 1) := by decide +kernel
theorem dX4_tryOut_50 : decode cX4_tryOut 50 = .ok (.iconst 2, 1) := by decide +kernel
theorem dX4_tryOut_51 : decode cX4_tryOut 51 = .ok (.aload_n 0, 1) := by decide +kernel
theorem dX4_tryOut_52 : decode cX4_tryOut 52 = .ok (.getfield 44, 3) := by decide +kernel
theorem dX4_tryOut_55 : decode cX4_tryOut 55 = .ok (.iload_n 3, 1) := by decide +kernel
theorem dX4_tryOut_56 : decode cX4_tryOut 56 = .ok (.iaload, 1) := by decide +kernel
theorem dX4_tryOut_57 : decode cX4_tryOut 57 = .ok (.invokevirtual 72, 3) := by decide +kernel
theorem dX4_tryOut_60 : decode cX4_tryOut 60 = .ok (.istore 4, 2) := by decide +kernel
theorem dX4_tryOut_62 : decode cX4_tryOut 62 = .ok (.goto 44, 3) := by decide +kernel
theorem dX4_tryOut_65 : decode cX4_tryOut 65 = .ok (.aload_n 0, 1) := by decide +kernel
theorem dX4_tryOut_66 : decode cX4_tryOut 66 = .ok (.getfield 41, 3) := by decide +kernel
theorem dX4_tryOut_69 : decode cX4_tryOut 69 = .ok (.iload_n 3, 1) := by decide +kernel
theorem dX4_tryOut_70 : decode cX4_tryOut 70 = .ok (.iaload, 1) := by decide +kernel
theorem dX4_tryOut_71 : decode cX4_tryOut 71 = .ok (.iconst 1, 1) := by decide +kernel
theorem dX4_tryOut_72 : decode cX4_tryOut 72 = .ok (.if_icmp .ne 19, 3) := by decide +kernel
theorem dX4_tryOut_75 : decode cX4_tryOut 75 = .ok (.aload_n 0, 1) := by decide +kernel
theorem dX4_tryOut_76 : decode cX4_tryOut 76 = .ok (.iconst 2, 1) := by decide +kernel
theorem dX4_tryOut_77 : decode cX4_tryOut 77 = .ok (.aload_n 0, 1) := by decide +kernel
theorem dX4_tryOut_78 : decode cX4_tryOut 78 = .ok (.getfield 44, 3) := by decide +kernel
theorem dX4_tryOut_81 : decode cX4_tryOut 81 = .ok (.iload_n 3, 1) := by decide +kernel
theorem dX4_tryOut_82 : decode cX4_tryOut 82 = .ok (.iaload, 1) := by decide +kernel
theorem dX4_tryOut_83 : decode cX4_tryOut 83 = .ok (.invokevirtual 75, 3) := by decide +kernel
theorem dX4_tryOut_86 : decode cX4_tryOut 86 = .ok (.istore 4, 2) := by decide +kernel
theorem dX4_tryOut_88 : decode cX4_tryOut 88 = .ok (.goto 18, 3) := by decide +kernel
theorem dX4_tryOut_91 : decode cX4_tryOut 91 = .ok (.aload_n 0, 1) := by decide +kernel
theorem dX4_tryOut_92 : decode cX4_tryOut 92 = .ok (.iconst 2, 1) := by decide +kernel
theorem dX4_tryOut_93 : decode cX4_tryOut 93 = .ok (.invokevirtual 78, 3) := by decide +kernel
theorem dX4_tryOut_96 : decode cX4_tryOut 96 = .ok (.istore 4, 2) := by decide +kernel
theorem dX4_tryOut_98 : decode cX4_tryOut 98 = .ok (.iinc 2 1, 3) := by decide +kernel
theorem dX4_tryOut_101 : decode cX4_tryOut 101 = .ok (.aload_n 0, 1) := by decide +kernel
theorem dX4_tryOut_102 : decode cX4_tryOut 102 = .ok (.iload_n 2, 1) := by decide +kernel
theorem dX4_tryOut_103 : decode cX4_tryOut 103 = .ok (.invokevirtual 89, 3) := by decide +kernel
theorem dX4_tryOut_106 : decode cX4_tryOut 106 = .ok (.iinc 3 1, 3) := by decide +kernel
theorem dX4_tryOut_109 : decode cX4_tryOut 109 = .ok (.goto (-84), 3) := by decide +kernel
theorem dX4_tryOut_112 : decode cX4_tryOut 112 = .ok (.return_, 1) := by decide +kernel
theorem dX4_crestOf_0 : decode cX4_crestOf 0 = .ok (.iconst 0, 1) := by decide +kernel
theorem dX4_crestOf_1 : decode cX4_crestOf 1 = .ok (.istore_n 2, 1) := by decide +kernel
theorem dX4_crestOf_2 : decode cX4_crestOf 2 = .ok (.iconst 0, 1) := by decide +kernel
theorem dX4_crestOf_3 : decode cX4_crestOf 3 = .ok (.istore_n 3, 1) := by decide +kernel
theorem dX4_crestOf_4 : decode cX4_crestOf 4 = .ok (.iload_n 3, 1) := by decide +kernel
theorem dX4_crestOf_5 : decode cX4_crestOf 5 = .ok (.aload_n 0, 1) := by decide +kernel
theorem dX4_crestOf_6 : decode cX4_crestOf 6 = .ok (.getfield 7, 3) := by decide +kernel
theorem dX4_crestOf_9 : decode cX4_crestOf 9 = .ok (.if_icmp .ge 40, 3) := by decide +kernel
theorem dX4_crestOf_12 : decode cX4_crestOf 12 = .ok (.aload_n 0, 1) := by decide +kernel
theorem dX4_crestOf_13 : decode cX4_crestOf 13 = .ok (.getfield 16, 3) := by decide +kernel
theorem dX4_crestOf_16 : decode cX4_crestOf 16 = .ok (.bipush 7, 2) := by decide +kernel
theorem dX4_crestOf_18 : decode cX4_crestOf 18 = .ok (.iload_n 1, 1) := by decide +kernel
theorem dX4_crestOf_19 : decode cX4_crestOf 19 = .ok (.imul, 1) := by decide +kernel
theorem dX4_crestOf_20 : decode cX4_crestOf 20 = .ok (.iload_n 3, 1) := by decide +kernel
theorem dX4_crestOf_21 : decode cX4_crestOf 21 = .ok (.iadd, 1) := by decide +kernel
theorem dX4_crestOf_22 : decode cX4_crestOf 22 = .ok (.iaload, 1) := by decide +kernel
theorem dX4_crestOf_23 : decode cX4_crestOf 23 = .ok (.iload_n 2, 1) := by decide +kernel
theorem dX4_crestOf_24 : decode cX4_crestOf 24 = .ok (.if_icmp .le 17, 3) := by decide +kernel
theorem dX4_crestOf_27 : decode cX4_crestOf 27 = .ok (.aload_n 0, 1) := by decide +kernel
theorem dX4_crestOf_28 : decode cX4_crestOf 28 = .ok (.getfield 16, 3) := by decide +kernel
theorem dX4_crestOf_31 : decode cX4_crestOf 31 = .ok (.bipush 7, 2) := by decide +kernel
theorem dX4_crestOf_33 : decode cX4_crestOf 33 = .ok (.iload_n 1, 1) := by decide +kernel
theorem dX4_crestOf_34 : decode cX4_crestOf 34 = .ok (.imul, 1) := by decide +kernel
theorem dX4_crestOf_35 : decode cX4_crestOf 35 = .ok (.iload_n 3, 1) := by decide +kernel
theorem dX4_crestOf_36 : decode cX4_crestOf 36 = .ok (.iadd, 1) := by decide +kernel
theorem dX4_crestOf_37 : decode cX4_crestOf 37 = .ok (.iaload, 1) := by decide +kernel
theorem dX4_crestOf_38 : decode cX4_crestOf 38 = .ok (.goto 4, 3) := by decide +kernel
theorem dX4_crestOf_41 : decode cX4_crestOf 41 = .ok (.iload_n 2, 1) := by decide +kernel
theorem dX4_crestOf_42 : decode cX4_crestOf 42 = .ok (.istore_n 2, 1) := by decide +kernel
theorem dX4_crestOf_43 : decode cX4_crestOf 43 = .ok (.iinc 3 1, 3) := by decide +kernel
theorem dX4_crestOf_46 : decode cX4_crestOf 46 = .ok (.goto (-42), 3) := by decide +kernel
theorem dX4_crestOf_49 : decode cX4_crestOf 49 = .ok (.iload_n 2, 1) := by decide +kernel
theorem dX4_crestOf_50 : decode cX4_crestOf 50 = .ok (.ireturn, 1) := by decide +kernel
set_option maxRecDepth 20000 in
theorem ggX4_isFence_X4_isCell : GoodIn wsX4_isFence wsX4_isCell := goodIn_r _ [5, 6, 7, 8, 4, 9, 10, 11, 12, 13, 14, 15, 16, 17, 18, 19, 20, 21, 22, 23, 24, 25] (by decide +kernel) (by decide +kernel)
set_option maxRecDepth 20000 in
theorem gX4_isFence_X4_isCell : GoodIn wsX4_isFence (wsV RX4 64 RX4 yX4_isCell wsX4_isCell) := goodIn_app (goodIn_of _ (by decide +kernel)) ggX4_isFence_X4_isCell
theorem dX4_isFence_0 : decode cX4_isFence 0 = .ok (.iload_n 1, 1) := by decide +kernel
theorem dX4_isFence_1 : decode cX4_isFence 1 = .ok (.iconst (-1), 1) := by decide +kernel
theorem dX4_isFence_2 : decode cX4_isFence 2 = .ok (.if_icmp .eq 11, 3) := by decide +kernel
theorem dX4_isFence_5 : decode cX4_isFence 5 = .ok (.aload_n 0, 1) := by decide +kernel
theorem dX4_isFence_6 : decode cX4_isFence 6 = .ok (.iload_n 1, 1) := by decide +kernel
theorem dX4_isFence_7 : decode cX4_isFence 7 = .ok (.invokevirtual 64, 3) := by decide +kernel
theorem dX4_isFence_10 : decode cX4_isFence 10 = .ok (.ifCond .eq 7, 3) := by decide +kernel
theorem dX4_isFence_13 : decode cX4_isFence 13 = .ok (.iconst 1, 1) := by decide +kernel
theorem dX4_isFence_14 : decode cX4_isFence 14 = .ok (.goto 4, 3) := by decide +kernel
theorem dX4_isFence_17 : decode cX4_isFence 17 = .ok (.iconst 0, 1) := by decide +kernel
theorem dX4_isFence_18 : decode cX4_isFence 18 = .ok (.ireturn, 1) := by decide +kernel
set_option maxRecDepth 20000 in
theorem ggX4_ask_X4_isWeather : GoodIn wsX4_ask wsX4_isWeather := goodIn_r _ [5, 6, 7, 4, 8] (by decide +kernel) (by decide +kernel)
set_option maxRecDepth 20000 in
theorem gX4_ask_X4_isWeather : GoodIn wsX4_ask (va_wsS RX4 82 yX4_isWeather wsX4_isWeather) := goodIn_app (goodIn_of _ (by decide +kernel)) ggX4_ask_X4_isWeather
set_option maxRecDepth 20000 in
theorem ggX4_ask_X4_isFence : GoodIn wsX4_ask wsX4_isFence := goodIn_r _ [12, 13, 14, 15, 4, 16, 17, 6, 7, 8, 57, 58, 59, 60, 61, 62, 63, 64, 65, 66, 67, 68, 69, 70, 71, 72] (by decide +kernel) (by decide +kernel)
set_option maxRecDepth 20000 in
theorem gX4_ask_X4_isFence : GoodIn wsX4_ask (wsV RX4 92 RX4 yX4_isFence wsX4_isFence) := goodIn_app (goodIn_of _ (by decide +kernel)) ggX4_ask_X4_isFence
set_option maxRecDepth 20000 in
theorem ggX4_ask_X4_tryOut : GoodIn wsX4_ask wsX4_tryOut := goodIn_r _ [21, 22, 23, 24, 25, 26, 27, 28, 4, 29, 30, 31, 32, 33, 34, 35, 36, 37, 38, 39, 1, 40, 41, 42, 43, 44, 17, 45, 46, 47, 48, 49, 50, 51, 52, 53, 54, 55, 56, 6, 7, 8, 57, 58, 59, 60, 61, 62, 63, 64, 65, 66, 67, 68, 69, 70, 71, 72] (by decide +kernel) (by decide +kernel)
set_option maxRecDepth 20000 in
theorem gX4_ask_X4_tryOut : GoodIn wsX4_ask (wsV RX4 95 RX4 yX4_tryOut wsX4_tryOut) := goodIn_app (goodIn_of _ (by decide +kernel)) ggX4_ask_X4_tryOut
theorem dX4_ask_0 : decode cX4_ask 0 = .ok (.iload_n 1, 1) := by decide +kernel
theorem dX4_ask_1 : decode cX4_ask 1 = .ok (.invokestatic 82, 3) := by decide +kernel
theorem dX4_ask_4 : decode cX4_ask 4 = .ok (.ifCond .eq 28, 3) := by decide +kernel
theorem dX4_ask_7 : decode cX4_ask 7 = .ok (.aload_n 0, 1) := by decide +kernel
theorem dX4_ask_8 : decode cX4_ask 8 = .ok (.iload_n 2, 1) := by decide +kernel
theorem dX4_ask_9 : decode cX4_ask 9 = .ok (.invokevirtual 92, 3) := by decide +kernel
theorem dX4_ask_12 : decode cX4_ask 12 = .ok (.ifCond .eq 20, 3) := by decide +kernel
theorem dX4_ask_15 : decode cX4_ask 15 = .ok (.aload_n 0, 1) := by decide +kernel
theorem dX4_ask_16 : decode cX4_ask 16 = .ok (.iload_n 3, 1) := by decide +kernel
theorem dX4_ask_17 : decode cX4_ask 17 = .ok (.invokevirtual 92, 3) := by decide +kernel
theorem dX4_ask_20 : decode cX4_ask 20 = .ok (.ifCond .eq 12, 3) := by decide +kernel
theorem dX4_ask_23 : decode cX4_ask 23 = .ok (.aload_n 0, 1) := by decide +kernel
theorem dX4_ask_24 : decode cX4_ask 24 = .ok (.iload 4, 2) := by decide +kernel
theorem dX4_ask_26 : decode cX4_ask 26 = .ok (.invokevirtual 92, 3) := by decide +kernel
theorem dX4_ask_29 : decode cX4_ask 29 = .ok (.ifCond .ne 5, 3) := by decide +kernel
theorem dX4_ask_32 : decode cX4_ask 32 = .ok (.iconst 0, 1) := by decide +kernel
theorem dX4_ask_33 : decode cX4_ask 33 = .ok (.ireturn, 1) := by decide +kernel
theorem dX4_ask_34 : decode cX4_ask 34 = .ok (.aload_n 0, 1) := by decide +kernel
theorem dX4_ask_35 : decode cX4_ask 35 = .ok (.getfield 50, 3) := by decide +kernel
theorem dX4_ask_38 : decode cX4_ask 38 = .ok (.iconst 0, 1) := by decide +kernel
theorem dX4_ask_39 : decode cX4_ask 39 = .ok (.iload_n 2, 1) := by decide +kernel
theorem dX4_ask_40 : decode cX4_ask 40 = .ok (.iastore, 1) := by decide +kernel
theorem dX4_ask_41 : decode cX4_ask 41 = .ok (.aload_n 0, 1) := by decide +kernel
theorem dX4_ask_42 : decode cX4_ask 42 = .ok (.getfield 50, 3) := by decide +kernel
theorem dX4_ask_45 : decode cX4_ask 45 = .ok (.iconst 1, 1) := by decide +kernel
theorem dX4_ask_46 : decode cX4_ask 46 = .ok (.iload_n 3, 1) := by decide +kernel
theorem dX4_ask_47 : decode cX4_ask 47 = .ok (.iastore, 1) := by decide +kernel
theorem dX4_ask_48 : decode cX4_ask 48 = .ok (.aload_n 0, 1) := by decide +kernel
theorem dX4_ask_49 : decode cX4_ask 49 = .ok (.getfield 50, 3) := by decide +kernel
theorem dX4_ask_52 : decode cX4_ask 52 = .ok (.iconst 2, 1) := by decide +kernel
theorem dX4_ask_53 : decode cX4_ask 53 = .ok (.iload 4, 2) := by decide +kernel
theorem dX4_ask_55 : decode cX4_ask 55 = .ok (.iastore, 1) := by decide +kernel
theorem dX4_ask_56 : decode cX4_ask 56 = .ok (.aload_n 0, 1) := by decide +kernel
theorem dX4_ask_57 : decode cX4_ask 57 = .ok (.iload_n 1, 1) := by decide +kernel
theorem dX4_ask_58 : decode cX4_ask 58 = .ok (.invokevirtual 95, 3) := by decide +kernel
theorem dX4_ask_61 : decode cX4_ask 61 = .ok (.iconst 1, 1) := by decide +kernel
theorem dX4_ask_62 : decode cX4_ask 62 = .ok (.ireturn, 1) := by decide +kernel
set_option maxRecDepth 20000 in
theorem ggX4_crest_X4_ask : GoodIn wsX4_crest wsX4_ask := goodIn_r _ [5, 6, 7, 8, 4, 9, 10, 11, 12, 13, 14, 15, 16, 17, 18, 19, 20, 21, 22, 23, 24, 25, 26, 27, 28, 29, 30, 31, 32, 33, 34, 35, 36, 37, 38, 39, 40, 41, 42, 43, 44, 45, 46, 47, 48, 49, 50, 51, 52, 53, 54, 55, 56, 57, 58, 59, 60, 65, 66, 67, 68, 69, 70, 71, 72, 73, 74, 75, 76, 77, 78, 79, 80] (by decide +kernel) (by decide +kernel)
set_option maxRecDepth 20000 in
theorem gX4_crest_X4_ask : GoodIn wsX4_crest (wsV RX4 98 RX4 yX4_ask wsX4_ask) := goodIn_app (goodIn_of _ (by decide +kernel)) ggX4_crest_X4_ask
set_option maxRecDepth 20000 in
theorem ggX4_crest_X4_crestOf : GoodIn wsX4_crest wsX4_crestOf := goodIn_r _ [64, 21, 34, 65, 66, 67, 68, 69, 70, 71, 72, 73, 74, 75, 76, 77, 78, 79, 80] (by decide +kernel) (by decide +kernel)
set_option maxRecDepth 20000 in
theorem gX4_crest_X4_crestOf : GoodIn wsX4_crest (wsV RX4 102 RX4 yX4_crestOf wsX4_crestOf) := goodIn_app (goodIn_of _ (by decide +kernel)) ggX4_crest_X4_crestOf
theorem dX4_crest_0 : decode cX4_crest 0 = .ok (.aload_n 0, 1) := by decide +kernel
theorem dX4_crest_1 : decode cX4_crest 1 = .ok (.iload_n 1, 1) := by decide +kernel
theorem dX4_crest_2 : decode cX4_crest 2 = .ok (.iload_n 2, 1) := by decide +kernel
theorem dX4_crest_3 : decode cX4_crest 3 = .ok (.iload_n 3, 1) := by decide +kernel
theorem dX4_crest_4 : decode cX4_crest 4 = .ok (.iload 4, 2) := by decide +kernel
theorem dX4_crest_6 : decode cX4_crest 6 = .ok (.invokevirtual 98, 3) := by decide +kernel
theorem dX4_crest_9 : decode cX4_crest 9 = .ok (.ifCond .eq 11, 3) := by decide +kernel
theorem dX4_crest_12 : decode cX4_crest 12 = .ok (.aload_n 0, 1) := by decide +kernel
theorem dX4_crest_13 : decode cX4_crest 13 = .ok (.iconst 2, 1) := by decide +kernel
theorem dX4_crest_14 : decode cX4_crest 14 = .ok (.invokevirtual 102, 3) := by decide +kernel
theorem dX4_crest_17 : decode cX4_crest 17 = .ok (.goto 4, 3) := by decide +kernel
theorem dX4_crest_20 : decode cX4_crest 20 = .ok (.iconst (-1), 1) := by decide +kernel
theorem dX4_crest_21 : decode cX4_crest 21 = .ok (.ireturn, 1) := by decide +kernel
set_option maxRecDepth 20000 in
theorem ggX4_floods_X4_ask : GoodIn wsX4_floods wsX4_ask := goodIn_r _ [6, 7, 8, 9, 5, 10, 11, 12, 13, 14, 15, 16, 17, 18, 19, 20, 21, 22, 23, 24, 25, 26, 1, 27, 28, 29, 30, 31, 32, 33, 34, 35, 36, 37, 38, 39, 40, 41, 42, 43, 44, 45, 46, 47, 48, 49, 50, 51, 52, 53, 54, 55, 56, 57, 58, 59, 60, 61, 62, 63, 64, 65, 66, 67, 68, 69, 70, 71, 72, 73, 74, 75, 76] (by decide +kernel) (by decide +kernel)
set_option maxRecDepth 20000 in
theorem gX4_floods_X4_ask : GoodIn wsX4_floods (wsV RX4 98 RX4 yX4_ask wsX4_ask) := goodIn_app (goodIn_of _ (by decide +kernel)) ggX4_floods_X4_ask
theorem dX4_floods_0 : decode cX4_floods 0 = .ok (.aload_n 0, 1) := by decide +kernel
theorem dX4_floods_1 : decode cX4_floods 1 = .ok (.iload_n 1, 1) := by decide +kernel
theorem dX4_floods_2 : decode cX4_floods 2 = .ok (.iload_n 2, 1) := by decide +kernel
theorem dX4_floods_3 : decode cX4_floods 3 = .ok (.iload_n 3, 1) := by decide +kernel
theorem dX4_floods_4 : decode cX4_floods 4 = .ok (.iload 4, 2) := by decide +kernel
theorem dX4_floods_6 : decode cX4_floods 6 = .ok (.invokevirtual 98, 3) := by decide +kernel
theorem dX4_floods_9 : decode cX4_floods 9 = .ok (.ifCond .eq 12, 3) := by decide +kernel
theorem dX4_floods_12 : decode cX4_floods 12 = .ok (.aload_n 0, 1) := by decide +kernel
theorem dX4_floods_13 : decode cX4_floods 13 = .ok (.getfield 35, 3) := by decide +kernel
theorem dX4_floods_16 : decode cX4_floods 16 = .ok (.iconst 2, 1) := by decide +kernel
theorem dX4_floods_17 : decode cX4_floods 17 = .ok (.iaload, 1) := by decide +kernel
theorem dX4_floods_18 : decode cX4_floods 18 = .ok (.goto 4, 3) := by decide +kernel
theorem dX4_floods_21 : decode cX4_floods 21 = .ok (.iconst (-1), 1) := by decide +kernel
theorem dX4_floods_22 : decode cX4_floods 22 = .ok (.ireturn, 1) := by decide +kernel
set_option maxRecDepth 20000 in
theorem ggX4_holds_X4_tryOut : GoodIn wsX4_holds wsX4_tryOut := goodIn_r _ [7, 2, 1, 8, 9, 10, 11, 12, 6, 13, 14, 15, 16, 17, 18, 19, 20, 21, 22, 23, 24, 25, 26, 27, 28, 29, 30, 31, 32, 33, 34, 35, 36, 37, 38, 39, 40, 41, 42, 43, 44, 45, 50, 51, 52, 53, 54, 55, 56, 57, 58, 59, 60, 61, 62, 63, 64, 65] (by decide +kernel) (by decide +kernel)
set_option maxRecDepth 20000 in
theorem gX4_holds_X4_tryOut : GoodIn wsX4_holds (wsV RX4 95 RX4 yX4_tryOut wsX4_tryOut) := goodIn_app (goodIn_of _ (by decide +kernel)) ggX4_holds_X4_tryOut
set_option maxRecDepth 20000 in
theorem ggX4_holds_X4_crestOf : GoodIn wsX4_holds wsX4_crestOf := goodIn_r _ [49, 30, 14, 50, 51, 52, 53, 54, 55, 56, 57, 58, 59, 60, 61, 62, 63, 64, 65] (by decide +kernel) (by decide +kernel)
set_option maxRecDepth 20000 in
theorem gX4_holds_X4_crestOf : GoodIn wsX4_holds (wsV RX4 102 RX4 yX4_crestOf wsX4_crestOf) := goodIn_app (goodIn_of _ (by decide +kernel)) ggX4_holds_X4_crestOf
theorem dX4_holds_0 : decode cX4_holds 0 = .ok (.bipush 99, 2) := by decide +kernel
theorem dX4_holds_2 : decode cX4_holds 2 = .ok (.istore_n 1, 1) := by decide +kernel
theorem dX4_holds_3 : decode cX4_holds 3 = .ok (.iconst 0, 1) := by decide +kernel
theorem dX4_holds_4 : decode cX4_holds 4 = .ok (.istore_n 2, 1) := by decide +kernel
theorem dX4_holds_5 : decode cX4_holds 5 = .ok (.iload_n 2, 1) := by decide +kernel
theorem dX4_holds_6 : decode cX4_holds 6 = .ok (.iconst 3, 1) := by decide +kernel
theorem dX4_holds_7 : decode cX4_holds 7 = .ok (.if_icmp .ge 53, 3) := by decide +kernel
theorem dX4_holds_10 : decode cX4_holds 10 = .ok (.aload_n 0, 1) := by decide +kernel
theorem dX4_holds_11 : decode cX4_holds 11 = .ok (.getfield 38, 3) := by decide +kernel
theorem dX4_holds_14 : decode cX4_holds 14 = .ok (.iload_n 2, 1) := by decide +kernel
theorem dX4_holds_15 : decode cX4_holds 15 = .ok (.iaload, 1) := by decide +kernel
theorem dX4_holds_16 : decode cX4_holds 16 = .ok (.ifCond .le 38, 3) := by decide +kernel
theorem dX4_holds_19 : decode cX4_holds 19 = .ok (.aload_n 0, 1) := by decide +kernel
theorem dX4_holds_20 : decode cX4_holds 20 = .ok (.iload_n 2, 1) := by decide +kernel
theorem dX4_holds_21 : decode cX4_holds 21 = .ok (.invokevirtual 95, 3) := by decide +kernel
theorem dX4_holds_24 : decode cX4_holds 24 = .ok (.aload_n 0, 1) := by decide +kernel
theorem dX4_holds_25 : decode cX4_holds 25 = .ok (.getfield 35, 3) := by decide +kernel
theorem dX4_holds_28 : decode cX4_holds 28 = .ok (.iconst 2, 1) := by decide +kernel
theorem dX4_holds_29 : decode cX4_holds 29 = .ok (.iaload, 1) := by decide +kernel
theorem dX4_holds_30 : decode cX4_holds 30 = .ok (.ifCond .le 7, 3) := by decide +kernel
theorem dX4_holds_33 : decode cX4_holds 33 = .ok (.iconst (-1), 1) := by decide +kernel
theorem dX4_holds_34 : decode cX4_holds 34 = .ok (.goto 8, 3) := by decide +kernel
theorem dX4_holds_37 : decode cX4_holds 37 = .ok (.aload_n 0, 1) := by decide +kernel
theorem dX4_holds_38 : decode cX4_holds 38 = .ok (.iconst 2, 1) := by decide +kernel
theorem dX4_holds_39 : decode cX4_holds 39 = .ok (.invokevirtual 102, 3) := by decide +kernel
theorem dX4_holds_42 : decode cX4_holds 42 = .ok (.istore_n 3, 1) := by decide +kernel
theorem dX4_holds_43 : decode cX4_holds 43 = .ok (.iload_n 3, 1) := by decide +kernel
theorem dX4_holds_44 : decode cX4_holds 44 = .ok (.iload_n 1, 1) := by decide +kernel
theorem dX4_holds_45 : decode cX4_holds 45 = .ok (.if_icmp .ge 7, 3) := by decide +kernel
theorem dX4_holds_48 : decode cX4_holds 48 = .ok (.iload_n 3, 1) := by decide +kernel
theorem dX4_holds_49 : decode cX4_holds 49 = .ok (.goto 4, 3) := by decide +kernel
theorem dX4_holds_52 : decode cX4_holds 52 = .ok (.iload_n 1, 1) := by decide +kernel
theorem dX4_holds_53 : decode cX4_holds 53 = .ok (.istore_n 1, 1) := by decide +kernel
theorem dX4_holds_54 : decode cX4_holds 54 = .ok (.iinc 2 1, 3) := by decide +kernel
theorem dX4_holds_57 : decode cX4_holds 57 = .ok (.goto (-52), 3) := by decide +kernel
theorem dX4_holds_60 : decode cX4_holds 60 = .ok (.iload_n 1, 1) := by decide +kernel
theorem dX4_holds_61 : decode cX4_holds 61 = .ok (.ireturn, 1) := by decide +kernel
theorem dX4_lay_0 : decode cX4_lay 0 = .ok (.iload_n 1, 1) := by decide +kernel
theorem dX4_lay_1 : decode cX4_lay 1 = .ok (.istore_n 2, 1) := by decide +kernel
theorem dX4_lay_2 : decode cX4_lay 2 = .ok (.iconst 0, 1) := by decide +kernel
theorem dX4_lay_3 : decode cX4_lay 3 = .ok (.istore_n 3, 1) := by decide +kernel
theorem dX4_lay_4 : decode cX4_lay 4 = .ok (.iconst 2, 1) := by decide +kernel
theorem dX4_lay_5 : decode cX4_lay 5 = .ok (.istore 4, 2) := by decide +kernel
theorem dX4_lay_7 : decode cX4_lay 7 = .ok (.iload 4, 2) := by decide +kernel
theorem dX4_lay_9 : decode cX4_lay 9 = .ok (.ifCond .lt 67, 3) := by decide +kernel
theorem dX4_lay_12 : decode cX4_lay 12 = .ok (.iload_n 2, 1) := by decide +kernel
theorem dX4_lay_13 : decode cX4_lay 13 = .ok (.aload_n 0, 1) := by decide +kernel
theorem dX4_lay_14 : decode cX4_lay 14 = .ok (.getfield 7, 3) := by decide +kernel
theorem dX4_lay_17 : decode cX4_lay 17 = .ok (.iconst 1, 1) := by decide +kernel
theorem dX4_lay_18 : decode cX4_lay 18 = .ok (.iadd, 1) := by decide +kernel
theorem dX4_lay_19 : decode cX4_lay 19 = .ok (.irem, 1) := by decide +kernel
theorem dX4_lay_20 : decode cX4_lay 20 = .ok (.istore 5, 2) := by decide +kernel
theorem dX4_lay_22 : decode cX4_lay 22 = .ok (.iload_n 2, 1) := by decide +kernel
theorem dX4_lay_23 : decode cX4_lay 23 = .ok (.aload_n 0, 1) := by decide +kernel
theorem dX4_lay_24 : decode cX4_lay 24 = .ok (.getfield 7, 3) := by decide +kernel
theorem dX4_lay_27 : decode cX4_lay 27 = .ok (.iconst 1, 1) := by decide +kernel
theorem dX4_lay_28 : decode cX4_lay 28 = .ok (.iadd, 1) := by decide +kernel
theorem dX4_lay_29 : decode cX4_lay 29 = .ok (.idiv, 1) := by decide +kernel
theorem dX4_lay_30 : decode cX4_lay 30 = .ok (.istore_n 2, 1) := by decide +kernel
theorem dX4_lay_31 : decode cX4_lay 31 = .ok (.aload_n 0, 1) := by decide +kernel
theorem dX4_lay_32 : decode cX4_lay 32 = .ok (.getfield 50, 3) := by decide +kernel
theorem dX4_lay_35 : decode cX4_lay 35 = .ok (.iload 4, 2) := by decide +kernel
theorem dX4_lay_37 : decode cX4_lay 37 = .ok (.iload 5, 2) := by decide +kernel
theorem dX4_lay_39 : decode cX4_lay 39 = .ok (.aload_n 0, 1) := by decide +kernel
theorem dX4_lay_40 : decode cX4_lay 40 = .ok (.getfield 7, 3) := by decide +kernel
theorem dX4_lay_43 : decode cX4_lay 43 = .ok (.if_icmp .ge 8, 3) := by decide +kernel
theorem dX4_lay_46 : decode cX4_lay 46 = .ok (.iload 5, 2) := by decide +kernel
theorem dX4_lay_48 : decode cX4_lay 48 = .ok (.goto 4, 3) := by decide +kernel
theorem dX4_lay_51 : decode cX4_lay 51 = .ok (.iconst (-1), 1) := by decide +kernel
theorem dX4_lay_52 : decode cX4_lay 52 = .ok (.iastore, 1) := by decide +kernel
theorem dX4_lay_53 : decode cX4_lay 53 = .ok (.iload_n 3, 1) := by decide +kernel
theorem dX4_lay_54 : decode cX4_lay 54 = .ok (.iload 5, 2) := by decide +kernel
theorem dX4_lay_56 : decode cX4_lay 56 = .ok (.aload_n 0, 1) := by decide +kernel
theorem dX4_lay_57 : decode cX4_lay 57 = .ok (.getfield 7, 3) := by decide +kernel
theorem dX4_lay_60 : decode cX4_lay 60 = .ok (.if_icmp .ge 7, 3) := by decide +kernel
theorem dX4_lay_63 : decode cX4_lay 63 = .ok (.iconst 1, 1) := by decide +kernel
theorem dX4_lay_64 : decode cX4_lay 64 = .ok (.goto 4, 3) := by decide +kernel
theorem dX4_lay_67 : decode cX4_lay 67 = .ok (.iconst 0, 1) := by decide +kernel
theorem dX4_lay_68 : decode cX4_lay 68 = .ok (.iadd, 1) := by decide +kernel
theorem dX4_lay_69 : decode cX4_lay 69 = .ok (.istore_n 3, 1) := by decide +kernel
theorem dX4_lay_70 : decode cX4_lay 70 = .ok (.iinc 4 (-1), 3) := by decide +kernel
theorem dX4_lay_73 : decode cX4_lay 73 = .ok (.goto (-66), 3) := by decide +kernel
theorem dX4_lay_76 : decode cX4_lay 76 = .ok (.iload_n 3, 1) := by decide +kernel
theorem dX4_lay_77 : decode cX4_lay 77 = .ok (.ireturn, 1) := by decide +kernel
set_option maxRecDepth 20000 in
theorem ggX4_findPlan_X4_lay : GoodIn wsX4_findPlan wsX4_lay := goodIn_r _ [8, 1, 3, 59, 60, 61, 62, 63, 64, 65, 66, 67, 68, 69, 70, 71, 72, 73, 74] (by decide +kernel) (by decide +kernel)
set_option maxRecDepth 20000 in
theorem gX4_findPlan_X4_lay : GoodIn wsX4_findPlan (wsV RX4 105 RX4 yX4_lay wsX4_lay) := goodIn_app (goodIn_of _ (by decide +kernel)) ggX4_findPlan_X4_lay
set_option maxRecDepth 20000 in
theorem ggX4_findPlan_X4_holds : GoodIn wsX4_findPlan wsX4_holds := goodIn_r _ [12, 13, 14, 15, 16, 17, 7, 18, 19, 20, 21, 22, 23, 24, 25, 26, 27, 28, 29, 30, 31, 32, 33, 34, 3, 35, 36, 37, 38, 39, 1, 40, 41, 42, 43, 44, 45, 46, 47, 48, 49, 50, 51, 52, 53, 54, 55, 56, 57, 58, 59, 60, 61, 62, 63, 64, 65, 66, 67, 68, 69, 70, 71, 72, 73, 74] (by decide +kernel) (by decide +kernel)
set_option maxRecDepth 20000 in
theorem gX4_findPlan_X4_holds : GoodIn wsX4_findPlan (wsV RX4 108 RX4 yX4_holds wsX4_holds) := goodIn_app (goodIn_of _ (by decide +kernel)) ggX4_findPlan_X4_holds
theorem dX4_findPlan_0 : decode cX4_findPlan 0 = .ok (.iconst 4, 1) := by decide +kernel
theorem dX4_findPlan_1 : decode cX4_findPlan 1 = .ok (.istore_n 2, 1) := by decide +kernel
theorem dX4_findPlan_2 : decode cX4_findPlan 2 = .ok (.iconst 0, 1) := by decide +kernel
theorem dX4_findPlan_3 : decode cX4_findPlan 3 = .ok (.istore_n 3, 1) := by decide +kernel
theorem dX4_findPlan_4 : decode cX4_findPlan 4 = .ok (.iload_n 3, 1) := by decide +kernel
theorem dX4_findPlan_5 : decode cX4_findPlan 5 = .ok (.aload_n 0, 1) := by decide +kernel
theorem dX4_findPlan_6 : decode cX4_findPlan 6 = .ok (.getfield 7, 3) := by decide +kernel
theorem dX4_findPlan_9 : decode cX4_findPlan 9 = .ok (.iconst 1, 1) := by decide +kernel
theorem dX4_findPlan_10 : decode cX4_findPlan 10 = .ok (.iadd, 1) := by decide +kernel
theorem dX4_findPlan_11 : decode cX4_findPlan 11 = .ok (.aload_n 0, 1) := by decide +kernel
theorem dX4_findPlan_12 : decode cX4_findPlan 12 = .ok (.getfield 7, 3) := by decide +kernel
theorem dX4_findPlan_15 : decode cX4_findPlan 15 = .ok (.iconst 1, 1) := by decide +kernel
theorem dX4_findPlan_16 : decode cX4_findPlan 16 = .ok (.iadd, 1) := by decide +kernel
theorem dX4_findPlan_17 : decode cX4_findPlan 17 = .ok (.imul, 1) := by decide +kernel
theorem dX4_findPlan_18 : decode cX4_findPlan 18 = .ok (.aload_n 0, 1) := by decide +kernel
theorem dX4_findPlan_19 : decode cX4_findPlan 19 = .ok (.getfield 7, 3) := by decide +kernel
theorem dX4_findPlan_22 : decode cX4_findPlan 22 = .ok (.iconst 1, 1) := by decide +kernel
theorem dX4_findPlan_23 : decode cX4_findPlan 23 = .ok (.iadd, 1) := by decide +kernel
theorem dX4_findPlan_24 : decode cX4_findPlan 24 = .ok (.imul, 1) := by decide +kernel
theorem dX4_findPlan_25 : decode cX4_findPlan 25 = .ok (.if_icmp .ge 62, 3) := by decide +kernel
theorem dX4_findPlan_28 : decode cX4_findPlan 28 = .ok (.aload_n 0, 1) := by decide +kernel
theorem dX4_findPlan_29 : decode cX4_findPlan 29 = .ok (.iload_n 3, 1) := by decide +kernel
theorem dX4_findPlan_30 : decode cX4_findPlan 30 = .ok (.invokevirtual 105, 3) := by decide +kernel
theorem dX4_findPlan_33 : decode cX4_findPlan 33 = .ok (.istore 4, 2) := by decide +kernel
theorem dX4_findPlan_35 : decode cX4_findPlan 35 = .ok (.iload 4, 2) := by decide +kernel
theorem dX4_findPlan_37 : decode cX4_findPlan 37 = .ok (.iload_n 2, 1) := by decide +kernel
theorem dX4_findPlan_38 : decode cX4_findPlan 38 = .ok (.if_icmp .ge 43, 3) := by decide +kernel
theorem dX4_findPlan_41 : decode cX4_findPlan 41 = .ok (.aload_n 0, 1) := by decide +kernel
theorem dX4_findPlan_42 : decode cX4_findPlan 42 = .ok (.invokevirtual 108, 3) := by decide +kernel
theorem dX4_findPlan_45 : decode cX4_findPlan 45 = .ok (.iload_n 1, 1) := by decide +kernel
theorem dX4_findPlan_46 : decode cX4_findPlan 46 = .ok (.if_icmp .lt 35, 3) := by decide +kernel
theorem dX4_findPlan_49 : decode cX4_findPlan 49 = .ok (.iload 4, 2) := by decide +kernel
theorem dX4_findPlan_51 : decode cX4_findPlan 51 = .ok (.istore_n 2, 1) := by decide +kernel
theorem dX4_findPlan_52 : decode cX4_findPlan 52 = .ok (.iconst 0, 1) := by decide +kernel
theorem dX4_findPlan_53 : decode cX4_findPlan 53 = .ok (.istore 5, 2) := by decide +kernel
theorem dX4_findPlan_55 : decode cX4_findPlan 55 = .ok (.iload 5, 2) := by decide +kernel
theorem dX4_findPlan_57 : decode cX4_findPlan 57 = .ok (.iconst 3, 1) := by decide +kernel
theorem dX4_findPlan_58 : decode cX4_findPlan 58 = .ok (.if_icmp .ge 23, 3) := by decide +kernel
theorem dX4_findPlan_61 : decode cX4_findPlan 61 = .ok (.aload_n 0, 1) := by decide +kernel
theorem dX4_findPlan_62 : decode cX4_findPlan 62 = .ok (.getfield 53, 3) := by decide +kernel
theorem dX4_findPlan_65 : decode cX4_findPlan 65 = .ok (.iload 5, 2) := by decide +kernel
theorem dX4_findPlan_67 : decode cX4_findPlan 67 = .ok (.aload_n 0, 1) := by decide +kernel
theorem dX4_findPlan_68 : decode cX4_findPlan 68 = .ok (.getfield 50, 3) := by decide +kernel
theorem dX4_findPlan_71 : decode cX4_findPlan 71 = .ok (.iload 5, 2) := by decide +kernel
theorem dX4_findPlan_73 : decode cX4_findPlan 73 = .ok (.iaload, 1) := by decide +kernel
theorem dX4_findPlan_74 : decode cX4_findPlan 74 = .ok (.iastore, 1) := by decide +kernel
theorem dX4_findPlan_75 : decode cX4_findPlan 75 = .ok (.iinc 5 1, 3) := by decide +kernel
theorem dX4_findPlan_78 : decode cX4_findPlan 78 = .ok (.goto (-23), 3) := by decide +kernel
theorem dX4_findPlan_81 : decode cX4_findPlan 81 = .ok (.iinc 3 1, 3) := by decide +kernel
theorem dX4_findPlan_84 : decode cX4_findPlan 84 = .ok (.goto (-80), 3) := by decide +kernel
theorem dX4_findPlan_87 : decode cX4_findPlan 87 = .ok (.iload_n 2, 1) := by decide +kernel
theorem dX4_findPlan_88 : decode cX4_findPlan 88 = .ok (.iconst 4, 1) := by decide +kernel
theorem dX4_findPlan_89 : decode cX4_findPlan 89 = .ok (.if_icmp .ge 7, 3) := by decide +kernel
theorem dX4_findPlan_92 : decode cX4_findPlan 92 = .ok (.iload_n 2, 1) := by decide +kernel
theorem dX4_findPlan_93 : decode cX4_findPlan 93 = .ok (.goto 5, 3) := by decide +kernel
theorem dX4_findPlan_96 : decode cX4_findPlan 96 = .ok (.bipush (-3), 2) := by decide +kernel
theorem dX4_findPlan_98 : decode cX4_findPlan 98 = .ok (.ireturn, 1) := by decide +kernel
set_option maxRecDepth 20000 in
theorem ggX4_plan_X4_in : GoodIn wsX4_plan wsX4_in := goodIn_r _ [5] (by decide +kernel) (by decide +kernel)
set_option maxRecDepth 20000 in
theorem gX4_plan_X4_in : GoodIn wsX4_plan (va_wsS RX4 60 yX4_in wsX4_in) := goodIn_app (goodIn_of _ (by decide +kernel)) ggX4_plan_X4_in
set_option maxRecDepth 20000 in
theorem ggX4_plan_X4_findPlan : GoodIn wsX4_plan wsX4_findPlan := goodIn_r _ [9, 10, 1, 11, 12, 13, 14, 4, 15, 16, 17, 18, 19, 20, 21, 22, 23, 24, 25, 26, 27, 28, 29, 30, 31, 32, 33, 34, 35, 36, 37, 38, 39, 40, 41, 42, 43, 44, 45, 46, 47, 48, 49, 50, 51, 52, 53, 54, 55, 56, 57, 58, 2, 3, 5, 59, 60, 61, 62, 63, 64, 65, 66, 67, 68, 69, 70, 71, 72, 73, 74, 75, 76, 77, 78] (by decide +kernel) (by decide +kernel)
set_option maxRecDepth 20000 in
theorem gX4_plan_X4_findPlan : GoodIn wsX4_plan (wsV RX4 112 RX4 yX4_findPlan wsX4_findPlan) := goodIn_app (goodIn_of _ (by decide +kernel)) ggX4_plan_X4_findPlan
theorem dX4_plan_0 : decode cX4_plan 0 = .ok (.iload_n 1, 1) := by decide +kernel
theorem dX4_plan_1 : decode cX4_plan 1 = .ok (.iconst 0, 1) := by decide +kernel
theorem dX4_plan_2 : decode cX4_plan 2 = .ok (.bipush 99, 2) := by decide +kernel
theorem dX4_plan_4 : decode cX4_plan 4 = .ok (.invokestatic 60, 3) := by decide +kernel
theorem dX4_plan_7 : decode cX4_plan 7 = .ok (.ifCond .eq 12, 3) := by decide +kernel
theorem dX4_plan_10 : decode cX4_plan 10 = .ok (.iload_n 2, 1) := by decide +kernel
theorem dX4_plan_11 : decode cX4_plan 11 = .ok (.iconst 0, 1) := by decide +kernel
theorem dX4_plan_12 : decode cX4_plan 12 = .ok (.iconst 2, 1) := by decide +kernel
theorem dX4_plan_13 : decode cX4_plan 13 = .ok (.invokestatic 60, 3) := by decide +kernel
theorem dX4_plan_16 : decode cX4_plan 16 = .ok (.ifCond .ne 5, 3) := by decide +kernel
theorem dX4_plan_19 : decode cX4_plan 19 = .ok (.iconst (-1), 1) := by decide +kernel
theorem dX4_plan_20 : decode cX4_plan 20 = .ok (.ireturn, 1) := by decide +kernel
theorem dX4_plan_21 : decode cX4_plan 21 = .ok (.aload_n 0, 1) := by decide +kernel
theorem dX4_plan_22 : decode cX4_plan 22 = .ok (.iload_n 1, 1) := by decide +kernel
theorem dX4_plan_23 : decode cX4_plan 23 = .ok (.invokevirtual 112, 3) := by decide +kernel
theorem dX4_plan_26 : decode cX4_plan 26 = .ok (.ifCond .lt 12, 3) := by decide +kernel
theorem dX4_plan_29 : decode cX4_plan 29 = .ok (.aload_n 0, 1) := by decide +kernel
theorem dX4_plan_30 : decode cX4_plan 30 = .ok (.getfield 53, 3) := by decide +kernel
theorem dX4_plan_33 : decode cX4_plan 33 = .ok (.iload_n 2, 1) := by decide +kernel
theorem dX4_plan_34 : decode cX4_plan 34 = .ok (.iaload, 1) := by decide +kernel
theorem dX4_plan_35 : decode cX4_plan 35 = .ok (.ifCond .ge 8, 3) := by decide +kernel
theorem dX4_plan_38 : decode cX4_plan 38 = .ok (.bipush (-3), 2) := by decide +kernel
theorem dX4_plan_40 : decode cX4_plan 40 = .ok (.goto 9, 3) := by decide +kernel
theorem dX4_plan_43 : decode cX4_plan 43 = .ok (.aload_n 0, 1) := by decide +kernel
theorem dX4_plan_44 : decode cX4_plan 44 = .ok (.getfield 53, 3) := by decide +kernel
theorem dX4_plan_47 : decode cX4_plan 47 = .ok (.iload_n 2, 1) := by decide +kernel
theorem dX4_plan_48 : decode cX4_plan 48 = .ok (.iaload, 1) := by decide +kernel
theorem dX4_plan_49 : decode cX4_plan 49 = .ok (.ireturn, 1) := by decide +kernel
set_option maxRecDepth 20000 in
theorem ggX4_fences_X4_in : GoodIn wsX4_fences wsX4_in := goodIn_r _ [4] (by decide +kernel) (by decide +kernel)
set_option maxRecDepth 20000 in
theorem gX4_fences_X4_in : GoodIn wsX4_fences (va_wsS RX4 60 yX4_in wsX4_in) := goodIn_app (goodIn_of _ (by decide +kernel)) ggX4_fences_X4_in
set_option maxRecDepth 20000 in
theorem ggX4_fences_X4_findPlan : GoodIn wsX4_fences wsX4_findPlan := goodIn_r _ [8, 9, 10, 11, 12, 13, 14, 3, 15, 16, 17, 18, 19, 20, 21, 22, 23, 24, 25, 26, 27, 28, 29, 30, 31, 32, 33, 34, 35, 36, 37, 38, 39, 40, 41, 42, 43, 44, 45, 46, 47, 48, 49, 50, 51, 52, 53, 54, 55, 56, 57, 58, 1, 2, 4, 59, 60, 61, 62, 63, 64, 65, 66, 67, 68, 69, 70, 71, 72, 73, 74, 75, 76, 77, 78] (by decide +kernel) (by decide +kernel)
set_option maxRecDepth 20000 in
theorem gX4_fences_X4_findPlan : GoodIn wsX4_fences (wsV RX4 112 RX4 yX4_findPlan wsX4_findPlan) := goodIn_app (goodIn_of _ (by decide +kernel)) ggX4_fences_X4_findPlan
theorem dX4_fences_0 : decode cX4_fences 0 = .ok (.iload_n 1, 1) := by decide +kernel
theorem dX4_fences_1 : decode cX4_fences 1 = .ok (.iconst 0, 1) := by decide +kernel
theorem dX4_fences_2 : decode cX4_fences 2 = .ok (.bipush 99, 2) := by decide +kernel
theorem dX4_fences_4 : decode cX4_fences 4 = .ok (.invokestatic 60, 3) := by decide +kernel
theorem dX4_fences_7 : decode cX4_fences 7 = .ok (.ifCond .eq 11, 3) := by decide +kernel
theorem dX4_fences_10 : decode cX4_fences 10 = .ok (.aload_n 0, 1) := by decide +kernel
theorem dX4_fences_11 : decode cX4_fences 11 = .ok (.iload_n 1, 1) := by decide +kernel
theorem dX4_fences_12 : decode cX4_fences 12 = .ok (.invokevirtual 112, 3) := by decide +kernel
theorem dX4_fences_15 : decode cX4_fences 15 = .ok (.goto 4, 3) := by decide +kernel
theorem dX4_fences_18 : decode cX4_fences 18 = .ok (.iconst (-1), 1) := by decide +kernel
theorem dX4_fences_19 : decode cX4_fences 19 = .ok (.ireturn, 1) := by decide +kernel
set_option maxRecDepth 20000 in
theorem ggX4_most_X4_lay : GoodIn wsX4_most wsX4_lay := goodIn_r _ [7, 2, 8, 58, 59, 60, 61, 62, 63, 64, 65, 66, 67, 68, 69, 70, 71, 72, 73] (by decide +kernel) (by decide +kernel)
set_option maxRecDepth 20000 in
theorem gX4_most_X4_lay : GoodIn wsX4_most (wsV RX4 105 RX4 yX4_lay wsX4_lay) := goodIn_app (goodIn_of _ (by decide +kernel)) ggX4_most_X4_lay
set_option maxRecDepth 20000 in
theorem ggX4_most_X4_holds : GoodIn wsX4_most wsX4_holds := goodIn_r _ [12, 1, 13, 14, 15, 16, 6, 17, 18, 19, 20, 21, 22, 23, 24, 25, 26, 27, 28, 29, 30, 31, 32, 33, 8, 34, 35, 36, 37, 38, 2, 39, 40, 41, 42, 43, 44, 45, 46, 47, 48, 49, 50, 51, 52, 53, 54, 55, 56, 57, 58, 59, 60, 61, 62, 63, 64, 65, 66, 67, 68, 69, 70, 71, 72, 73] (by decide +kernel) (by decide +kernel)
set_option maxRecDepth 20000 in
theorem gX4_most_X4_holds : GoodIn wsX4_most (wsV RX4 108 RX4 yX4_holds wsX4_holds) := goodIn_app (goodIn_of _ (by decide +kernel)) ggX4_most_X4_holds
theorem dX4_most_0 : decode cX4_most 0 = .ok (.aload_n 0, 1) := by decide +kernel
theorem dX4_most_1 : decode cX4_most 1 = .ok (.getfield 38, 3) := by decide +kernel
theorem dX4_most_4 : decode cX4_most 4 = .ok (.iconst 0, 1) := by decide +kernel
theorem dX4_most_5 : decode cX4_most 5 = .ok (.iaload, 1) := by decide +kernel
theorem dX4_most_6 : decode cX4_most 6 = .ok (.aload_n 0, 1) := by decide +kernel
theorem dX4_most_7 : decode cX4_most 7 = .ok (.getfield 38, 3) := by decide +kernel
theorem dX4_most_10 : decode cX4_most 10 = .ok (.iconst 1, 1) := by decide +kernel
theorem dX4_most_11 : decode cX4_most 11 = .ok (.iaload, 1) := by decide +kernel
theorem dX4_most_12 : decode cX4_most 12 = .ok (.iadd, 1) := by decide +kernel
theorem dX4_most_13 : decode cX4_most 13 = .ok (.aload_n 0, 1) := by decide +kernel
theorem dX4_most_14 : decode cX4_most 14 = .ok (.getfield 38, 3) := by decide +kernel
theorem dX4_most_17 : decode cX4_most 17 = .ok (.iconst 2, 1) := by decide +kernel
theorem dX4_most_18 : decode cX4_most 18 = .ok (.iaload, 1) := by decide +kernel
theorem dX4_most_19 : decode cX4_most 19 = .ok (.iadd, 1) := by decide +kernel
theorem dX4_most_20 : decode cX4_most 20 = .ok (.ifCond .ne 6, 3) := by decide +kernel
theorem dX4_most_23 : decode cX4_most 23 = .ok (.bipush (-3), 2) := by decide +kernel
theorem dX4_most_25 : decode cX4_most 25 = .ok (.ireturn, 1) := by decide +kernel
theorem dX4_most_26 : decode cX4_most 26 = .ok (.bipush (-3), 2) := by decide +kernel
theorem dX4_most_28 : decode cX4_most 28 = .ok (.istore_n 1, 1) := by decide +kernel
theorem dX4_most_29 : decode cX4_most 29 = .ok (.iconst 0, 1) := by decide +kernel
theorem dX4_most_30 : decode cX4_most 30 = .ok (.istore_n 2, 1) := by decide +kernel
theorem dX4_most_31 : decode cX4_most 31 = .ok (.iload_n 2, 1) := by decide +kernel
theorem dX4_most_32 : decode cX4_most 32 = .ok (.aload_n 0, 1) := by decide +kernel
theorem dX4_most_33 : decode cX4_most 33 = .ok (.getfield 7, 3) := by decide +kernel
theorem dX4_most_36 : decode cX4_most 36 = .ok (.iconst 1, 1) := by decide +kernel
theorem dX4_most_37 : decode cX4_most 37 = .ok (.iadd, 1) := by decide +kernel
theorem dX4_most_38 : decode cX4_most 38 = .ok (.aload_n 0, 1) := by decide +kernel
theorem dX4_most_39 : decode cX4_most 39 = .ok (.getfield 7, 3) := by decide +kernel
theorem dX4_most_42 : decode cX4_most 42 = .ok (.iconst 1, 1) := by decide +kernel
theorem dX4_most_43 : decode cX4_most 43 = .ok (.iadd, 1) := by decide +kernel
theorem dX4_most_44 : decode cX4_most 44 = .ok (.imul, 1) := by decide +kernel
theorem dX4_most_45 : decode cX4_most 45 = .ok (.aload_n 0, 1) := by decide +kernel
theorem dX4_most_46 : decode cX4_most 46 = .ok (.getfield 7, 3) := by decide +kernel
theorem dX4_most_49 : decode cX4_most 49 = .ok (.iconst 1, 1) := by decide +kernel
theorem dX4_most_50 : decode cX4_most 50 = .ok (.iadd, 1) := by decide +kernel
theorem dX4_most_51 : decode cX4_most 51 = .ok (.imul, 1) := by decide +kernel
theorem dX4_most_52 : decode cX4_most 52 = .ok (.if_icmp .ge 39, 3) := by decide +kernel
theorem dX4_most_55 : decode cX4_most 55 = .ok (.aload_n 0, 1) := by decide +kernel
theorem dX4_most_56 : decode cX4_most 56 = .ok (.iload_n 2, 1) := by decide +kernel
theorem dX4_most_57 : decode cX4_most 57 = .ok (.invokevirtual 105, 3) := by decide +kernel
theorem dX4_most_60 : decode cX4_most 60 = .ok (.istore_n 3, 1) := by decide +kernel
theorem dX4_most_61 : decode cX4_most 61 = .ok (.aload_n 0, 1) := by decide +kernel
theorem dX4_most_62 : decode cX4_most 62 = .ok (.invokevirtual 108, 3) := by decide +kernel
theorem dX4_most_65 : decode cX4_most 65 = .ok (.istore 4, 2) := by decide +kernel
theorem dX4_most_67 : decode cX4_most 67 = .ok (.iload 4, 2) := by decide +kernel
theorem dX4_most_69 : decode cX4_most 69 = .ok (.ifCond .lt 14, 3) := by decide +kernel
theorem dX4_most_72 : decode cX4_most 72 = .ok (.iload 4, 2) := by decide +kernel
theorem dX4_most_74 : decode cX4_most 74 = .ok (.iload_n 1, 1) := by decide +kernel
theorem dX4_most_75 : decode cX4_most 75 = .ok (.if_icmp .le 8, 3) := by decide +kernel
theorem dX4_most_78 : decode cX4_most 78 = .ok (.iload 4, 2) := by decide +kernel
theorem dX4_most_80 : decode cX4_most 80 = .ok (.goto 4, 3) := by decide +kernel
theorem dX4_most_83 : decode cX4_most 83 = .ok (.iload_n 1, 1) := by decide +kernel
theorem dX4_most_84 : decode cX4_most 84 = .ok (.istore_n 1, 1) := by decide +kernel
theorem dX4_most_85 : decode cX4_most 85 = .ok (.iinc 2 1, 3) := by decide +kernel
theorem dX4_most_88 : decode cX4_most 88 = .ok (.goto (-57), 3) := by decide +kernel
theorem dX4_most_91 : decode cX4_most 91 = .ok (.iload_n 1, 1) := by decide +kernel
theorem dX4_most_92 : decode cX4_most 92 = .ok (.ireturn, 1) := by decide +kernel
set_option maxRecDepth 20000 in
theorem ggX4_read_X4_isCell : GoodIn wsX4_read wsX4_isCell := goodIn_r _ [6, 7, 8, 9, 5, 10, 11, 12, 13, 14, 15, 16, 17, 18, 19, 20, 21, 22, 23, 24, 25, 26] (by decide +kernel) (by decide +kernel)
set_option maxRecDepth 20000 in
theorem gX4_read_X4_isCell : GoodIn wsX4_read (wsV RX4 64 RX4 yX4_isCell wsX4_isCell) := goodIn_app (goodIn_of _ (by decide +kernel)) ggX4_read_X4_isCell
set_option maxRecDepth 20000 in
theorem ggX4_read_X4_in : GoodIn wsX4_read wsX4_in := goodIn_r _ [10] (by decide +kernel) (by decide +kernel)
set_option maxRecDepth 20000 in
theorem gX4_read_X4_in : GoodIn wsX4_read (va_wsS RX4 60 yX4_in wsX4_in) := goodIn_app (goodIn_of _ (by decide +kernel)) ggX4_read_X4_in
theorem dX4_read_0 : decode cX4_read 0 = .ok (.aload_n 0, 1) := by decide +kernel
theorem dX4_read_1 : decode cX4_read 1 = .ok (.iload_n 1, 1) := by decide +kernel
theorem dX4_read_2 : decode cX4_read 2 = .ok (.invokevirtual 64, 3) := by decide +kernel
theorem dX4_read_5 : decode cX4_read 5 = .ok (.ifCond .eq 13, 3) := by decide +kernel
theorem dX4_read_8 : decode cX4_read 8 = .ok (.iload_n 2, 1) := by decide +kernel
theorem dX4_read_9 : decode cX4_read 9 = .ok (.iconst (-1), 1) := by decide +kernel
theorem dX4_read_10 : decode cX4_read 10 = .ok (.bipush 99, 2) := by decide +kernel
theorem dX4_read_12 : decode cX4_read 12 = .ok (.invokestatic 60, 3) := by decide +kernel
theorem dX4_read_15 : decode cX4_read 15 = .ok (.ifCond .ne 6, 3) := by decide +kernel
theorem dX4_read_18 : decode cX4_read 18 = .ok (.bipush (-9), 2) := by decide +kernel
theorem dX4_read_20 : decode cX4_read 20 = .ok (.ireturn, 1) := by decide +kernel
theorem dX4_read_21 : decode cX4_read 21 = .ok (.aload_n 0, 1) := by decide +kernel
theorem dX4_read_22 : decode cX4_read 22 = .ok (.getfield 47, 3) := by decide +kernel
theorem dX4_read_25 : decode cX4_read 25 = .ok (.iload_n 1, 1) := by decide +kernel
theorem dX4_read_26 : decode cX4_read 26 = .ok (.iaload, 1) := by decide +kernel
theorem dX4_read_27 : decode cX4_read 27 = .ok (.istore_n 3, 1) := by decide +kernel
theorem dX4_read_28 : decode cX4_read 28 = .ok (.aload_n 0, 1) := by decide +kernel
theorem dX4_read_29 : decode cX4_read 29 = .ok (.getfield 47, 3) := by decide +kernel
theorem dX4_read_32 : decode cX4_read 32 = .ok (.iload_n 1, 1) := by decide +kernel
theorem dX4_read_33 : decode cX4_read 33 = .ok (.iload_n 2, 1) := by decide +kernel
theorem dX4_read_34 : decode cX4_read 34 = .ok (.iastore, 1) := by decide +kernel
theorem dX4_read_35 : decode cX4_read 35 = .ok (.iload_n 3, 1) := by decide +kernel
theorem dX4_read_36 : decode cX4_read 36 = .ok (.ireturn, 1) := by decide +kernel
theorem dX4_take_0 : decode cX4_take 0 = .ok (.iconst 0, 1) := by decide +kernel
theorem dX4_take_1 : decode cX4_take 1 = .ok (.istore_n 1, 1) := by decide +kernel
theorem dX4_take_2 : decode cX4_take 2 = .ok (.iconst 0, 1) := by decide +kernel
theorem dX4_take_3 : decode cX4_take 3 = .ok (.istore_n 2, 1) := by decide +kernel
theorem dX4_take_4 : decode cX4_take 4 = .ok (.iload_n 2, 1) := by decide +kernel
theorem dX4_take_5 : decode cX4_take 5 = .ok (.aload_n 0, 1) := by decide +kernel
theorem dX4_take_6 : decode cX4_take 6 = .ok (.getfield 7, 3) := by decide +kernel
theorem dX4_take_9 : decode cX4_take 9 = .ok (.if_icmp .ge 44, 3) := by decide +kernel
theorem dX4_take_12 : decode cX4_take 12 = .ok (.iload_n 1, 1) := by decide +kernel
theorem dX4_take_13 : decode cX4_take 13 = .ok (.aload_n 0, 1) := by decide +kernel
theorem dX4_take_14 : decode cX4_take 14 = .ok (.getfield 47, 3) := by decide +kernel
theorem dX4_take_17 : decode cX4_take 17 = .ok (.iload_n 2, 1) := by decide +kernel
theorem dX4_take_18 : decode cX4_take 18 = .ok (.iaload, 1) := by decide +kernel
theorem dX4_take_19 : decode cX4_take 19 = .ok (.aload_n 0, 1) := by decide +kernel
theorem dX4_take_20 : decode cX4_take 20 = .ok (.getfield 16, 3) := by decide +kernel
theorem dX4_take_23 : decode cX4_take 23 = .ok (.iload_n 2, 1) := by decide +kernel
theorem dX4_take_24 : decode cX4_take 24 = .ok (.iaload, 1) := by decide +kernel
theorem dX4_take_25 : decode cX4_take 25 = .ok (.if_icmp .eq 7, 3) := by decide +kernel
theorem dX4_take_28 : decode cX4_take 28 = .ok (.iconst 1, 1) := by decide +kernel
theorem dX4_take_29 : decode cX4_take 29 = .ok (.goto 4, 3) := by decide +kernel
theorem dX4_take_32 : decode cX4_take 32 = .ok (.iconst 0, 1) := by decide +kernel
theorem dX4_take_33 : decode cX4_take 33 = .ok (.iadd, 1) := by decide +kernel
theorem dX4_take_34 : decode cX4_take 34 = .ok (.istore_n 1, 1) := by decide +kernel
theorem dX4_take_35 : decode cX4_take 35 = .ok (.aload_n 0, 1) := by decide +kernel
theorem dX4_take_36 : decode cX4_take 36 = .ok (.getfield 47, 3) := by decide +kernel
theorem dX4_take_39 : decode cX4_take 39 = .ok (.iload_n 2, 1) := by decide +kernel
theorem dX4_take_40 : decode cX4_take 40 = .ok (.aload_n 0, 1) := by decide +kernel
theorem dX4_take_41 : decode cX4_take 41 = .ok (.getfield 16, 3) := by decide +kernel
theorem dX4_take_44 : decode cX4_take 44 = .ok (.iload_n 2, 1) := by decide +kernel
theorem dX4_take_45 : decode cX4_take 45 = .ok (.iaload, 1) := by decide +kernel
theorem dX4_take_46 : decode cX4_take 46 = .ok (.iastore, 1) := by decide +kernel
theorem dX4_take_47 : decode cX4_take 47 = .ok (.iinc 2 1, 3) := by decide +kernel
theorem dX4_take_50 : decode cX4_take 50 = .ok (.goto (-46), 3) := by decide +kernel
theorem dX4_take_53 : decode cX4_take 53 = .ok (.iload_n 1, 1) := by decide +kernel
theorem dX4_take_54 : decode cX4_take 54 = .ok (.ireturn, 1) := by decide +kernel
theorem dX4_readings_0 : decode cX4_readings 0 = .ok (.iconst 0, 1) := by decide +kernel
theorem dX4_readings_1 : decode cX4_readings 1 = .ok (.istore_n 1, 1) := by decide +kernel
theorem dX4_readings_2 : decode cX4_readings 2 = .ok (.iconst 0, 1) := by decide +kernel
theorem dX4_readings_3 : decode cX4_readings 3 = .ok (.istore_n 2, 1) := by decide +kernel
theorem dX4_readings_4 : decode cX4_readings 4 = .ok (.iload_n 2, 1) := by decide +kernel
theorem dX4_readings_5 : decode cX4_readings 5 = .ok (.aload_n 0, 1) := by decide +kernel
theorem dX4_readings_6 : decode cX4_readings 6 = .ok (.getfield 7, 3) := by decide +kernel
theorem dX4_readings_9 : decode cX4_readings 9 = .ok (.if_icmp .ge 26, 3) := by decide +kernel
theorem dX4_readings_12 : decode cX4_readings 12 = .ok (.iload_n 1, 1) := by decide +kernel
theorem dX4_readings_13 : decode cX4_readings 13 = .ok (.aload_n 0, 1) := by decide +kernel
theorem dX4_readings_14 : decode cX4_readings 14 = .ok (.getfield 47, 3) := by decide +kernel
theorem dX4_readings_17 : decode cX4_readings 17 = .ok (.iload_n 2, 1) := by decide +kernel
theorem dX4_readings_18 : decode cX4_readings 18 = .ok (.iaload, 1) := by decide +kernel
theorem dX4_readings_19 : decode cX4_readings 19 = .ok (.ifCond .lt 7, 3) := by decide +kernel
theorem dX4_readings_22 : decode cX4_readings 22 = .ok (.iconst 1, 1) := by decide +kernel
theorem dX4_readings_23 : decode cX4_readings 23 = .ok (.goto 4, 3) := by decide +kernel
theorem dX4_readings_26 : decode cX4_readings 26 = .ok (.iconst 0, 1) := by decide +kernel
theorem dX4_readings_27 : decode cX4_readings 27 = .ok (.iadd, 1) := by decide +kernel
theorem dX4_readings_28 : decode cX4_readings 28 = .ok (.istore_n 1, 1) := by decide +kernel
theorem dX4_readings_29 : decode cX4_readings 29 = .ok (.iinc 2 1, 3) := by decide +kernel
theorem dX4_readings_32 : decode cX4_readings 32 = .ok (.goto (-28), 3) := by decide +kernel
theorem dX4_readings_35 : decode cX4_readings 35 = .ok (.iload_n 1, 1) := by decide +kernel
theorem dX4_readings_36 : decode cX4_readings 36 = .ok (.ireturn, 1) := by decide +kernel
theorem dX4_levelOf_0 : decode cX4_levelOf 0 = .ok (.iload_n 1, 1) := by decide +kernel
theorem dX4_levelOf_1 : decode cX4_levelOf 1 = .ok (.istore_n 2, 1) := by decide +kernel
theorem dX4_levelOf_2 : decode cX4_levelOf 2 = .ok (.iload_n 1, 1) := by decide +kernel
theorem dX4_levelOf_3 : decode cX4_levelOf 3 = .ok (.istore_n 3, 1) := by decide +kernel
theorem dX4_levelOf_4 : decode cX4_levelOf 4 = .ok (.iload_n 2, 1) := by decide +kernel
theorem dX4_levelOf_5 : decode cX4_levelOf 5 = .ok (.ifCond .lt 18, 3) := by decide +kernel
theorem dX4_levelOf_8 : decode cX4_levelOf 8 = .ok (.aload_n 0, 1) := by decide +kernel
theorem dX4_levelOf_9 : decode cX4_levelOf 9 = .ok (.getfield 47, 3) := by decide +kernel
theorem dX4_levelOf_12 : decode cX4_levelOf 12 = .ok (.iload_n 2, 1) := by decide +kernel
theorem dX4_levelOf_13 : decode cX4_levelOf 13 = .ok (.iaload, 1) := by decide +kernel
theorem dX4_levelOf_14 : decode cX4_levelOf 14 = .ok (.ifCond .ge 9, 3) := by decide +kernel
theorem dX4_levelOf_17 : decode cX4_levelOf 17 = .ok (.iinc 2 (-1), 3) := by decide +kernel
theorem dX4_levelOf_20 : decode cX4_levelOf 20 = .ok (.goto (-16), 3) := by decide +kernel
theorem dX4_levelOf_23 : decode cX4_levelOf 23 = .ok (.iload_n 3, 1) := by decide +kernel
theorem dX4_levelOf_24 : decode cX4_levelOf 24 = .ok (.aload_n 0, 1) := by decide +kernel
theorem dX4_levelOf_25 : decode cX4_levelOf 25 = .ok (.getfield 7, 3) := by decide +kernel
theorem dX4_levelOf_28 : decode cX4_levelOf 28 = .ok (.if_icmp .ge 18, 3) := by decide +kernel
theorem dX4_levelOf_31 : decode cX4_levelOf 31 = .ok (.aload_n 0, 1) := by decide +kernel
theorem dX4_levelOf_32 : decode cX4_levelOf 32 = .ok (.getfield 47, 3) := by decide +kernel
theorem dX4_levelOf_35 : decode cX4_levelOf 35 = .ok (.iload_n 3, 1) := by decide +kernel
theorem dX4_levelOf_36 : decode cX4_levelOf 36 = .ok (.iaload, 1) := by decide +kernel
theorem dX4_levelOf_37 : decode cX4_levelOf 37 = .ok (.ifCond .ge 9, 3) := by decide +kernel
theorem dX4_levelOf_40 : decode cX4_levelOf 40 = .ok (.iinc 3 1, 3) := by decide +kernel
theorem dX4_levelOf_43 : decode cX4_levelOf 43 = .ok (.goto (-20), 3) := by decide +kernel
theorem dX4_levelOf_46 : decode cX4_levelOf 46 = .ok (.iload_n 2, 1) := by decide +kernel
theorem dX4_levelOf_47 : decode cX4_levelOf 47 = .ok (.ifCond .ge 13, 3) := by decide +kernel
theorem dX4_levelOf_50 : decode cX4_levelOf 50 = .ok (.bipush 60, 2) := by decide +kernel
theorem dX4_levelOf_52 : decode cX4_levelOf 52 = .ok (.aload_n 0, 1) := by decide +kernel
theorem dX4_levelOf_53 : decode cX4_levelOf 53 = .ok (.getfield 47, 3) := by decide +kernel
theorem dX4_levelOf_56 : decode cX4_levelOf 56 = .ok (.iload_n 3, 1) := by decide +kernel
theorem dX4_levelOf_57 : decode cX4_levelOf 57 = .ok (.iaload, 1) := by decide +kernel
theorem dX4_levelOf_58 : decode cX4_levelOf 58 = .ok (.imul, 1) := by decide +kernel
theorem dX4_levelOf_59 : decode cX4_levelOf 59 = .ok (.ireturn, 1) := by decide +kernel
theorem dX4_levelOf_60 : decode cX4_levelOf 60 = .ok (.iload_n 3, 1) := by decide +kernel
theorem dX4_levelOf_61 : decode cX4_levelOf 61 = .ok (.aload_n 0, 1) := by decide +kernel
theorem dX4_levelOf_62 : decode cX4_levelOf 62 = .ok (.getfield 7, 3) := by decide +kernel
theorem dX4_levelOf_65 : decode cX4_levelOf 65 = .ok (.if_icmp .eq 8, 3) := by decide +kernel
theorem dX4_levelOf_68 : decode cX4_levelOf 68 = .ok (.iload_n 2, 1) := by decide +kernel
theorem dX4_levelOf_69 : decode cX4_levelOf 69 = .ok (.iload_n 3, 1) := by decide +kernel
theorem dX4_levelOf_70 : decode cX4_levelOf 70 = .ok (.if_icmp .ne 13, 3) := by decide +kernel
theorem dX4_levelOf_73 : decode cX4_levelOf 73 = .ok (.bipush 60, 2) := by decide +kernel
theorem dX4_levelOf_75 : decode cX4_levelOf 75 = .ok (.aload_n 0, 1) := by decide +kernel
theorem dX4_levelOf_76 : decode cX4_levelOf 76 = .ok (.getfield 47, 3) := by decide +kernel
theorem dX4_levelOf_79 : decode cX4_levelOf 79 = .ok (.iload_n 2, 1) := by decide +kernel
theorem dX4_levelOf_80 : decode cX4_levelOf 80 = .ok (.iaload, 1) := by decide +kernel
theorem dX4_levelOf_81 : decode cX4_levelOf 81 = .ok (.imul, 1) := by decide +kernel
theorem dX4_levelOf_82 : decode cX4_levelOf 82 = .ok (.ireturn, 1) := by decide +kernel
theorem dX4_levelOf_83 : decode cX4_levelOf 83 = .ok (.bipush 60, 2) := by decide +kernel
theorem dX4_levelOf_85 : decode cX4_levelOf 85 = .ok (.iload_n 3, 1) := by decide +kernel
theorem dX4_levelOf_86 : decode cX4_levelOf 86 = .ok (.iload_n 2, 1) := by decide +kernel
theorem dX4_levelOf_87 : decode cX4_levelOf 87 = .ok (.isub, 1) := by decide +kernel
theorem dX4_levelOf_88 : decode cX4_levelOf 88 = .ok (.idiv, 1) := by decide +kernel
theorem dX4_levelOf_89 : decode cX4_levelOf 89 = .ok (.aload_n 0, 1) := by decide +kernel
theorem dX4_levelOf_90 : decode cX4_levelOf 90 = .ok (.getfield 47, 3) := by decide +kernel
theorem dX4_levelOf_93 : decode cX4_levelOf 93 = .ok (.iload_n 2, 1) := by decide +kernel
theorem dX4_levelOf_94 : decode cX4_levelOf 94 = .ok (.iaload, 1) := by decide +kernel
theorem dX4_levelOf_95 : decode cX4_levelOf 95 = .ok (.iload_n 3, 1) := by decide +kernel
theorem dX4_levelOf_96 : decode cX4_levelOf 96 = .ok (.iload_n 1, 1) := by decide +kernel
theorem dX4_levelOf_97 : decode cX4_levelOf 97 = .ok (.isub, 1) := by decide +kernel
theorem dX4_levelOf_98 : decode cX4_levelOf 98 = .ok (.imul, 1) := by decide +kernel
theorem dX4_levelOf_99 : decode cX4_levelOf 99 = .ok (.aload_n 0, 1) := by decide +kernel
theorem dX4_levelOf_100 : decode cX4_levelOf 100 = .ok (.getfield 47, 3) := by decide +kernel
theorem dX4_levelOf_103 : decode cX4_levelOf 103 = .ok (.iload_n 3, 1) := by decide +kernel
theorem dX4_levelOf_104 : decode cX4_levelOf 104 = .ok (.iaload, 1) := by decide +kernel
theorem dX4_levelOf_105 : decode cX4_levelOf 105 = .ok (.iload_n 1, 1) := by decide +kernel
theorem dX4_levelOf_106 : decode cX4_levelOf 106 = .ok (.iload_n 2, 1) := by decide +kernel
theorem dX4_levelOf_107 : decode cX4_levelOf 107 = .ok (.isub, 1) := by decide +kernel
theorem dX4_levelOf_108 : decode cX4_levelOf 108 = .ok (.imul, 1) := by decide +kernel
theorem dX4_levelOf_109 : decode cX4_levelOf 109 = .ok (.iadd, 1) := by decide +kernel
theorem dX4_levelOf_110 : decode cX4_levelOf 110 = .ok (.imul, 1) := by decide +kernel
theorem dX4_levelOf_111 : decode cX4_levelOf 111 = .ok (.ireturn, 1) := by decide +kernel
set_option maxRecDepth 20000 in
theorem ggX4_volumeNow_X4_levelOf : GoodIn wsX4_volumeNow wsX4_levelOf := goodIn_r _ [6, 7, 1, 8, 9, 10, 11, 12, 13, 14, 15, 16, 17, 18, 19, 20, 21, 22, 23] (by decide +kernel) (by decide +kernel)
set_option maxRecDepth 20000 in
theorem gX4_volumeNow_X4_levelOf : GoodIn wsX4_volumeNow (wsV RX4 115 RX4 yX4_levelOf wsX4_levelOf) := goodIn_app (goodIn_of _ (by decide +kernel)) ggX4_volumeNow_X4_levelOf
theorem dX4_volumeNow_0 : decode cX4_volumeNow 0 = .ok (.iconst 0, 1) := by decide +kernel
theorem dX4_volumeNow_1 : decode cX4_volumeNow 1 = .ok (.istore_n 1, 1) := by decide +kernel
theorem dX4_volumeNow_2 : decode cX4_volumeNow 2 = .ok (.iconst 0, 1) := by decide +kernel
theorem dX4_volumeNow_3 : decode cX4_volumeNow 3 = .ok (.istore_n 2, 1) := by decide +kernel
theorem dX4_volumeNow_4 : decode cX4_volumeNow 4 = .ok (.iload_n 2, 1) := by decide +kernel
theorem dX4_volumeNow_5 : decode cX4_volumeNow 5 = .ok (.aload_n 0, 1) := by decide +kernel
theorem dX4_volumeNow_6 : decode cX4_volumeNow 6 = .ok (.getfield 7, 3) := by decide +kernel
theorem dX4_volumeNow_9 : decode cX4_volumeNow 9 = .ok (.if_icmp .ge 17, 3) := by decide +kernel
theorem dX4_volumeNow_12 : decode cX4_volumeNow 12 = .ok (.iload_n 1, 1) := by decide +kernel
theorem dX4_volumeNow_13 : decode cX4_volumeNow 13 = .ok (.aload_n 0, 1) := by decide +kernel
theorem dX4_volumeNow_14 : decode cX4_volumeNow 14 = .ok (.iload_n 2, 1) := by decide +kernel
theorem dX4_volumeNow_15 : decode cX4_volumeNow 15 = .ok (.invokevirtual 115, 3) := by decide +kernel
theorem dX4_volumeNow_18 : decode cX4_volumeNow 18 = .ok (.iadd, 1) := by decide +kernel
theorem dX4_volumeNow_19 : decode cX4_volumeNow 19 = .ok (.istore_n 1, 1) := by decide +kernel
theorem dX4_volumeNow_20 : decode cX4_volumeNow 20 = .ok (.iinc 2 1, 3) := by decide +kernel
theorem dX4_volumeNow_23 : decode cX4_volumeNow 23 = .ok (.goto (-19), 3) := by decide +kernel
theorem dX4_volumeNow_26 : decode cX4_volumeNow 26 = .ok (.iload_n 1, 1) := by decide +kernel
theorem dX4_volumeNow_27 : decode cX4_volumeNow 27 = .ok (.ireturn, 1) := by decide +kernel
theorem dX4_part_0 : decode cX4_part 0 = .ok (.iload_n 0, 1) := by decide +kernel
theorem dX4_part_1 : decode cX4_part 1 = .ok (.istore_n 2, 1) := by decide +kernel
theorem dX4_part_2 : decode cX4_part 2 = .ok (.bipush 60, 2) := by decide +kernel
theorem dX4_part_4 : decode cX4_part 4 = .ok (.istore_n 3, 1) := by decide +kernel
theorem dX4_part_5 : decode cX4_part 5 = .ok (.iload_n 3, 1) := by decide +kernel
theorem dX4_part_6 : decode cX4_part 6 = .ok (.ifCond .eq 16, 3) := by decide +kernel
theorem dX4_part_9 : decode cX4_part 9 = .ok (.iload_n 2, 1) := by decide +kernel
theorem dX4_part_10 : decode cX4_part 10 = .ok (.iload_n 3, 1) := by decide +kernel
theorem dX4_part_11 : decode cX4_part 11 = .ok (.irem, 1) := by decide +kernel
theorem dX4_part_12 : decode cX4_part 12 = .ok (.istore 4, 2) := by decide +kernel
theorem dX4_part_14 : decode cX4_part 14 = .ok (.iload_n 3, 1) := by decide +kernel
theorem dX4_part_15 : decode cX4_part 15 = .ok (.istore_n 2, 1) := by decide +kernel
theorem dX4_part_16 : decode cX4_part 16 = .ok (.iload 4, 2) := by decide +kernel
theorem dX4_part_18 : decode cX4_part 18 = .ok (.istore_n 3, 1) := by decide +kernel
theorem dX4_part_19 : decode cX4_part 19 = .ok (.goto (-14), 3) := by decide +kernel
theorem dX4_part_22 : decode cX4_part 22 = .ok (.iload_n 1, 1) := by decide +kernel
theorem dX4_part_23 : decode cX4_part 23 = .ok (.ifCond .ne 7, 3) := by decide +kernel
theorem dX4_part_26 : decode cX4_part 26 = .ok (.iload_n 0, 1) := by decide +kernel
theorem dX4_part_27 : decode cX4_part 27 = .ok (.goto 5, 3) := by decide +kernel
theorem dX4_part_30 : decode cX4_part 30 = .ok (.bipush 60, 2) := by decide +kernel
theorem dX4_part_32 : decode cX4_part 32 = .ok (.iload_n 2, 1) := by decide +kernel
theorem dX4_part_33 : decode cX4_part 33 = .ok (.idiv, 1) := by decide +kernel
theorem dX4_part_34 : decode cX4_part 34 = .ok (.ireturn, 1) := by decide +kernel
set_option maxRecDepth 20000 in
theorem ggX4_level_X4_isCell : GoodIn wsX4_level wsX4_isCell := goodIn_r _ [5, 6, 7, 8, 4, 9, 22, 23, 24, 25, 26, 27, 28, 29, 30, 31, 32, 33, 34, 35, 36, 37] (by decide +kernel) (by decide +kernel)
set_option maxRecDepth 20000 in
theorem gX4_level_X4_isCell : GoodIn wsX4_level (wsV RX4 64 RX4 yX4_isCell wsX4_isCell) := goodIn_app (goodIn_of _ (by decide +kernel)) ggX4_level_X4_isCell
set_option maxRecDepth 20000 in
theorem ggX4_level_X4_in : GoodIn wsX4_level wsX4_in := goodIn_r _ [9] (by decide +kernel) (by decide +kernel)
set_option maxRecDepth 20000 in
theorem gX4_level_X4_in : GoodIn wsX4_level (va_wsS RX4 60 yX4_in wsX4_in) := goodIn_app (goodIn_of _ (by decide +kernel)) ggX4_level_X4_in
set_option maxRecDepth 20000 in
theorem ggX4_level_X4_readings : GoodIn wsX4_level wsX4_readings := goodIn_r _ [13, 6, 14, 22, 23, 24, 25, 26, 27, 28, 29, 30, 31, 32, 33, 34, 35, 36, 37] (by decide +kernel) (by decide +kernel)
set_option maxRecDepth 20000 in
theorem gX4_level_X4_readings : GoodIn wsX4_level (wsV RX4 118 RX4 yX4_readings wsX4_readings) := goodIn_app (goodIn_of _ (by decide +kernel)) ggX4_level_X4_readings
set_option maxRecDepth 20000 in
theorem ggX4_level_X4_levelOf : GoodIn wsX4_level wsX4_levelOf := goodIn_r _ [18, 14, 6, 22, 23, 24, 25, 26, 27, 28, 29, 30, 31, 32, 33, 34, 35, 36, 37] (by decide +kernel) (by decide +kernel)
set_option maxRecDepth 20000 in
theorem gX4_level_X4_levelOf : GoodIn wsX4_level (wsV RX4 115 RX4 yX4_levelOf wsX4_levelOf) := goodIn_app (goodIn_of _ (by decide +kernel)) ggX4_level_X4_levelOf
set_option maxRecDepth 20000 in
theorem ggX4_level_X4_part : GoodIn wsX4_level wsX4_part := goodIn_r _ [21] (by decide +kernel) (by decide +kernel)
set_option maxRecDepth 20000 in
theorem gX4_level_X4_part : GoodIn wsX4_level (va_wsS RX4 121 yX4_part wsX4_part) := goodIn_app (goodIn_of _ (by decide +kernel)) ggX4_level_X4_part
theorem dX4_level_0 : decode cX4_level 0 = .ok (.aload_n 0, 1) := by decide +kernel
theorem dX4_level_1 : decode cX4_level 1 = .ok (.iload_n 1, 1) := by decide +kernel
theorem dX4_level_2 : decode cX4_level 2 = .ok (.invokevirtual 64, 3) := by decide +kernel
theorem dX4_level_5 : decode cX4_level 5 = .ok (.ifCond .eq 12, 3) := by decide +kernel
theorem dX4_level_8 : decode cX4_level 8 = .ok (.iload_n 2, 1) := by decide +kernel
theorem dX4_level_9 : decode cX4_level 9 = .ok (.iconst 0, 1) := by decide +kernel
theorem dX4_level_10 : decode cX4_level 10 = .ok (.iconst 1, 1) := by decide +kernel
theorem dX4_level_11 : decode cX4_level 11 = .ok (.invokestatic 60, 3) := by decide +kernel
theorem dX4_level_14 : decode cX4_level 14 = .ok (.ifCond .ne 5, 3) := by decide +kernel
theorem dX4_level_17 : decode cX4_level 17 = .ok (.iconst (-1), 1) := by decide +kernel
theorem dX4_level_18 : decode cX4_level 18 = .ok (.ireturn, 1) := by decide +kernel
theorem dX4_level_19 : decode cX4_level 19 = .ok (.aload_n 0, 1) := by decide +kernel
theorem dX4_level_20 : decode cX4_level 20 = .ok (.invokevirtual 118, 3) := by decide +kernel
theorem dX4_level_23 : decode cX4_level 23 = .ok (.ifCond .ne 8, 3) := by decide +kernel
theorem dX4_level_26 : decode cX4_level 26 = .ok (.bipush (-3), 2) := by decide +kernel
theorem dX4_level_28 : decode cX4_level 28 = .ok (.goto 12, 3) := by decide +kernel
theorem dX4_level_31 : decode cX4_level 31 = .ok (.aload_n 0, 1) := by decide +kernel
theorem dX4_level_32 : decode cX4_level 32 = .ok (.iload_n 1, 1) := by decide +kernel
theorem dX4_level_33 : decode cX4_level 33 = .ok (.invokevirtual 115, 3) := by decide +kernel
theorem dX4_level_36 : decode cX4_level 36 = .ok (.iload_n 2, 1) := by decide +kernel
theorem dX4_level_37 : decode cX4_level 37 = .ok (.invokestatic 121, 3) := by decide +kernel
theorem dX4_level_40 : decode cX4_level 40 = .ok (.ireturn, 1) := by decide +kernel
set_option maxRecDepth 20000 in
theorem ggX4_volume_X4_in : GoodIn wsX4_volume wsX4_in := goodIn_r _ [4] (by decide +kernel) (by decide +kernel)
set_option maxRecDepth 20000 in
theorem gX4_volume_X4_in : GoodIn wsX4_volume (va_wsS RX4 60 yX4_in wsX4_in) := goodIn_app (goodIn_of _ (by decide +kernel)) ggX4_volume_X4_in
set_option maxRecDepth 20000 in
theorem ggX4_volume_X4_readings : GoodIn wsX4_volume wsX4_readings := goodIn_r _ [8, 9, 10, 22, 23, 24, 25, 26, 27, 28, 29, 30, 31, 32, 33, 34, 35, 36, 37] (by decide +kernel) (by decide +kernel)
set_option maxRecDepth 20000 in
theorem gX4_volume_X4_readings : GoodIn wsX4_volume (wsV RX4 118 RX4 yX4_readings wsX4_readings) := goodIn_app (goodIn_of _ (by decide +kernel)) ggX4_volume_X4_readings
set_option maxRecDepth 20000 in
theorem ggX4_volume_X4_volumeNow : GoodIn wsX4_volume wsX4_volumeNow := goodIn_r _ [14, 9, 15, 16, 17, 3, 18, 10, 22, 23, 24, 25, 26, 27, 28, 29, 30, 31, 32, 33, 34, 35, 36, 37] (by decide +kernel) (by decide +kernel)
set_option maxRecDepth 20000 in
theorem gX4_volume_X4_volumeNow : GoodIn wsX4_volume (wsV RX4 124 RX4 yX4_volumeNow wsX4_volumeNow) := goodIn_app (goodIn_of _ (by decide +kernel)) ggX4_volume_X4_volumeNow
set_option maxRecDepth 20000 in
theorem ggX4_volume_X4_part : GoodIn wsX4_volume wsX4_part := goodIn_r _ [21] (by decide +kernel) (by decide +kernel)
set_option maxRecDepth 20000 in
theorem gX4_volume_X4_part : GoodIn wsX4_volume (va_wsS RX4 121 yX4_part wsX4_part) := goodIn_app (goodIn_of _ (by decide +kernel)) ggX4_volume_X4_part
theorem dX4_volume_0 : decode cX4_volume 0 = .ok (.iload_n 1, 1) := by decide +kernel
theorem dX4_volume_1 : decode cX4_volume 1 = .ok (.iconst 0, 1) := by decide +kernel
theorem dX4_volume_2 : decode cX4_volume 2 = .ok (.iconst 1, 1) := by decide +kernel
theorem dX4_volume_3 : decode cX4_volume 3 = .ok (.invokestatic 60, 3) := by decide +kernel
theorem dX4_volume_6 : decode cX4_volume 6 = .ok (.ifCond .ne 5, 3) := by decide +kernel
theorem dX4_volume_9 : decode cX4_volume 9 = .ok (.iconst (-1), 1) := by decide +kernel
theorem dX4_volume_10 : decode cX4_volume 10 = .ok (.ireturn, 1) := by decide +kernel
theorem dX4_volume_11 : decode cX4_volume 11 = .ok (.aload_n 0, 1) := by decide +kernel
theorem dX4_volume_12 : decode cX4_volume 12 = .ok (.invokevirtual 118, 3) := by decide +kernel
theorem dX4_volume_15 : decode cX4_volume 15 = .ok (.ifCond .ne 8, 3) := by decide +kernel
theorem dX4_volume_18 : decode cX4_volume 18 = .ok (.bipush (-3), 2) := by decide +kernel
theorem dX4_volume_20 : decode cX4_volume 20 = .ok (.goto 11, 3) := by decide +kernel
theorem dX4_volume_23 : decode cX4_volume 23 = .ok (.aload_n 0, 1) := by decide +kernel
theorem dX4_volume_24 : decode cX4_volume 24 = .ok (.invokevirtual 124, 3) := by decide +kernel
theorem dX4_volume_27 : decode cX4_volume 27 = .ok (.iload_n 1, 1) := by decide +kernel
theorem dX4_volume_28 : decode cX4_volume 28 = .ok (.invokestatic 121, 3) := by decide +kernel
theorem dX4_volume_31 : decode cX4_volume 31 = .ok (.ireturn, 1) := by decide +kernel
set_option maxRecDepth 20000 in
theorem ggX4_doubt_X4_in : GoodIn wsX4_doubt wsX4_in := goodIn_r _ [6] (by decide +kernel) (by decide +kernel)
set_option maxRecDepth 20000 in
theorem gX4_doubt_X4_in : GoodIn wsX4_doubt (va_wsS RX4 60 yX4_in wsX4_in) := goodIn_app (goodIn_of _ (by decide +kernel)) ggX4_doubt_X4_in
set_option maxRecDepth 20000 in
theorem ggX4_doubt_X4_readings : GoodIn wsX4_doubt wsX4_readings := goodIn_r _ [10, 1, 2, 22, 23, 24, 25, 26, 27, 28, 29, 30, 31, 32, 33, 34, 35, 36, 37] (by decide +kernel) (by decide +kernel)
set_option maxRecDepth 20000 in
theorem gX4_doubt_X4_readings : GoodIn wsX4_doubt (wsV RX4 118 RX4 yX4_readings wsX4_readings) := goodIn_app (goodIn_of _ (by decide +kernel)) ggX4_doubt_X4_readings
set_option maxRecDepth 20000 in
theorem ggX4_doubt_X4_volumeNow : GoodIn wsX4_doubt wsX4_volumeNow := goodIn_r _ [14, 1, 15, 16, 17, 5, 18, 2, 22, 23, 24, 25, 26, 27, 28, 29, 30, 31, 32, 33, 34, 35, 36, 37] (by decide +kernel) (by decide +kernel)
set_option maxRecDepth 20000 in
theorem gX4_doubt_X4_volumeNow : GoodIn wsX4_doubt (wsV RX4 124 RX4 yX4_volumeNow wsX4_volumeNow) := goodIn_app (goodIn_of _ (by decide +kernel)) ggX4_doubt_X4_volumeNow
set_option maxRecDepth 20000 in
theorem ggX4_doubt_X4_part : GoodIn wsX4_doubt wsX4_part := goodIn_r _ [21] (by decide +kernel) (by decide +kernel)
set_option maxRecDepth 20000 in
theorem gX4_doubt_X4_part : GoodIn wsX4_doubt (va_wsS RX4 121 yX4_part wsX4_part) := goodIn_app (goodIn_of _ (by decide +kernel)) ggX4_doubt_X4_part
theorem dX4_doubt_0 : decode cX4_doubt 0 = .ok (.iload_n 1, 1) := by decide +kernel
theorem dX4_doubt_1 : decode cX4_doubt 1 = .ok (.iconst 0, 1) := by decide +kernel
theorem dX4_doubt_2 : decode cX4_doubt 2 = .ok (.iconst 1, 1) := by decide +kernel
theorem dX4_doubt_3 : decode cX4_doubt 3 = .ok (.invokestatic 60, 3) := by decide +kernel
theorem dX4_doubt_6 : decode cX4_doubt 6 = .ok (.ifCond .ne 5, 3) := by decide +kernel
theorem dX4_doubt_9 : decode cX4_doubt 9 = .ok (.iconst (-1), 1) := by decide +kernel
theorem dX4_doubt_10 : decode cX4_doubt 10 = .ok (.ireturn, 1) := by decide +kernel
theorem dX4_doubt_11 : decode cX4_doubt 11 = .ok (.aload_n 0, 1) := by decide +kernel
theorem dX4_doubt_12 : decode cX4_doubt 12 = .ok (.invokevirtual 118, 3) := by decide +kernel
theorem dX4_doubt_15 : decode cX4_doubt 15 = .ok (.iconst 2, 1) := by decide +kernel
theorem dX4_doubt_16 : decode cX4_doubt 16 = .ok (.if_icmp .ge 6, 3) := by decide +kernel
theorem dX4_doubt_19 : decode cX4_doubt 19 = .ok (.bipush (-3), 2) := by decide +kernel
theorem dX4_doubt_21 : decode cX4_doubt 21 = .ok (.ireturn, 1) := by decide +kernel
theorem dX4_doubt_22 : decode cX4_doubt 22 = .ok (.aload_n 0, 1) := by decide +kernel
theorem dX4_doubt_23 : decode cX4_doubt 23 = .ok (.invokevirtual 124, 3) := by decide +kernel
theorem dX4_doubt_26 : decode cX4_doubt 26 = .ok (.istore_n 2, 1) := by decide +kernel
theorem dX4_doubt_27 : decode cX4_doubt 27 = .ok (.iconst 0, 1) := by decide +kernel
theorem dX4_doubt_28 : decode cX4_doubt 28 = .ok (.istore_n 3, 1) := by decide +kernel
theorem dX4_doubt_29 : decode cX4_doubt 29 = .ok (.iconst 0, 1) := by decide +kernel
theorem dX4_doubt_30 : decode cX4_doubt 30 = .ok (.istore 4, 2) := by decide +kernel
theorem dX4_doubt_32 : decode cX4_doubt 32 = .ok (.iload 4, 2) := by decide +kernel
theorem dX4_doubt_34 : decode cX4_doubt 34 = .ok (.aload_n 0, 1) := by decide +kernel
theorem dX4_doubt_35 : decode cX4_doubt 35 = .ok (.getfield 7, 3) := by decide +kernel
theorem dX4_doubt_38 : decode cX4_doubt 38 = .ok (.if_icmp .ge 79, 3) := by decide +kernel
theorem dX4_doubt_41 : decode cX4_doubt 41 = .ok (.aload_n 0, 1) := by decide +kernel
theorem dX4_doubt_42 : decode cX4_doubt 42 = .ok (.getfield 47, 3) := by decide +kernel
theorem dX4_doubt_45 : decode cX4_doubt 45 = .ok (.iload 4, 2) := by decide +kernel
theorem dX4_doubt_47 : decode cX4_doubt 47 = .ok (.iaload, 1) := by decide +kernel
theorem dX4_doubt_48 : decode cX4_doubt 48 = .ok (.istore 5, 2) := by decide +kernel
theorem dX4_doubt_50 : decode cX4_doubt 50 = .ok (.iload 5, 2) := by decide +kernel
theorem dX4_doubt_52 : decode cX4_doubt 52 = .ok (.ifCond .ge 6, 3) := by decide +kernel
theorem dX4_doubt_55 : decode cX4_doubt 55 = .ok (.goto 56, 3) := by decide +kernel
theorem dX4_doubt_58 : decode cX4_doubt 58 = .ok (.aload_n 0, 1) := by decide +kernel
theorem dX4_doubt_59 : decode cX4_doubt 59 = .ok (.getfield 47, 3) := by decide +kernel
theorem dX4_doubt_62 : decode cX4_doubt 62 = .ok (.iload 4, 2) := by decide +kernel
theorem dX4_doubt_64 : decode cX4_doubt 64 = .ok (.iconst (-1), 1) := by decide +kernel
theorem dX4_doubt_65 : decode cX4_doubt 65 = .ok (.iastore, 1) := by decide +kernel
theorem dX4_doubt_66 : decode cX4_doubt 66 = .ok (.aload_n 0, 1) := by decide +kernel
theorem dX4_doubt_67 : decode cX4_doubt 67 = .ok (.invokevirtual 124, 3) := by decide +kernel
theorem dX4_doubt_70 : decode cX4_doubt 70 = .ok (.iload_n 2, 1) := by decide +kernel
theorem dX4_doubt_71 : decode cX4_doubt 71 = .ok (.isub, 1) := by decide +kernel
theorem dX4_doubt_72 : decode cX4_doubt 72 = .ok (.istore 6, 2) := by decide +kernel
theorem dX4_doubt_74 : decode cX4_doubt 74 = .ok (.aload_n 0, 1) := by decide +kernel
theorem dX4_doubt_75 : decode cX4_doubt 75 = .ok (.getfield 47, 3) := by decide +kernel
theorem dX4_doubt_78 : decode cX4_doubt 78 = .ok (.iload 4, 2) := by decide +kernel
theorem dX4_doubt_80 : decode cX4_doubt 80 = .ok (.iload 5, 2) := by decide +kernel
theorem dX4_doubt_82 : decode cX4_doubt 82 = .ok (.iastore, 1) := by decide +kernel
theorem dX4_doubt_83 : decode cX4_doubt 83 = .ok (.iload 6, 2) := by decide +kernel
theorem dX4_doubt_85 : decode cX4_doubt 85 = .ok (.ifCond .ge 9, 3) := by decide +kernel
theorem dX4_doubt_88 : decode cX4_doubt 88 = .ok (.iload 6, 2) := by decide +kernel
theorem dX4_doubt_90 : decode cX4_doubt 90 = .ok (.ineg, 1) := by decide +kernel
theorem dX4_doubt_91 : decode cX4_doubt 91 = .ok (.goto 5, 3) := by decide +kernel
theorem dX4_doubt_94 : decode cX4_doubt 94 = .ok (.iload 6, 2) := by decide +kernel
theorem dX4_doubt_96 : decode cX4_doubt 96 = .ok (.istore 6, 2) := by decide +kernel
theorem dX4_doubt_98 : decode cX4_doubt 98 = .ok (.iload 6, 2) := by decide +kernel
theorem dX4_doubt_100 : decode cX4_doubt 100 = .ok (.iload_n 3, 1) := by decide +kernel
theorem dX4_doubt_101 : decode cX4_doubt 101 = .ok (.if_icmp .le 8, 3) := by decide +kernel
theorem dX4_doubt_104 : decode cX4_doubt 104 = .ok (.iload 6, 2) := by decide +kernel
theorem dX4_doubt_106 : decode cX4_doubt 106 = .ok (.goto 4, 3) := by decide +kernel
theorem dX4_doubt_109 : decode cX4_doubt 109 = .ok (.iload_n 3, 1) := by decide +kernel
theorem dX4_doubt_110 : decode cX4_doubt 110 = .ok (.istore_n 3, 1) := by decide +kernel
theorem dX4_doubt_111 : decode cX4_doubt 111 = .ok (.iinc 4 1, 3) := by decide +kernel
theorem dX4_doubt_114 : decode cX4_doubt 114 = .ok (.goto (-82), 3) := by decide +kernel
theorem dX4_doubt_117 : decode cX4_doubt 117 = .ok (.iload_n 3, 1) := by decide +kernel
theorem dX4_doubt_118 : decode cX4_doubt 118 = .ok (.iload_n 1, 1) := by decide +kernel
theorem dX4_doubt_119 : decode cX4_doubt 119 = .ok (.invokestatic 121, 3) := by decide +kernel
theorem dX4_doubt_122 : decode cX4_doubt 122 = .ok (.ireturn, 1) := by decide +kernel
theorem dX4_sand_0 : decode cX4_sand 0 = .ok (.iconst 0, 1) := by decide +kernel
theorem dX4_sand_1 : decode cX4_sand 1 = .ok (.istore_n 1, 1) := by decide +kernel
theorem dX4_sand_2 : decode cX4_sand 2 = .ok (.iconst 0, 1) := by decide +kernel
theorem dX4_sand_3 : decode cX4_sand 3 = .ok (.istore_n 2, 1) := by decide +kernel
theorem dX4_sand_4 : decode cX4_sand 4 = .ok (.iload_n 2, 1) := by decide +kernel
theorem dX4_sand_5 : decode cX4_sand 5 = .ok (.aload_n 0, 1) := by decide +kernel
theorem dX4_sand_6 : decode cX4_sand 6 = .ok (.getfield 7, 3) := by decide +kernel
theorem dX4_sand_9 : decode cX4_sand 9 = .ok (.if_icmp .ge 18, 3) := by decide +kernel
theorem dX4_sand_12 : decode cX4_sand 12 = .ok (.iload_n 1, 1) := by decide +kernel
theorem dX4_sand_13 : decode cX4_sand 13 = .ok (.aload_n 0, 1) := by decide +kernel
theorem dX4_sand_14 : decode cX4_sand 14 = .ok (.getfield 16, 3) := by decide +kernel
theorem dX4_sand_17 : decode cX4_sand 17 = .ok (.iload_n 2, 1) := by decide +kernel
theorem dX4_sand_18 : decode cX4_sand 18 = .ok (.iaload, 1) := by decide +kernel
theorem dX4_sand_19 : decode cX4_sand 19 = .ok (.iadd, 1) := by decide +kernel
theorem dX4_sand_20 : decode cX4_sand 20 = .ok (.istore_n 1, 1) := by decide +kernel
theorem dX4_sand_21 : decode cX4_sand 21 = .ok (.iinc 2 1, 3) := by decide +kernel
theorem dX4_sand_24 : decode cX4_sand 24 = .ok (.goto (-20), 3) := by decide +kernel
theorem dX4_sand_27 : decode cX4_sand 27 = .ok (.iload_n 1, 1) := by decide +kernel
theorem dX4_sand_28 : decode cX4_sand 28 = .ok (.ireturn, 1) := by decide +kernel
set_option maxRecDepth 20000 in
theorem ggX4_many_X4_sand : GoodIn wsX4_many wsX4_sand := goodIn_r _ [10, 1, 11, 21, 22, 23, 24, 25, 26, 27, 28, 29, 30, 31, 32, 33, 34, 35, 36] (by decide +kernel) (by decide +kernel)
set_option maxRecDepth 20000 in
theorem gX4_many_X4_sand : GoodIn wsX4_many (wsV RX4 127 RX4 yX4_sand wsX4_sand) := goodIn_app (goodIn_of _ (by decide +kernel)) ggX4_many_X4_sand
set_option maxRecDepth 20000 in
theorem ggX4_many_X4_crestOf : GoodIn wsX4_many wsX4_crestOf := goodIn_r _ [15, 1, 11, 21, 22, 23, 24, 25, 26, 27, 28, 29, 30, 31, 32, 33, 34, 35, 36] (by decide +kernel) (by decide +kernel)
set_option maxRecDepth 20000 in
theorem gX4_many_X4_crestOf : GoodIn wsX4_many (wsV RX4 102 RX4 yX4_crestOf wsX4_crestOf) := goodIn_app (goodIn_of _ (by decide +kernel)) ggX4_many_X4_crestOf
set_option maxRecDepth 20000 in
theorem ggX4_many_X4_readings : GoodIn wsX4_many wsX4_readings := goodIn_r _ [19, 1, 20, 21, 22, 23, 24, 25, 26, 27, 28, 29, 30, 31, 32, 33, 34, 35, 36] (by decide +kernel) (by decide +kernel)
set_option maxRecDepth 20000 in
theorem gX4_many_X4_readings : GoodIn wsX4_many (wsV RX4 118 RX4 yX4_readings wsX4_readings) := goodIn_app (goodIn_of _ (by decide +kernel)) ggX4_many_X4_readings
theorem dX4_many_0 : decode cX4_many 0 = .ok (.iload_n 1, 1) := by decide +kernel
theorem dX4_many_1 : decode cX4_many 1 = .ok (.tableswitch 107 0 9 #[55, 60, 67, 74, 81, 86, 92, 97, 97, 97], 55) := by decide +kernel
theorem dX4_many_56 : decode cX4_many 56 = .ok (.aload_n 0, 1) := by decide +kernel
theorem dX4_many_57 : decode cX4_many 57 = .ok (.getfield 7, 3) := by decide +kernel
theorem dX4_many_60 : decode cX4_many 60 = .ok (.ireturn, 1) := by decide +kernel
theorem dX4_many_61 : decode cX4_many 61 = .ok (.aload_n 0, 1) := by decide +kernel
theorem dX4_many_62 : decode cX4_many 62 = .ok (.getfield 29, 3) := by decide +kernel
theorem dX4_many_65 : decode cX4_many 65 = .ok (.iconst 0, 1) := by decide +kernel
theorem dX4_many_66 : decode cX4_many 66 = .ok (.iaload, 1) := by decide +kernel
theorem dX4_many_67 : decode cX4_many 67 = .ok (.ireturn, 1) := by decide +kernel
theorem dX4_many_68 : decode cX4_many 68 = .ok (.aload_n 0, 1) := by decide +kernel
theorem dX4_many_69 : decode cX4_many 69 = .ok (.getfield 32, 3) := by decide +kernel
theorem dX4_many_72 : decode cX4_many 72 = .ok (.iconst 0, 1) := by decide +kernel
theorem dX4_many_73 : decode cX4_many 73 = .ok (.iaload, 1) := by decide +kernel
theorem dX4_many_74 : decode cX4_many 74 = .ok (.ireturn, 1) := by decide +kernel
theorem dX4_many_75 : decode cX4_many 75 = .ok (.aload_n 0, 1) := by decide +kernel
theorem dX4_many_76 : decode cX4_many 76 = .ok (.getfield 35, 3) := by decide +kernel
theorem dX4_many_79 : decode cX4_many 79 = .ok (.iconst 0, 1) := by decide +kernel
theorem dX4_many_80 : decode cX4_many 80 = .ok (.iaload, 1) := by decide +kernel
theorem dX4_many_81 : decode cX4_many 81 = .ok (.ireturn, 1) := by decide +kernel
theorem dX4_many_82 : decode cX4_many 82 = .ok (.aload_n 0, 1) := by decide +kernel
theorem dX4_many_83 : decode cX4_many 83 = .ok (.invokevirtual 127, 3) := by decide +kernel
theorem dX4_many_86 : decode cX4_many 86 = .ok (.ireturn, 1) := by decide +kernel
theorem dX4_many_87 : decode cX4_many 87 = .ok (.aload_n 0, 1) := by decide +kernel
theorem dX4_many_88 : decode cX4_many 88 = .ok (.iconst 0, 1) := by decide +kernel
theorem dX4_many_89 : decode cX4_many 89 = .ok (.invokevirtual 102, 3) := by decide +kernel
theorem dX4_many_92 : decode cX4_many 92 = .ok (.ireturn, 1) := by decide +kernel
theorem dX4_many_93 : decode cX4_many 93 = .ok (.aload_n 0, 1) := by decide +kernel
theorem dX4_many_94 : decode cX4_many 94 = .ok (.invokevirtual 118, 3) := by decide +kernel
theorem dX4_many_97 : decode cX4_many 97 = .ok (.ireturn, 1) := by decide +kernel
theorem dX4_many_98 : decode cX4_many 98 = .ok (.aload_n 0, 1) := by decide +kernel
theorem dX4_many_99 : decode cX4_many 99 = .ok (.getfield 38, 3) := by decide +kernel
theorem dX4_many_102 : decode cX4_many 102 = .ok (.iload_n 1, 1) := by decide +kernel
theorem dX4_many_103 : decode cX4_many 103 = .ok (.bipush 7, 2) := by decide +kernel
theorem dX4_many_105 : decode cX4_many 105 = .ok (.isub, 1) := by decide +kernel
theorem dX4_many_106 : decode cX4_many 106 = .ok (.iaload, 1) := by decide +kernel
theorem dX4_many_107 : decode cX4_many 107 = .ok (.ireturn, 1) := by decide +kernel
theorem dX4_many_108 : decode cX4_many 108 = .ok (.iconst (-1), 1) := by decide +kernel
theorem dX4_many_109 : decode cX4_many 109 = .ok (.ireturn, 1) := by decide +kernel
set_option maxRecDepth 20000 in
theorem ggX4_keep_X4_copy : GoodIn wsX4_keep wsX4_copy := goodIn_r _ [7, 8, 9, 10, 11, 12, 13, 14, 15, 16, 17, 18, 19, 20, 21, 22, 23, 24, 25, 26, 27, 28, 29, 30] (by decide +kernel) (by decide +kernel)
set_option maxRecDepth 20000 in
theorem gX4_keep_X4_copy : GoodIn wsX4_keep (wsV RX4 85 RX4 yX4_copy wsX4_copy) := goodIn_app (goodIn_of _ (by decide +kernel)) ggX4_keep_X4_copy
theorem dX4_keep_0 : decode cX4_keep 0 = .ok (.aload_n 0, 1) := by decide +kernel
theorem dX4_keep_1 : decode cX4_keep 1 = .ok (.iconst 0, 1) := by decide +kernel
theorem dX4_keep_2 : decode cX4_keep 2 = .ok (.iconst 1, 1) := by decide +kernel
theorem dX4_keep_3 : decode cX4_keep 3 = .ok (.invokevirtual 85, 3) := by decide +kernel
theorem dX4_keep_6 : decode cX4_keep 6 = .ok (.aload_n 0, 1) := by decide +kernel
theorem dX4_keep_7 : decode cX4_keep 7 = .ok (.aload_n 0, 1) := by decide +kernel
theorem dX4_keep_8 : decode cX4_keep 8 = .ok (.getfield 7, 3) := by decide +kernel
theorem dX4_keep_11 : decode cX4_keep 11 = .ok (.putfield 130, 3) := by decide +kernel
theorem dX4_keep_14 : decode cX4_keep 14 = .ok (.iconst 1, 1) := by decide +kernel
theorem dX4_keep_15 : decode cX4_keep 15 = .ok (.ireturn, 1) := by decide +kernel
set_option maxRecDepth 20000 in
theorem ggX4_back_X4_copy : GoodIn wsX4_back wsX4_copy := goodIn_r _ [7, 8, 9, 10, 11, 12, 13, 14, 15, 16, 17, 18, 19, 20, 21, 22, 23, 24, 25, 26, 27, 28, 29, 30] (by decide +kernel) (by decide +kernel)
set_option maxRecDepth 20000 in
theorem gX4_back_X4_copy : GoodIn wsX4_back (wsV RX4 85 RX4 yX4_copy wsX4_copy) := goodIn_app (goodIn_of _ (by decide +kernel)) ggX4_back_X4_copy
theorem dX4_back_0 : decode cX4_back 0 = .ok (.aload_n 0, 1) := by decide +kernel
theorem dX4_back_1 : decode cX4_back 1 = .ok (.getfield 130, 3) := by decide +kernel
theorem dX4_back_4 : decode cX4_back 4 = .ok (.aload_n 0, 1) := by decide +kernel
theorem dX4_back_5 : decode cX4_back 5 = .ok (.getfield 7, 3) := by decide +kernel
theorem dX4_back_8 : decode cX4_back 8 = .ok (.if_icmp .eq 6, 3) := by decide +kernel
theorem dX4_back_11 : decode cX4_back 11 = .ok (.bipush (-3), 2) := by decide +kernel
theorem dX4_back_13 : decode cX4_back 13 = .ok (.ireturn, 1) := by decide +kernel
theorem dX4_back_14 : decode cX4_back 14 = .ok (.aload_n 0, 1) := by decide +kernel
theorem dX4_back_15 : decode cX4_back 15 = .ok (.iconst 1, 1) := by decide +kernel
theorem dX4_back_16 : decode cX4_back 16 = .ok (.iconst 0, 1) := by decide +kernel
theorem dX4_back_17 : decode cX4_back 17 = .ok (.invokevirtual 85, 3) := by decide +kernel
theorem dX4_back_20 : decode cX4_back 20 = .ok (.iconst 1, 1) := by decide +kernel
theorem dX4_back_21 : decode cX4_back 21 = .ok (.ireturn, 1) := by decide +kernel
