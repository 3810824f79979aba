set_option maxRecDepth 20000 in
theorem ggX0_init_X0_renew : GoodIn wsX0_init wsX0_renew := goodIn_r _ [13, 14, 5, 6, 7, 8, 15, 16, 17, 18, 19, 20, 21, 22, 23, 24, 25] (by decide +kernel) (by decide +kernel)
set_option maxRecDepth 20000 in
theorem gX0_init_X0_renew : GoodIn wsX0_init (wsV RX0 24 RX0 yX0_renew wsX0_renew) := goodIn_app (goodIn_of _ (by decide +kernel)) ggX0_init_X0_renew
theorem dX0_init_0 : decode cX0_init 0 = .ok (.aload_n 0, 1) := by decide +kernel
theorem dX0_init_1 : decode cX0_init 1 = .ok (.invokespecial 3, 3) := by decide +kernel
theorem dX0_init_4 : decode cX0_init 4 = .ok (.aload_n 0, 1) := by decide +kernel
theorem dX0_init_5 : decode cX0_init 5 = .ok (.bipush 7, 2) := by decide +kernel
theorem dX0_init_7 : decode cX0_init 7 = .ok (.newarray .int, 2) := by decide +kernel
theorem dX0_init_9 : decode cX0_init 9 = .ok (.putfield 9, 3) := by decide +kernel
theorem dX0_init_12 : decode cX0_init 12 = .ok (.aload_n 0, 1) := by decide +kernel
theorem dX0_init_13 : decode cX0_init 13 = .ok (.bipush 7, 2) := by decide +kernel
theorem dX0_init_15 : decode cX0_init 15 = .ok (.newarray .int, 2) := by decide +kernel
theorem dX0_init_17 : decode cX0_init 17 = .ok (.putfield 15, 3) := by decide +kernel
theorem dX0_init_20 : decode cX0_init 20 = .ok (.aload_n 0, 1) := by decide +kernel
theorem dX0_init_21 : decode cX0_init 21 = .ok (.bipush 7, 2) := by decide +kernel
theorem dX0_init_23 : decode cX0_init 23 = .ok (.newarray .int, 2) := by decide +kernel
theorem dX0_init_25 : decode cX0_init 25 = .ok (.putfield 18, 3) := by decide +kernel
theorem dX0_init_28 : decode cX0_init 28 = .ok (.aload_n 0, 1) := by decide +kernel
theorem dX0_init_29 : decode cX0_init 29 = .ok (.bipush 7, 2) := by decide +kernel
theorem dX0_init_31 : decode cX0_init 31 = .ok (.newarray .int, 2) := by decide +kernel
theorem dX0_init_33 : decode cX0_init 33 = .ok (.putfield 21, 3) := by decide +kernel
theorem dX0_init_36 : decode cX0_init 36 = .ok (.aload_n 0, 1) := by decide +kernel
theorem dX0_init_37 : decode cX0_init 37 = .ok (.iconst 5, 1) := by decide +kernel
theorem dX0_init_38 : decode cX0_init 38 = .ok (.invokevirtual 24, 3) := by decide +kernel
theorem dX0_init_41 : decode cX0_init 41 = .ok (.return_, 1) := by decide +kernel
theorem dX0_renew_0 : decode cX0_renew 0 = .ok (.aload_n 0, 1) := by decide +kernel
theorem dX0_renew_1 : decode cX0_renew 1 = .ok (.iload_n 1, 1) := by decide +kernel
theorem dX0_renew_2 : decode cX0_renew 2 = .ok (.putfield 28, 3) := by decide +kernel
theorem dX0_renew_5 : decode cX0_renew 5 = .ok (.iconst 0, 1) := by decide +kernel
theorem dX0_renew_6 : decode cX0_renew 6 = .ok (.istore_n 2, 1) := by decide +kernel
theorem dX0_renew_7 : decode cX0_renew 7 = .ok (.iload_n 2, 1) := by decide +kernel
theorem dX0_renew_8 : decode cX0_renew 8 = .ok (.bipush 7, 2) := by decide +kernel
theorem dX0_renew_10 : decode cX0_renew 10 = .ok (.if_icmp .ge 37, 3) := by decide +kernel
theorem dX0_renew_13 : decode cX0_renew 13 = .ok (.aload_n 0, 1) := by decide +kernel
theorem dX0_renew_14 : decode cX0_renew 14 = .ok (.getfield 9, 3) := by decide +kernel
theorem dX0_renew_17 : decode cX0_renew 17 = .ok (.iload_n 2, 1) := by decide +kernel
theorem dX0_renew_18 : decode cX0_renew 18 = .ok (.iconst 0, 1) := by decide +kernel
theorem dX0_renew_19 : decode cX0_renew 19 = .ok (.iastore, 1) := by decide +kernel
theorem dX0_renew_20 : decode cX0_renew 20 = .ok (.aload_n 0, 1) := by decide +kernel
theorem dX0_renew_21 : decode cX0_renew 21 = .ok (.getfield 15, 3) := by decide +kernel
theorem dX0_renew_24 : decode cX0_renew 24 = .ok (.iload_n 2, 1) := by decide +kernel
theorem dX0_renew_25 : decode cX0_renew 25 = .ok (.iconst 0, 1) := by decide +kernel
theorem dX0_renew_26 : decode cX0_renew 26 = .ok (.iastore, 1) := by decide +kernel
theorem dX0_renew_27 : decode cX0_renew 27 = .ok (.aload_n 0, 1) := by decide +kernel
theorem dX0_renew_28 : decode cX0_renew 28 = .ok (.getfield 18, 3) := by decide +kernel
theorem dX0_renew_31 : decode cX0_renew 31 = .ok (.iload_n 2, 1) := by decide +kernel
theorem dX0_renew_32 : decode cX0_renew 32 = .ok (.iconst 0, 1) := by decide +kernel
theorem dX0_renew_33 : decode cX0_renew 33 = .ok (.iastore, 1) := by decide +kernel
theorem dX0_renew_34 : decode cX0_renew 34 = .ok (.aload_n 0, 1) := by decide +kernel
theorem dX0_renew_35 : decode cX0_renew 35 = .ok (.getfield 21, 3) := by decide +kernel
theorem dX0_renew_38 : decode cX0_renew 38 = .ok (.iload_n 2, 1) := by decide +kernel
theorem dX0_renew_39 : decode cX0_renew 39 = .ok (.iconst 0, 1) := by decide +kernel
theorem dX0_renew_40 : decode cX0_renew 40 = .ok (.iastore, 1) := by decide +kernel
theorem dX0_renew_41 : decode cX0_renew 41 = .ok (.iinc 2 1, 3) := by decide +kernel
theorem dX0_renew_44 : decode cX0_renew 44 = .ok (.goto (-37), 3) := by decide +kernel
theorem dX0_renew_47 : decode cX0_renew 47 = .ok (.aload_n 0, 1) := by decide +kernel
theorem dX0_renew_48 : decode cX0_renew 48 = .ok (.iconst 0, 1) := by decide +kernel
theorem dX0_renew_49 : decode cX0_renew 49 = .ok (.putfield 32, 3) := by decide +kernel
theorem dX0_renew_52 : decode cX0_renew 52 = .ok (.aload_n 0, 1) := by decide +kernel
theorem dX0_renew_53 : decode cX0_renew 53 = .ok (.iconst 0, 1) := by decide +kernel
theorem dX0_renew_54 : decode cX0_renew 54 = .ok (.putfield 35, 3) := by decide +kernel
theorem dX0_renew_57 : decode cX0_renew 57 = .ok (.aload_n 0, 1) := by decide +kernel
theorem dX0_renew_58 : decode cX0_renew 58 = .ok (.iconst 0, 1) := by decide +kernel
theorem dX0_renew_59 : decode cX0_renew 59 = .ok (.putfield 38, 3) := by decide +kernel
theorem dX0_renew_62 : decode cX0_renew 62 = .ok (.return_, 1) := by decide +kernel
theorem dX0_copyFrom_0 : decode cX0_copyFrom 0 = .ok (.aload_n 0, 1) := by decide +kernel
theorem dX0_copyFrom_1 : decode cX0_copyFrom 1 = .ok (.aload_n 1, 1) := by decide +kernel
theorem dX0_copyFrom_2 : decode cX0_copyFrom 2 = .ok (.getfield 28, 3) := by decide +kernel
theorem dX0_copyFrom_5 : decode cX0_copyFrom 5 = .ok (.putfield 28, 3) := by decide +kernel
theorem dX0_copyFrom_8 : decode cX0_copyFrom 8 = .ok (.iconst 0, 1) := by decide +kernel
theorem dX0_copyFrom_9 : decode cX0_copyFrom 9 = .ok (.istore_n 2, 1) := by decide +kernel
theorem dX0_copyFrom_10 : decode cX0_copyFrom 10 = .ok (.iload_n 2, 1) := by decide +kernel
theorem dX0_copyFrom_11 : decode cX0_copyFrom 11 = .ok (.bipush 7, 2) := by decide +kernel
theorem dX0_copyFrom_13 : decode cX0_copyFrom 13 = .ok (.if_icmp .ge 57, 3) := by decide +kernel
theorem dX0_copyFrom_16 : decode cX0_copyFrom 16 = .ok (.aload_n 0, 1) := by decide +kernel
theorem dX0_copyFrom_17 : decode cX0_copyFrom 17 = .ok (.getfield 9, 3) := by decide +kernel
theorem dX0_copyFrom_20 : decode cX0_copyFrom 20 = .ok (.iload_n 2, 1) := by decide +kernel
theorem dX0_copyFrom_21 : decode cX0_copyFrom 21 = .ok (.aload_n 1, 1) := by decide +kernel
theorem dX0_copyFrom_22 : decode cX0_copyFrom 22 = .ok (.getfield 9, 3) := by decide +kernel
theorem dX0_copyFrom_25 : decode cX0_copyFrom 25 = .ok (.iload_n 2, 1) := by decide +kernel
theorem dX0_copyFrom_26 : decode cX0_copyFrom 26 = .ok (.iaload, 1) := by decide +kernel
theorem dX0_copyFrom_27 : decode cX0_copyFrom 27 = .ok (.iastore, 1) := by decide +kernel
theorem dX0_copyFrom_28 : decode cX0_copyFrom 28 = .ok (.aload_n 0, 1) := by decide +kernel
theorem dX0_copyFrom_29 : decode cX0_copyFrom 29 = .ok (.getfield 15, 3) := by decide +kernel
theorem dX0_copyFrom_32 : decode cX0_copyFrom 32 = .ok (.iload_n 2, 1) := by decide +kernel
theorem dX0_copyFrom_33 : decode cX0_copyFrom 33 = .ok (.aload_n 1, 1) := by decide +kernel
theorem dX0_copyFrom_34 : decode cX0_copyFrom 34 = .ok (.getfield 15, 3) := by decide +kernel
theorem dX0_copyFrom_37 : decode cX0_copyFrom 37 = .ok (.iload_n 2, 1) := by decide +kernel
theorem dX0_copyFrom_38 : decode cX0_copyFrom 38 = .ok (.iaload, 1) := by decide +kernel
theorem dX0_copyFrom_39 : decode cX0_copyFrom 39 = .ok (.iastore, 1) := by decide +kernel
theorem dX0_copyFrom_40 : decode cX0_copyFrom 40 = .ok (.aload_n 0, 1) := by decide +kernel
theorem dX0_copyFrom_41 : decode cX0_copyFrom 41 = .ok (.getfield 18, 3) := by decide +kernel
theorem dX0_copyFrom_44 : decode cX0_copyFrom 44 = .ok (.iload_n 2, 1) := by decide +kernel
theorem dX0_copyFrom_45 : decode cX0_copyFrom 45 = .ok (.aload_n 1, 1) := by decide +kernel
theorem dX0_copyFrom_46 : decode cX0_copyFrom 46 = .ok (.getfield 18, 3) := by decide +kernel
theorem dX0_copyFrom_49 : decode cX0_copyFrom 49 = .ok (.iload_n 2, 1) := by decide +kernel
theorem dX0_copyFrom_50 : decode cX0_copyFrom 50 = .ok (.iaload, 1) := by decide +kernel
theorem dX0_copyFrom_51 : decode cX0_copyFrom 51 = .ok (.iastore, 1) := by decide +kernel
theorem dX0_copyFrom_52 : decode cX0_copyFrom 52 = .ok (.aload_n 0, 1) := by decide +kernel
theorem dX0_copyFrom_53 : decode cX0_copyFrom 53 = .ok (.getfield 21, 3) := by decide +kernel
theorem dX0_copyFrom_56 : decode cX0_copyFrom 56 = .ok (.iload_n 2, 1) := by decide +kernel
theorem dX0_copyFrom_57 : decode cX0_copyFrom 57 = .ok (.aload_n 1, 1) := by decide +kernel
theorem dX0_copyFrom_58 : decode cX0_copyFrom 58 = .ok (.getfield 21, 3) := by decide +kernel
theorem dX0_copyFrom_61 : decode cX0_copyFrom 61 = .ok (.iload_n 2, 1) := by decide +kernel
theorem dX0_copyFrom_62 : decode cX0_copyFrom 62 = .ok (.iaload, 1) := by decide +kernel
theorem dX0_copyFrom_63 : decode cX0_copyFrom 63 = .ok (.iastore, 1) := by decide +kernel
theorem dX0_copyFrom_64 : decode cX0_copyFrom 64 = .ok (.iinc 2 1, 3) := by decide +kernel
theorem dX0_copyFrom_67 : decode cX0_copyFrom 67 = .ok (.goto (-57), 3) := by decide +kernel
theorem dX0_copyFrom_70 : decode cX0_copyFrom 70 = .ok (.aload_n 0, 1) := by decide +kernel
theorem dX0_copyFrom_71 : decode cX0_copyFrom 71 = .ok (.aload_n 1, 1) := by decide +kernel
theorem dX0_copyFrom_72 : decode cX0_copyFrom 72 = .ok (.getfield 32, 3) := by decide +kernel
theorem dX0_copyFrom_75 : decode cX0_copyFrom 75 = .ok (.putfield 32, 3) := by decide +kernel
theorem dX0_copyFrom_78 : decode cX0_copyFrom 78 = .ok (.aload_n 0, 1) := by decide +kernel
theorem dX0_copyFrom_79 : decode cX0_copyFrom 79 = .ok (.aload_n 1, 1) := by decide +kernel
theorem dX0_copyFrom_80 : decode cX0_copyFrom 80 = .ok (.getfield 35, 3) := by decide +kernel
theorem dX0_copyFrom_83 : decode cX0_copyFrom 83 = .ok (.putfield 35, 3) := by decide +kernel
theorem dX0_copyFrom_86 : decode cX0_copyFrom 86 = .ok (.aload_n 0, 1) := by decide +kernel
theorem dX0_copyFrom_87 : decode cX0_copyFrom 87 = .ok (.aload_n 1, 1) := by decide +kernel
theorem dX0_copyFrom_88 : decode cX0_copyFrom 88 = .ok (.getfield 38, 3) := by decide +kernel
theorem dX0_copyFrom_91 : decode cX0_copyFrom 91 = .ok (.putfield 38, 3) := by decide +kernel
theorem dX0_copyFrom_94 : decode cX0_copyFrom 94 = .ok (.return_, 1) := by decide +kernel
theorem dX0_has_0 : decode cX0_has 0 = .ok (.iload_n 1, 1) := by decide +kernel
theorem dX0_has_1 : decode cX0_has 1 = .ok (.ifCond .lt 15, 3) := by decide +kernel
theorem dX0_has_4 : decode cX0_has 4 = .ok (.iload_n 1, 1) := by decide +kernel
theorem dX0_has_5 : decode cX0_has 5 = .ok (.aload_n 0, 1) := by decide +kernel
theorem dX0_has_6 : decode cX0_has 6 = .ok (.getfield 28, 3) := by decide +kernel
theorem dX0_has_9 : decode cX0_has 9 = .ok (.if_icmp .ge 7, 3) := by decide +kernel
theorem dX0_has_12 : decode cX0_has 12 = .ok (.iconst 1, 1) := by decide +kernel
theorem dX0_has_13 : decode cX0_has 13 = .ok (.goto 4, 3) := by decide +kernel
theorem dX0_has_16 : decode cX0_has 16 = .ok (.iconst 0, 1) := by decide +kernel
theorem dX0_has_17 : decode cX0_has 17 = .ok (.ireturn, 1) := by decide +kernel
theorem dX0_row_0 : decode cX0_row 0 = .ok (.iload_n 1, 1) := by decide +kernel
theorem dX0_row_1 : decode cX0_row 1 = .ok (.tableswitch 42 0 2 #[27, 32, 37], 27) := by decide +kernel
theorem dX0_row_28 : decode cX0_row 28 = .ok (.aload_n 0, 1) := by decide +kernel
theorem dX0_row_29 : decode cX0_row 29 = .ok (.getfield 9, 3) := by decide +kernel
theorem dX0_row_32 : decode cX0_row 32 = .ok (.areturn, 1) := by decide +kernel
theorem dX0_row_33 : decode cX0_row 33 = .ok (.aload_n 0, 1) := by decide +kernel
theorem dX0_row_34 : decode cX0_row 34 = .ok (.getfield 15, 3) := by decide +kernel
theorem dX0_row_37 : decode cX0_row 37 = .ok (.areturn, 1) := by decide +kernel
theorem dX0_row_38 : decode cX0_row 38 = .ok (.aload_n 0, 1) := by decide +kernel
theorem dX0_row_39 : decode cX0_row 39 = .ok (.getfield 18, 3) := by decide +kernel
theorem dX0_row_42 : decode cX0_row 42 = .ok (.areturn, 1) := by decide +kernel
theorem dX0_row_43 : decode cX0_row 43 = .ok (.aload_n 0, 1) := by decide +kernel
theorem dX0_row_44 : decode cX0_row 44 = .ok (.getfield 21, 3) := by decide +kernel
theorem dX0_row_47 : decode cX0_row 47 = .ok (.areturn, 1) := by decide +kernel
set_option maxRecDepth 20000 in
theorem ggX0_blow_X0_hold : GoodIn wsX0_blow wsX0_hold := goodIn_r _ [16, 3, 17, 2, 8, 9, 6, 10, 4, 5, 7, 18, 19, 20, 21, 22, 23, 24, 25, 26] (by decide +kernel) (by decide +kernel)
set_option maxRecDepth 20000 in
theorem gX0_blow_X0_hold : GoodIn wsX0_blow (wsV RX0 50 RX0 yX0_hold wsX0_hold) := goodIn_app (goodIn_of _ (by decide +kernel)) ggX0_blow_X0_hold
theorem dX0_blow_0 : decode cX0_blow 0 = .ok (.iconst 0, 1) := by decide +kernel
theorem dX0_blow_1 : decode cX0_blow 1 = .ok (.istore_n 2, 1) := by decide +kernel
theorem dX0_blow_2 : decode cX0_blow 2 = .ok (.aload_n 0, 1) := by decide +kernel
theorem dX0_blow_3 : decode cX0_blow 3 = .ok (.getfield 28, 3) := by decide +kernel
theorem dX0_blow_6 : decode cX0_blow 6 = .ok (.iconst 1, 1) := by decide +kernel
theorem dX0_blow_7 : decode cX0_blow 7 = .ok (.isub, 1) := by decide +kernel
theorem dX0_blow_8 : decode cX0_blow 8 = .ok (.istore_n 3, 1) := by decide +kernel
theorem dX0_blow_9 : decode cX0_blow 9 = .ok (.iload_n 3, 1) := by decide +kernel
theorem dX0_blow_10 : decode cX0_blow 10 = .ok (.ifCond .lt 86, 3) := by decide +kernel
theorem dX0_blow_13 : decode cX0_blow 13 = .ok (.aload_n 0, 1) := by decide +kernel
theorem dX0_blow_14 : decode cX0_blow 14 = .ok (.getfield 9, 3) := by decide +kernel
theorem dX0_blow_17 : decode cX0_blow 17 = .ok (.iload_n 3, 1) := by decide +kernel
theorem dX0_blow_18 : decode cX0_blow 18 = .ok (.iaload, 1) := by decide +kernel
theorem dX0_blow_19 : decode cX0_blow 19 = .ok (.iconst 0, 1) := by decide +kernel
theorem dX0_blow_20 : decode cX0_blow 20 = .ok (.iload_n 1, 1) := by decide +kernel
theorem dX0_blow_21 : decode cX0_blow 21 = .ok (.aload_n 0, 1) := by decide +kernel
theorem dX0_blow_22 : decode cX0_blow 22 = .ok (.getfield 15, 3) := by decide +kernel
theorem dX0_blow_25 : decode cX0_blow 25 = .ok (.iload_n 3, 1) := by decide +kernel
theorem dX0_blow_26 : decode cX0_blow 26 = .ok (.iaload, 1) := by decide +kernel
theorem dX0_blow_27 : decode cX0_blow 27 = .ok (.isub, 1) := by decide +kernel
theorem dX0_blow_28 : decode cX0_blow 28 = .ok (.invokestatic 41, 3) := by decide +kernel
theorem dX0_blow_31 : decode cX0_blow 31 = .ok (.invokestatic 47, 3) := by decide +kernel
theorem dX0_blow_34 : decode cX0_blow 34 = .ok (.istore 4, 2) := by decide +kernel
theorem dX0_blow_36 : decode cX0_blow 36 = .ok (.aload_n 0, 1) := by decide +kernel
theorem dX0_blow_37 : decode cX0_blow 37 = .ok (.getfield 9, 3) := by decide +kernel
theorem dX0_blow_40 : decode cX0_blow 40 = .ok (.iload_n 3, 1) := by decide +kernel
theorem dX0_blow_41 : decode cX0_blow 41 = .ok (.dup2, 1) := by decide +kernel
theorem dX0_blow_42 : decode cX0_blow 42 = .ok (.iaload, 1) := by decide +kernel
theorem dX0_blow_43 : decode cX0_blow 43 = .ok (.iload 4, 2) := by decide +kernel
theorem dX0_blow_45 : decode cX0_blow 45 = .ok (.isub, 1) := by decide +kernel
theorem dX0_blow_46 : decode cX0_blow 46 = .ok (.iastore, 1) := by decide +kernel
theorem dX0_blow_47 : decode cX0_blow 47 = .ok (.iload_n 3, 1) := by decide +kernel
theorem dX0_blow_48 : decode cX0_blow 48 = .ok (.iconst 1, 1) := by decide +kernel
theorem dX0_blow_49 : decode cX0_blow 49 = .ok (.iadd, 1) := by decide +kernel
theorem dX0_blow_50 : decode cX0_blow 50 = .ok (.istore 5, 2) := by decide +kernel
theorem dX0_blow_52 : decode cX0_blow 52 = .ok (.iload 5, 2) := by decide +kernel
theorem dX0_blow_54 : decode cX0_blow 54 = .ok (.aload_n 0, 1) := by decide +kernel
theorem dX0_blow_55 : decode cX0_blow 55 = .ok (.getfield 28, 3) := by decide +kernel
theorem dX0_blow_58 : decode cX0_blow 58 = .ok (.if_icmp .ge 27, 3) := by decide +kernel
theorem dX0_blow_61 : decode cX0_blow 61 = .ok (.iload 4, 2) := by decide +kernel
theorem dX0_blow_63 : decode cX0_blow 63 = .ok (.ifCond .le 22, 3) := by decide +kernel
theorem dX0_blow_66 : decode cX0_blow 66 = .ok (.iload 4, 2) := by decide +kernel
theorem dX0_blow_68 : decode cX0_blow 68 = .ok (.aload_n 0, 1) := by decide +kernel
theorem dX0_blow_69 : decode cX0_blow 69 = .ok (.iload 5, 2) := by decide +kernel
theorem dX0_blow_71 : decode cX0_blow 71 = .ok (.iload 4, 2) := by decide +kernel
theorem dX0_blow_73 : decode cX0_blow 73 = .ok (.invokevirtual 50, 3) := by decide +kernel
theorem dX0_blow_76 : decode cX0_blow 76 = .ok (.isub, 1) := by decide +kernel
theorem dX0_blow_77 : decode cX0_blow 77 = .ok (.istore 4, 2) := by decide +kernel
theorem dX0_blow_79 : decode cX0_blow 79 = .ok (.iinc 5 1, 3) := by decide +kernel
theorem dX0_blow_82 : decode cX0_blow 82 = .ok (.goto (-30), 3) := by decide +kernel
theorem dX0_blow_85 : decode cX0_blow 85 = .ok (.iload_n 2, 1) := by decide +kernel
theorem dX0_blow_86 : decode cX0_blow 86 = .ok (.iload 4, 2) := by decide +kernel
theorem dX0_blow_88 : decode cX0_blow 88 = .ok (.iadd, 1) := by decide +kernel
theorem dX0_blow_89 : decode cX0_blow 89 = .ok (.istore_n 2, 1) := by decide +kernel
theorem dX0_blow_90 : decode cX0_blow 90 = .ok (.iinc 3 (-1), 3) := by decide +kernel
theorem dX0_blow_93 : decode cX0_blow 93 = .ok (.goto (-84), 3) := by decide +kernel
theorem dX0_blow_96 : decode cX0_blow 96 = .ok (.aload_n 0, 1) := by decide +kernel
theorem dX0_blow_97 : decode cX0_blow 97 = .ok (.dup, 1) := by decide +kernel
theorem dX0_blow_98 : decode cX0_blow 98 = .ok (.getfield 35, 3) := by decide +kernel
theorem dX0_blow_101 : decode cX0_blow 101 = .ok (.iload_n 2, 1) := by decide +kernel
theorem dX0_blow_102 : decode cX0_blow 102 = .ok (.iadd, 1) := by decide +kernel
theorem dX0_blow_103 : decode cX0_blow 103 = .ok (.putfield 35, 3) := by decide +kernel
theorem dX0_blow_106 : decode cX0_blow 106 = .ok (.iload_n 2, 1) := by decide +kernel
theorem dX0_blow_107 : decode cX0_blow 107 = .ok (.ireturn, 1) := by decide +kernel
theorem dX0_hold_0 : decode cX0_hold 0 = .ok (.iconst 1, 1) := by decide +kernel
theorem dX0_hold_1 : decode cX0_hold 1 = .ok (.iconst 2, 1) := by decide +kernel
theorem dX0_hold_2 : decode cX0_hold 2 = .ok (.aload_n 0, 1) := by decide +kernel
theorem dX0_hold_3 : decode cX0_hold 3 = .ok (.getfield 15, 3) := by decide +kernel
theorem dX0_hold_6 : decode cX0_hold 6 = .ok (.iload_n 1, 1) := by decide +kernel
theorem dX0_hold_7 : decode cX0_hold 7 = .ok (.iaload, 1) := by decide +kernel
theorem dX0_hold_8 : decode cX0_hold 8 = .ok (.imul, 1) := by decide +kernel
theorem dX0_hold_9 : decode cX0_hold 9 = .ok (.iadd, 1) := by decide +kernel
theorem dX0_hold_10 : decode cX0_hold 10 = .ok (.istore_n 3, 1) := by decide +kernel
theorem dX0_hold_11 : decode cX0_hold 11 = .ok (.iload_n 2, 1) := by decide +kernel
theorem dX0_hold_12 : decode cX0_hold 12 = .ok (.iload_n 3, 1) := by decide +kernel
theorem dX0_hold_13 : decode cX0_hold 13 = .ok (.aload_n 0, 1) := by decide +kernel
theorem dX0_hold_14 : decode cX0_hold 14 = .ok (.getfield 18, 3) := by decide +kernel
theorem dX0_hold_17 : decode cX0_hold 17 = .ok (.iload_n 1, 1) := by decide +kernel
theorem dX0_hold_18 : decode cX0_hold 18 = .ok (.iaload, 1) := by decide +kernel
theorem dX0_hold_19 : decode cX0_hold 19 = .ok (.iadd, 1) := by decide +kernel
theorem dX0_hold_20 : decode cX0_hold 20 = .ok (.bipush 99, 2) := by decide +kernel
theorem dX0_hold_22 : decode cX0_hold 22 = .ok (.aload_n 0, 1) := by decide +kernel
theorem dX0_hold_23 : decode cX0_hold 23 = .ok (.getfield 9, 3) := by decide +kernel
theorem dX0_hold_26 : decode cX0_hold 26 = .ok (.iload_n 1, 1) := by decide +kernel
theorem dX0_hold_27 : decode cX0_hold 27 = .ok (.iaload, 1) := by decide +kernel
theorem dX0_hold_28 : decode cX0_hold 28 = .ok (.isub, 1) := by decide +kernel
theorem dX0_hold_29 : decode cX0_hold 29 = .ok (.invokestatic 47, 3) := by decide +kernel
theorem dX0_hold_32 : decode cX0_hold 32 = .ok (.invokestatic 47, 3) := by decide +kernel
theorem dX0_hold_35 : decode cX0_hold 35 = .ok (.istore 4, 2) := by decide +kernel
theorem dX0_hold_37 : decode cX0_hold 37 = .ok (.aload_n 0, 1) := by decide +kernel
theorem dX0_hold_38 : decode cX0_hold 38 = .ok (.getfield 18, 3) := by decide +kernel
theorem dX0_hold_41 : decode cX0_hold 41 = .ok (.iload_n 1, 1) := by decide +kernel
theorem dX0_hold_42 : decode cX0_hold 42 = .ok (.dup2, 1) := by decide +kernel
theorem dX0_hold_43 : decode cX0_hold 43 = .ok (.iaload, 1) := by decide +kernel
theorem dX0_hold_44 : decode cX0_hold 44 = .ok (.iconst 0, 1) := by decide +kernel
theorem dX0_hold_45 : decode cX0_hold 45 = .ok (.iload 4, 2) := by decide +kernel
theorem dX0_hold_47 : decode cX0_hold 47 = .ok (.iload_n 3, 1) := by decide +kernel
theorem dX0_hold_48 : decode cX0_hold 48 = .ok (.isub, 1) := by decide +kernel
theorem dX0_hold_49 : decode cX0_hold 49 = .ok (.invokestatic 41, 3) := by decide +kernel
theorem dX0_hold_52 : decode cX0_hold 52 = .ok (.isub, 1) := by decide +kernel
theorem dX0_hold_53 : decode cX0_hold 53 = .ok (.iastore, 1) := by decide +kernel
theorem dX0_hold_54 : decode cX0_hold 54 = .ok (.aload_n 0, 1) := by decide +kernel
theorem dX0_hold_55 : decode cX0_hold 55 = .ok (.getfield 9, 3) := by decide +kernel
theorem dX0_hold_58 : decode cX0_hold 58 = .ok (.iload_n 1, 1) := by decide +kernel
theorem dX0_hold_59 : decode cX0_hold 59 = .ok (.dup2, 1) := by decide +kernel
theorem dX0_hold_60 : decode cX0_hold 60 = .ok (.iaload, 1) := by decide +kernel
theorem dX0_hold_61 : decode cX0_hold 61 = .ok (.iload 4, 2) := by decide +kernel
theorem dX0_hold_63 : decode cX0_hold 63 = .ok (.iadd, 1) := by decide +kernel
theorem dX0_hold_64 : decode cX0_hold 64 = .ok (.iastore, 1) := by decide +kernel
theorem dX0_hold_65 : decode cX0_hold 65 = .ok (.aload_n 0, 1) := by decide +kernel
theorem dX0_hold_66 : decode cX0_hold 66 = .ok (.getfield 21, 3) := by decide +kernel
theorem dX0_hold_69 : decode cX0_hold 69 = .ok (.iload_n 1, 1) := by decide +kernel
theorem dX0_hold_70 : decode cX0_hold 70 = .ok (.dup2, 1) := by decide +kernel
theorem dX0_hold_71 : decode cX0_hold 71 = .ok (.iaload, 1) := by decide +kernel
theorem dX0_hold_72 : decode cX0_hold 72 = .ok (.iload 4, 2) := by decide +kernel
theorem dX0_hold_74 : decode cX0_hold 74 = .ok (.iadd, 1) := by decide +kernel
theorem dX0_hold_75 : decode cX0_hold 75 = .ok (.iastore, 1) := by decide +kernel
theorem dX0_hold_76 : decode cX0_hold 76 = .ok (.iload 4, 2) := by decide +kernel
theorem dX0_hold_78 : decode cX0_hold 78 = .ok (.ireturn, 1) := by decide +kernel
set_option maxRecDepth 20000 in
theorem ggX0_surge_X0_washOut : GoodIn wsX0_surge wsX0_washOut := goodIn_r _ [10, 2, 11, 12, 13, 14, 15, 16, 17, 18, 19] (by decide +kernel) (by decide +kernel)
set_option maxRecDepth 20000 in
theorem gX0_surge_X0_washOut : GoodIn wsX0_surge (wsV RX0 53 RX0 yX0_washOut wsX0_washOut) := goodIn_app (goodIn_of _ (by decide +kernel)) ggX0_surge_X0_washOut
theorem dX0_surge_0 : decode cX0_surge 0 = .ok (.iconst 0, 1) := by decide +kernel
theorem dX0_surge_1 : decode cX0_surge 1 = .ok (.istore_n 2, 1) := by decide +kernel
theorem dX0_surge_2 : decode cX0_surge 2 = .ok (.iload_n 2, 1) := by decide +kernel
theorem dX0_surge_3 : decode cX0_surge 3 = .ok (.aload_n 0, 1) := by decide +kernel
theorem dX0_surge_4 : decode cX0_surge 4 = .ok (.getfield 28, 3) := by decide +kernel
theorem dX0_surge_7 : decode cX0_surge 7 = .ok (.if_icmp .ge 56, 3) := by decide +kernel
theorem dX0_surge_10 : decode cX0_surge 10 = .ok (.aload_n 0, 1) := by decide +kernel
theorem dX0_surge_11 : decode cX0_surge 11 = .ok (.getfield 9, 3) := by decide +kernel
theorem dX0_surge_14 : decode cX0_surge 14 = .ok (.iload_n 2, 1) := by decide +kernel
theorem dX0_surge_15 : decode cX0_surge 15 = .ok (.iaload, 1) := by decide +kernel
theorem dX0_surge_16 : decode cX0_surge 16 = .ok (.iload_n 1, 1) := by decide +kernel
theorem dX0_surge_17 : decode cX0_surge 17 = .ok (.if_icmp .lt 13, 3) := by decide +kernel
theorem dX0_surge_20 : decode cX0_surge 20 = .ok (.aload_n 0, 1) := by decide +kernel
theorem dX0_surge_21 : decode cX0_surge 21 = .ok (.iload_n 2, 1) := by decide +kernel
theorem dX0_surge_22 : decode cX0_surge 22 = .ok (.iload_n 1, 1) := by decide +kernel
theorem dX0_surge_23 : decode cX0_surge 23 = .ok (.iconst 4, 1) := by decide +kernel
theorem dX0_surge_24 : decode cX0_surge 24 = .ok (.idiv, 1) := by decide +kernel
theorem dX0_surge_25 : decode cX0_surge 25 = .ok (.invokevirtual 53, 3) := by decide +kernel
theorem dX0_surge_28 : decode cX0_surge 28 = .ok (.iload_n 2, 1) := by decide +kernel
theorem dX0_surge_29 : decode cX0_surge 29 = .ok (.ireturn, 1) := by decide +kernel
theorem dX0_surge_30 : decode cX0_surge 30 = .ok (.aload_n 0, 1) := by decide +kernel
theorem dX0_surge_31 : decode cX0_surge 31 = .ok (.iload_n 2, 1) := by decide +kernel
theorem dX0_surge_32 : decode cX0_surge 32 = .ok (.aload_n 0, 1) := by decide +kernel
theorem dX0_surge_33 : decode cX0_surge 33 = .ok (.getfield 9, 3) := by decide +kernel
theorem dX0_surge_36 : decode cX0_surge 36 = .ok (.iload_n 2, 1) := by decide +kernel
theorem dX0_surge_37 : decode cX0_surge 37 = .ok (.iaload, 1) := by decide +kernel
theorem dX0_surge_38 : decode cX0_surge 38 = .ok (.iconst 2, 1) := by decide +kernel
theorem dX0_surge_39 : decode cX0_surge 39 = .ok (.idiv, 1) := by decide +kernel
theorem dX0_surge_40 : decode cX0_surge 40 = .ok (.invokevirtual 53, 3) := by decide +kernel
theorem dX0_surge_43 : decode cX0_surge 43 = .ok (.aload_n 0, 1) := by decide +kernel
theorem dX0_surge_44 : decode cX0_surge 44 = .ok (.getfield 15, 3) := by decide +kernel
theorem dX0_surge_47 : decode cX0_surge 47 = .ok (.iload_n 2, 1) := by decide +kernel
theorem dX0_surge_48 : decode cX0_surge 48 = .ok (.iconst 0, 1) := by decide +kernel
theorem dX0_surge_49 : decode cX0_surge 49 = .ok (.iastore, 1) := by decide +kernel
theorem dX0_surge_50 : decode cX0_surge 50 = .ok (.aload_n 0, 1) := by decide +kernel
theorem dX0_surge_51 : decode cX0_surge 51 = .ok (.getfield 18, 3) := by decide +kernel
theorem dX0_surge_54 : decode cX0_surge 54 = .ok (.iload_n 2, 1) := by decide +kernel
theorem dX0_surge_55 : decode cX0_surge 55 = .ok (.iconst 0, 1) := by decide +kernel
theorem dX0_surge_56 : decode cX0_surge 56 = .ok (.iastore, 1) := by decide +kernel
theorem dX0_surge_57 : decode cX0_surge 57 = .ok (.iinc 2 1, 3) := by decide +kernel
theorem dX0_surge_60 : decode cX0_surge 60 = .ok (.goto (-58), 3) := by decide +kernel
theorem dX0_surge_63 : decode cX0_surge 63 = .ok (.aload_n 0, 1) := by decide +kernel
theorem dX0_surge_64 : decode cX0_surge 64 = .ok (.dup, 1) := by decide +kernel
theorem dX0_surge_65 : decode cX0_surge 65 = .ok (.getfield 38, 3) := by decide +kernel
theorem dX0_surge_68 : decode cX0_surge 68 = .ok (.iconst 1, 1) := by decide +kernel
theorem dX0_surge_69 : decode cX0_surge 69 = .ok (.iadd, 1) := by decide +kernel
theorem dX0_surge_70 : decode cX0_surge 70 = .ok (.putfield 38, 3) := by decide +kernel
theorem dX0_surge_73 : decode cX0_surge 73 = .ok (.aload_n 0, 1) := by decide +kernel
theorem dX0_surge_74 : decode cX0_surge 74 = .ok (.getfield 28, 3) := by decide +kernel
theorem dX0_surge_77 : decode cX0_surge 77 = .ok (.ireturn, 1) := by decide +kernel
theorem dX0_washOut_0 : decode cX0_washOut 0 = .ok (.aload_n 0, 1) := by decide +kernel
theorem dX0_washOut_1 : decode cX0_washOut 1 = .ok (.getfield 9, 3) := by decide +kernel
theorem dX0_washOut_4 : decode cX0_washOut 4 = .ok (.iload_n 1, 1) := by decide +kernel
theorem dX0_washOut_5 : decode cX0_washOut 5 = .ok (.dup2, 1) := by decide +kernel
theorem dX0_washOut_6 : decode cX0_washOut 6 = .ok (.iaload, 1) := by decide +kernel
theorem dX0_washOut_7 : decode cX0_washOut 7 = .ok (.iload_n 2, 1) := by decide +kernel
theorem dX0_washOut_8 : decode cX0_washOut 8 = .ok (.isub, 1) := by decide +kernel
theorem dX0_washOut_9 : decode cX0_washOut 9 = .ok (.iastore, 1) := by decide +kernel
theorem dX0_washOut_10 : decode cX0_washOut 10 = .ok (.aload_n 0, 1) := by decide +kernel
theorem dX0_washOut_11 : decode cX0_washOut 11 = .ok (.dup, 1) := by decide +kernel
theorem dX0_washOut_12 : decode cX0_washOut 12 = .ok (.getfield 32, 3) := by decide +kernel
theorem dX0_washOut_15 : decode cX0_washOut 15 = .ok (.iload_n 2, 1) := by decide +kernel
theorem dX0_washOut_16 : decode cX0_washOut 16 = .ok (.iadd, 1) := by decide +kernel
theorem dX0_washOut_17 : decode cX0_washOut 17 = .ok (.putfield 32, 3) := by decide +kernel
theorem dX0_washOut_20 : decode cX0_washOut 20 = .ok (.return_, 1) := by decide +kernel
set_option maxRecDepth 20000 in
theorem ggX0_endYear_X0_nextGrass : GoodIn wsX0_endYear wsX0_nextGrass := goodIn_r _ [7, 8, 9, 10, 11, 12, 13, 14] (by decide +kernel) (by decide +kernel)
set_option maxRecDepth 20000 in
theorem gX0_endYear_X0_nextGrass : GoodIn wsX0_endYear (va_wsS RX0 57 yX0_nextGrass wsX0_nextGrass) := goodIn_app (goodIn_of _ (by decide +kernel)) ggX0_endYear_X0_nextGrass
theorem dX0_endYear_0 : decode cX0_endYear 0 = .ok (.iconst 0, 1) := by decide +kernel
theorem dX0_endYear_1 : decode cX0_endYear 1 = .ok (.istore_n 1, 1) := by decide +kernel
theorem dX0_endYear_2 : decode cX0_endYear 2 = .ok (.iconst 0, 1) := by decide +kernel
theorem dX0_endYear_3 : decode cX0_endYear 3 = .ok (.istore_n 2, 1) := by decide +kernel
theorem dX0_endYear_4 : decode cX0_endYear 4 = .ok (.iload_n 2, 1) := by decide +kernel
theorem dX0_endYear_5 : decode cX0_endYear 5 = .ok (.aload_n 0, 1) := by decide +kernel
theorem dX0_endYear_6 : decode cX0_endYear 6 = .ok (.getfield 28, 3) := by decide +kernel
theorem dX0_endYear_9 : decode cX0_endYear 9 = .ok (.if_icmp .ge 52, 3) := by decide +kernel
theorem dX0_endYear_12 : decode cX0_endYear 12 = .ok (.aload_n 0, 1) := by decide +kernel
theorem dX0_endYear_13 : decode cX0_endYear 13 = .ok (.getfield 15, 3) := by decide +kernel
theorem dX0_endYear_16 : decode cX0_endYear 16 = .ok (.iload_n 2, 1) := by decide +kernel
theorem dX0_endYear_17 : decode cX0_endYear 17 = .ok (.iaload, 1) := by decide +kernel
theorem dX0_endYear_18 : decode cX0_endYear 18 = .ok (.aload_n 0, 1) := by decide +kernel
theorem dX0_endYear_19 : decode cX0_endYear 19 = .ok (.getfield 21, 3) := by decide +kernel
theorem dX0_endYear_22 : decode cX0_endYear 22 = .ok (.iload_n 2, 1) := by decide +kernel
theorem dX0_endYear_23 : decode cX0_endYear 23 = .ok (.iaload, 1) := by decide +kernel
theorem dX0_endYear_24 : decode cX0_endYear 24 = .ok (.invokestatic 57, 3) := by decide +kernel
theorem dX0_endYear_27 : decode cX0_endYear 27 = .ok (.istore_n 3, 1) := by decide +kernel
theorem dX0_endYear_28 : decode cX0_endYear 28 = .ok (.iload_n 3, 1) := by decide +kernel
theorem dX0_endYear_29 : decode cX0_endYear 29 = .ok (.aload_n 0, 1) := by decide +kernel
theorem dX0_endYear_30 : decode cX0_endYear 30 = .ok (.getfield 15, 3) := by decide +kernel
theorem dX0_endYear_33 : decode cX0_endYear 33 = .ok (.iload_n 2, 1) := by decide +kernel
theorem dX0_endYear_34 : decode cX0_endYear 34 = .ok (.iaload, 1) := by decide +kernel
theorem dX0_endYear_35 : decode cX0_endYear 35 = .ok (.if_icmp .eq 6, 3) := by decide +kernel
theorem dX0_endYear_38 : decode cX0_endYear 38 = .ok (.iinc 1 1, 3) := by decide +kernel
theorem dX0_endYear_41 : decode cX0_endYear 41 = .ok (.aload_n 0, 1) := by decide +kernel
theorem dX0_endYear_42 : decode cX0_endYear 42 = .ok (.getfield 15, 3) := by decide +kernel
theorem dX0_endYear_45 : decode cX0_endYear 45 = .ok (.iload_n 2, 1) := by decide +kernel
theorem dX0_endYear_46 : decode cX0_endYear 46 = .ok (.iload_n 3, 1) := by decide +kernel
theorem dX0_endYear_47 : decode cX0_endYear 47 = .ok (.iastore, 1) := by decide +kernel
theorem dX0_endYear_48 : decode cX0_endYear 48 = .ok (.aload_n 0, 1) := by decide +kernel
theorem dX0_endYear_49 : decode cX0_endYear 49 = .ok (.getfield 21, 3) := by decide +kernel
theorem dX0_endYear_52 : decode cX0_endYear 52 = .ok (.iload_n 2, 1) := by decide +kernel
theorem dX0_endYear_53 : decode cX0_endYear 53 = .ok (.iconst 0, 1) := by decide +kernel
theorem dX0_endYear_54 : decode cX0_endYear 54 = .ok (.iastore, 1) := by decide +kernel
theorem dX0_endYear_55 : decode cX0_endYear 55 = .ok (.iinc 2 1, 3) := by decide +kernel
theorem dX0_endYear_58 : decode cX0_endYear 58 = .ok (.goto (-54), 3) := by decide +kernel
theorem dX0_endYear_61 : decode cX0_endYear 61 = .ok (.iload_n 1, 1) := by decide +kernel
theorem dX0_endYear_62 : decode cX0_endYear 62 = .ok (.ireturn, 1) := by decide +kernel
set_option maxRecDepth 20000 in
theorem ggX0_nextGrass_X3_isWithin : GoodIn wsX0_nextGrass wsX3_isWithin := goodIn_r _ [7] (by decide +kernel) (by decide +kernel)
set_option maxRecDepth 20000 in
theorem gX0_nextGrass_X3_isWithin_n60 : GoodIn wsX0_nextGrass (wsX3_isWithin) := ggX0_nextGrass_X3_isWithin
theorem dX0_nextGrass_0 : decode cX0_nextGrass 0 = .ok (.iload_n 0, 1) := by decide +kernel
theorem dX0_nextGrass_1 : decode cX0_nextGrass 1 = .ok (.ifCond .eq 9, 3) := by decide +kernel
theorem dX0_nextGrass_4 : decode cX0_nextGrass 4 = .ok (.iload_n 1, 1) := by decide +kernel
theorem dX0_nextGrass_5 : decode cX0_nextGrass 5 = .ok (.bipush 30, 2) := by decide +kernel
theorem dX0_nextGrass_7 : decode cX0_nextGrass 7 = .ok (.if_icmp .le 5, 3) := by decide +kernel
theorem dX0_nextGrass_10 : decode cX0_nextGrass 10 = .ok (.iconst 0, 1) := by decide +kernel
theorem dX0_nextGrass_11 : decode cX0_nextGrass 11 = .ok (.ireturn, 1) := by decide +kernel
theorem dX0_nextGrass_12 : decode cX0_nextGrass 12 = .ok (.iload_n 1, 1) := by decide +kernel
theorem dX0_nextGrass_13 : decode cX0_nextGrass 13 = .ok (.iconst 1, 1) := by decide +kernel
theorem dX0_nextGrass_14 : decode cX0_nextGrass 14 = .ok (.bipush 9, 2) := by decide +kernel
theorem dX0_nextGrass_16 : decode cX0_nextGrass 16 = .ok (.invokestatic 60, 3) := by decide +kernel
theorem dX0_nextGrass_19 : decode cX0_nextGrass 19 = .ok (.ifCond .eq 14, 3) := by decide +kernel
theorem dX0_nextGrass_22 : decode cX0_nextGrass 22 = .ok (.bipush 9, 2) := by decide +kernel
theorem dX0_nextGrass_24 : decode cX0_nextGrass 24 = .ok (.iload_n 0, 1) := by decide +kernel
theorem dX0_nextGrass_25 : decode cX0_nextGrass 25 = .ok (.iconst 1, 1) := by decide +kernel
theorem dX0_nextGrass_26 : decode cX0_nextGrass 26 = .ok (.iadd, 1) := by decide +kernel
theorem dX0_nextGrass_27 : decode cX0_nextGrass 27 = .ok (.invokestatic 47, 3) := by decide +kernel
theorem dX0_nextGrass_30 : decode cX0_nextGrass 30 = .ok (.goto 4, 3) := by decide +kernel
theorem dX0_nextGrass_33 : decode cX0_nextGrass 33 = .ok (.iload_n 0, 1) := by decide +kernel
theorem dX0_nextGrass_34 : decode cX0_nextGrass 34 = .ok (.ireturn, 1) := by decide +kernel
theorem dX0_addSand_0 : decode cX0_addSand 0 = .ok (.iload_n 1, 1) := by decide +kernel
theorem dX0_addSand_1 : decode cX0_addSand 1 = .ok (.bipush 99, 2) := by decide +kernel
theorem dX0_addSand_3 : decode cX0_addSand 3 = .ok (.aload_n 0, 1) := by decide +kernel
theorem dX0_addSand_4 : decode cX0_addSand 4 = .ok (.getfield 9, 3) := by decide +kernel
theorem dX0_addSand_7 : decode cX0_addSand 7 = .ok (.iconst 0, 1) := by decide +kernel
theorem dX0_addSand_8 : decode cX0_addSand 8 = .ok (.iaload, 1) := by decide +kernel
theorem dX0_addSand_9 : decode cX0_addSand 9 = .ok (.isub, 1) := by decide +kernel
theorem dX0_addSand_10 : decode cX0_addSand 10 = .ok (.invokestatic 47, 3) := by decide +kernel
theorem dX0_addSand_13 : decode cX0_addSand 13 = .ok (.istore_n 2, 1) := by decide +kernel
theorem dX0_addSand_14 : decode cX0_addSand 14 = .ok (.aload_n 0, 1) := by decide +kernel
theorem dX0_addSand_15 : decode cX0_addSand 15 = .ok (.getfield 9, 3) := by decide +kernel
theorem dX0_addSand_18 : decode cX0_addSand 18 = .ok (.iconst 0, 1) := by decide +kernel
theorem dX0_addSand_19 : decode cX0_addSand 19 = .ok (.dup2, 1) := by decide +kernel
theorem dX0_addSand_20 : decode cX0_addSand 20 = .ok (.iaload, 1) := by decide +kernel
theorem dX0_addSand_21 : decode cX0_addSand 21 = .ok (.iload_n 2, 1) := by decide +kernel
theorem dX0_addSand_22 : decode cX0_addSand 22 = .ok (.iadd, 1) := by decide +kernel
theorem dX0_addSand_23 : decode cX0_addSand 23 = .ok (.iastore, 1) := by decide +kernel
theorem dX0_addSand_24 : decode cX0_addSand 24 = .ok (.iload_n 2, 1) := by decide +kernel
theorem dX0_addSand_25 : decode cX0_addSand 25 = .ok (.ireturn, 1) := by decide +kernel
theorem dX0_heightsTogether_0 : decode cX0_heightsTogether 0 = .ok (.iconst 0, 1) := by decide +kernel
theorem dX0_heightsTogether_1 : decode cX0_heightsTogether 1 = .ok (.istore_n 1, 1) := by decide +kernel
theorem dX0_heightsTogether_2 : decode cX0_heightsTogether 2 = .ok (.iconst 0, 1) := by decide +kernel
theorem dX0_heightsTogether_3 : decode cX0_heightsTogether 3 = .ok (.istore_n 2, 1) := by decide +kernel
theorem dX0_heightsTogether_4 : decode cX0_heightsTogether 4 = .ok (.iload_n 2, 1) := by decide +kernel
theorem dX0_heightsTogether_5 : decode cX0_heightsTogether 5 = .ok (.aload_n 0, 1) := by decide +kernel
theorem dX0_heightsTogether_6 : decode cX0_heightsTogether 6 = .ok (.getfield 28, 3) := by decide +kernel
theorem dX0_heightsTogether_9 : decode cX0_heightsTogether 9 = .ok (.if_icmp .ge 18, 3) := by decide +kernel
theorem dX0_heightsTogether_12 : decode cX0_heightsTogether 12 = .ok (.iload_n 1, 1) := by decide +kernel
theorem dX0_heightsTogether_13 : decode cX0_heightsTogether 13 = .ok (.aload_n 0, 1) := by decide +kernel
theorem dX0_heightsTogether_14 : decode cX0_heightsTogether 14 = .ok (.getfield 9, 3) := by decide +kernel
theorem dX0_heightsTogether_17 : decode cX0_heightsTogether 17 = .ok (.iload_n 2, 1) := by decide +kernel
theorem dX0_heightsTogether_18 : decode cX0_heightsTogether 18 = .ok (.iaload, 1) := by decide +kernel
theorem dX0_heightsTogether_19 : decode cX0_heightsTogether 19 = .ok (.iadd, 1) := by decide +kernel
theorem dX0_heightsTogether_20 : decode cX0_heightsTogether 20 = .ok (.istore_n 1, 1) := by decide +kernel
theorem dX0_heightsTogether_21 : decode cX0_heightsTogether 21 = .ok (.iinc 2 1, 3) := by decide +kernel
theorem dX0_heightsTogether_24 : decode cX0_heightsTogether 24 = .ok (.goto (-20), 3) := by decide +kernel
theorem dX0_heightsTogether_27 : decode cX0_heightsTogether 27 = .ok (.iload_n 1, 1) := by decide +kernel
theorem dX0_heightsTogether_28 : decode cX0_heightsTogether 28 = .ok (.ireturn, 1) := by decide +kernel
theorem dX0_greatestHeight_0 : decode cX0_greatestHeight 0 = .ok (.iconst 0, 1) := by decide +kernel
theorem dX0_greatestHeight_1 : decode cX0_greatestHeight 1 = .ok (.istore_n 1, 1) := by decide +kernel
theorem dX0_greatestHeight_2 : decode cX0_greatestHeight 2 = .ok (.iconst 0, 1) := by decide +kernel
theorem dX0_greatestHeight_3 : decode cX0_greatestHeight 3 = .ok (.istore_n 2, 1) := by decide +kernel
theorem dX0_greatestHeight_4 : decode cX0_greatestHeight 4 = .ok (.iload_n 2, 1) := by decide +kernel
theorem dX0_greatestHeight_5 : decode cX0_greatestHeight 5 = .ok (.aload_n 0, 1) := by decide +kernel
theorem dX0_greatestHeight_6 : decode cX0_greatestHeight 6 = .ok (.getfield 28, 3) := by decide +kernel
theorem dX0_greatestHeight_9 : decode cX0_greatestHeight 9 = .ok (.if_icmp .ge 20, 3) := by decide +kernel
theorem dX0_greatestHeight_12 : decode cX0_greatestHeight 12 = .ok (.iload_n 1, 1) := by decide +kernel
theorem dX0_greatestHeight_13 : decode cX0_greatestHeight 13 = .ok (.aload_n 0, 1) := by decide +kernel
theorem dX0_greatestHeight_14 : decode cX0_greatestHeight 14 = .ok (.getfield 9, 3) := by decide +kernel
theorem dX0_greatestHeight_17 : decode cX0_greatestHeight 17 = .ok (.iload_n 2, 1) := by decide +kernel
theorem dX0_greatestHeight_18 : decode cX0_greatestHeight 18 = .ok (.iaload, 1) := by decide +kernel
theorem dX0_greatestHeight_19 : decode cX0_greatestHeight 19 = .ok (.invokestatic 41, 3) := by decide +kernel
theorem dX0_greatestHeight_22 : decode cX0_greatestHeight 22 = .ok (.istore_n 1, 1) := by decide +kernel
theorem dX0_greatestHeight_23 : decode cX0_greatestHeight 23 = .ok (.iinc 2 1, 3) := by decide +kernel
theorem dX0_greatestHeight_26 : decode cX0_greatestHeight 26 = .ok (.goto (-22), 3) := by decide +kernel
theorem dX0_greatestHeight_29 : decode cX0_greatestHeight 29 = .ok (.iload_n 1, 1) := by decide +kernel
theorem dX0_greatestHeight_30 : decode cX0_greatestHeight 30 = .ok (.ireturn, 1) := by decide +kernel
set_option maxRecDepth 20000 in
theorem ggX1_init_X1_forget : GoodIn wsX1_init wsX1_forget := goodIn_r _ [10, 5, 11] (by decide +kernel) (by decide +kernel)
set_option maxRecDepth 20000 in
theorem gX1_init_X1_forget : GoodIn wsX1_init (wsV RX1 15 RX1 yX1_forget wsX1_forget) := goodIn_app (goodIn_of _ (by decide +kernel)) ggX1_init_X1_forget
theorem dX1_init_0 : decode cX1_init 0 = .ok (.aload_n 0, 1) := by decide +kernel
theorem dX1_init_1 : decode cX1_init 1 = .ok (.invokespecial 3, 3) := by decide +kernel
theorem dX1_init_4 : decode cX1_init 4 = .ok (.aload_n 0, 1) := by decide +kernel
theorem dX1_init_5 : decode cX1_init 5 = .ok (.bipush 7, 2) := by decide +kernel
theorem dX1_init_7 : decode cX1_init 7 = .ok (.newarray .int, 2) := by decide +kernel
theorem dX1_init_9 : decode cX1_init 9 = .ok (.putfield 9, 3) := by decide +kernel
theorem dX1_init_12 : decode cX1_init 12 = .ok (.aload_n 0, 1) := by decide +kernel
theorem dX1_init_13 : decode cX1_init 13 = .ok (.invokevirtual 15, 3) := by decide +kernel
theorem dX1_init_16 : decode cX1_init 16 = .ok (.return_, 1) := by decide +kernel
theorem dX1_forget_0 : decode cX1_forget 0 = .ok (.iconst 0, 1) := by decide +kernel
theorem dX1_forget_1 : decode cX1_forget 1 = .ok (.istore_n 1, 1) := by decide +kernel
theorem dX1_forget_2 : decode cX1_forget 2 = .ok (.iload_n 1, 1) := by decide +kernel
theorem dX1_forget_3 : decode cX1_forget 3 = .ok (.bipush 7, 2) := by decide +kernel
theorem dX1_forget_5 : decode cX1_forget 5 = .ok (.if_icmp .ge 16, 3) := by decide +kernel
theorem dX1_forget_8 : decode cX1_forget 8 = .ok (.aload_n 0, 1) := by decide +kernel
theorem dX1_forget_9 : decode cX1_forget 9 = .ok (.getfield 9, 3) := by decide +kernel
theorem dX1_forget_12 : decode cX1_forget 12 = .ok (.iload_n 1, 1) := by decide +kernel
theorem dX1_forget_13 : decode cX1_forget 13 = .ok (.iconst (-1), 1) := by decide +kernel
theorem dX1_forget_14 : decode cX1_forget 14 = .ok (.iastore, 1) := by decide +kernel
theorem dX1_forget_15 : decode cX1_forget 15 = .ok (.iinc 1 1, 3) := by decide +kernel
theorem dX1_forget_18 : decode cX1_forget 18 = .ok (.goto (-16), 3) := by decide +kernel
theorem dX1_forget_21 : decode cX1_forget 21 = .ok (.return_, 1) := by decide +kernel
theorem dX1_put_0 : decode cX1_put 0 = .ok (.aload_n 0, 1) := by decide +kernel
theorem dX1_put_1 : decode cX1_put 1 = .ok (.getfield 9, 3) := by decide +kernel
theorem dX1_put_4 : decode cX1_put 4 = .ok (.iload_n 1, 1) := by decide +kernel
theorem dX1_put_5 : decode cX1_put 5 = .ok (.iaload, 1) := by decide +kernel
theorem dX1_put_6 : decode cX1_put 6 = .ok (.istore_n 3, 1) := by decide +kernel
theorem dX1_put_7 : decode cX1_put 7 = .ok (.aload_n 0, 1) := by decide +kernel
theorem dX1_put_8 : decode cX1_put 8 = .ok (.getfield 9, 3) := by decide +kernel
theorem dX1_put_11 : decode cX1_put 11 = .ok (.iload_n 1, 1) := by decide +kernel
theorem dX1_put_12 : decode cX1_put 12 = .ok (.iload_n 2, 1) := by decide +kernel
theorem dX1_put_13 : decode cX1_put 13 = .ok (.iastore, 1) := by decide +kernel
theorem dX1_put_14 : decode cX1_put 14 = .ok (.iload_n 3, 1) := by decide +kernel
theorem dX1_put_15 : decode cX1_put 15 = .ok (.ireturn, 1) := by decide +kernel
theorem dX1_readings_0 : decode cX1_readings 0 = .ok (.iconst 0, 1) := by decide +kernel
theorem dX1_readings_1 : decode cX1_readings 1 = .ok (.istore_n 1, 1) := by decide +kernel
theorem dX1_readings_2 : decode cX1_readings 2 = .ok (.iconst 0, 1) := by decide +kernel
theorem dX1_readings_3 : decode cX1_readings 3 = .ok (.istore_n 2, 1) := by decide +kernel
theorem dX1_readings_4 : decode cX1_readings 4 = .ok (.iload_n 2, 1) := by decide +kernel
theorem dX1_readings_5 : decode cX1_readings 5 = .ok (.bipush 7, 2) := by decide +kernel
theorem dX1_readings_7 : decode cX1_readings 7 = .ok (.if_icmp .ge 22, 3) := by decide +kernel
theorem dX1_readings_10 : decode cX1_readings 10 = .ok (.aload_n 0, 1) := by decide +kernel
theorem dX1_readings_11 : decode cX1_readings 11 = .ok (.getfield 9, 3) := by decide +kernel
theorem dX1_readings_14 : decode cX1_readings 14 = .ok (.iload_n 2, 1) := by decide +kernel
theorem dX1_readings_15 : decode cX1_readings 15 = .ok (.iaload, 1) := by decide +kernel
theorem dX1_readings_16 : decode cX1_readings 16 = .ok (.iconst (-1), 1) := by decide +kernel
theorem dX1_readings_17 : decode cX1_readings 17 = .ok (.if_icmp .eq 6, 3) := by decide +kernel
theorem dX1_readings_20 : decode cX1_readings 20 = .ok (.iinc 1 1, 3) := by decide +kernel
theorem dX1_readings_23 : decode cX1_readings 23 = .ok (.iinc 2 1, 3) := by decide +kernel
theorem dX1_readings_26 : decode cX1_readings 26 = .ok (.goto (-22), 3) := by decide +kernel
theorem dX1_readings_29 : decode cX1_readings 29 = .ok (.iload_n 1, 1) := by decide +kernel
theorem dX1_readings_30 : decode cX1_readings 30 = .ok (.ireturn, 1) := by decide +kernel
theorem dX1_nearest_0 : decode cX1_nearest 0 = .ok (.iload_n 1, 1) := by decide +kernel
theorem dX1_nearest_1 : decode cX1_nearest 1 = .ok (.istore 5, 2) := by decide +kernel
theorem dX1_nearest_3 : decode cX1_nearest 3 = .ok (.iconst 0, 1) := by decide +kernel
theorem dX1_nearest_4 : decode cX1_nearest 4 = .ok (.istore 6, 2) := by decide +kernel
theorem dX1_nearest_6 : decode cX1_nearest 6 = .ok (.iload 6, 2) := by decide +kernel
theorem dX1_nearest_8 : decode cX1_nearest 8 = .ok (.bipush 7, 2) := by decide +kernel
theorem dX1_nearest_10 : decode cX1_nearest 10 = .ok (.if_icmp .ge 47, 3) := by decide +kernel
theorem dX1_nearest_13 : decode cX1_nearest 13 = .ok (.iload 5, 2) := by decide +kernel
theorem dX1_nearest_15 : decode cX1_nearest 15 = .ok (.ifCond .lt 42, 3) := by decide +kernel
theorem dX1_nearest_18 : decode cX1_nearest 18 = .ok (.iload 5, 2) := by decide +kernel
theorem dX1_nearest_20 : decode cX1_nearest 20 = .ok (.iload_n 3, 1) := by decide +kernel
theorem dX1_nearest_21 : decode cX1_nearest 21 = .ok (.if_icmp .ge 36, 3) := by decide +kernel
theorem dX1_nearest_24 : decode cX1_nearest 24 = .ok (.aload_n 0, 1) := by decide +kernel
theorem dX1_nearest_25 : decode cX1_nearest 25 = .ok (.getfield 9, 3) := by decide +kernel
theorem dX1_nearest_28 : decode cX1_nearest 28 = .ok (.iload 5, 2) := by decide +kernel
theorem dX1_nearest_30 : decode cX1_nearest 30 = .ok (.iaload, 1) := by decide +kernel
theorem dX1_nearest_31 : decode cX1_nearest 31 = .ok (.iconst (-1), 1) := by decide +kernel
theorem dX1_nearest_32 : decode cX1_nearest 32 = .ok (.if_icmp .eq 13, 3) := by decide +kernel
theorem dX1_nearest_35 : decode cX1_nearest 35 = .ok (.iload 5, 2) := by decide +kernel
theorem dX1_nearest_37 : decode cX1_nearest 37 = .ok (.iload 4, 2) := by decide +kernel
theorem dX1_nearest_39 : decode cX1_nearest 39 = .ok (.if_icmp .eq 6, 3) := by decide +kernel
theorem dX1_nearest_42 : decode cX1_nearest 42 = .ok (.iload 5, 2) := by decide +kernel
theorem dX1_nearest_44 : decode cX1_nearest 44 = .ok (.ireturn, 1) := by decide +kernel
theorem dX1_nearest_45 : decode cX1_nearest 45 = .ok (.iload 5, 2) := by decide +kernel
theorem dX1_nearest_47 : decode cX1_nearest 47 = .ok (.iload_n 2, 1) := by decide +kernel
theorem dX1_nearest_48 : decode cX1_nearest 48 = .ok (.iadd, 1) := by decide +kernel
theorem dX1_nearest_49 : decode cX1_nearest 49 = .ok (.istore 5, 2) := by decide +kernel
theorem dX1_nearest_51 : decode cX1_nearest 51 = .ok (.iinc 6 1, 3) := by decide +kernel
theorem dX1_nearest_54 : decode cX1_nearest 54 = .ok (.goto (-48), 3) := by decide +kernel
theorem dX1_nearest_57 : decode cX1_nearest 57 = .ok (.iconst (-1), 1) := by decide +kernel
theorem dX1_nearest_58 : decode cX1_nearest 58 = .ok (.ireturn, 1) := by decide +kernel
set_option maxRecDepth 20000 in
theorem ggX1_scaledLevel_X1_nearest : GoodIn wsX1_scaledLevel wsX1_nearest := goodIn_r _ [6, 1, 7] (by decide +kernel) (by decide +kernel)
set_option maxRecDepth 20000 in
theorem gX1_scaledLevel_X1_nearest : GoodIn wsX1_scaledLevel (wsV RX1 18 RX1 yX1_nearest wsX1_nearest) := goodIn_app (goodIn_of _ (by decide +kernel)) ggX1_scaledLevel_X1_nearest
theorem dX1_scaledLevel_0 : decode cX1_scaledLevel 0 = .ok (.aload_n 0, 1) := by decide +kernel
theorem dX1_scaledLevel_1 : decode cX1_scaledLevel 1 = .ok (.iload_n 1, 1) := by decide +kernel
theorem dX1_scaledLevel_2 : decode cX1_scaledLevel 2 = .ok (.iconst (-1), 1) := by decide +kernel
theorem dX1_scaledLevel_3 : decode cX1_scaledLevel 3 = .ok (.iload_n 2, 1) := by decide +kernel
theorem dX1_scaledLevel_4 : decode cX1_scaledLevel 4 = .ok (.iload_n 3, 1) := by decide +kernel
theorem dX1_scaledLevel_5 : decode cX1_scaledLevel 5 = .ok (.invokevirtual 18, 3) := by decide +kernel
theorem dX1_scaledLevel_8 : decode cX1_scaledLevel 8 = .ok (.istore 4, 2) := by decide +kernel
theorem dX1_scaledLevel_10 : decode cX1_scaledLevel 10 = .ok (.aload_n 0, 1) := by decide +kernel
theorem dX1_scaledLevel_11 : decode cX1_scaledLevel 11 = .ok (.iload_n 1, 1) := by decide +kernel
theorem dX1_scaledLevel_12 : decode cX1_scaledLevel 12 = .ok (.iconst 1, 1) := by decide +kernel
theorem dX1_scaledLevel_13 : decode cX1_scaledLevel 13 = .ok (.iload_n 2, 1) := by decide +kernel
theorem dX1_scaledLevel_14 : decode cX1_scaledLevel 14 = .ok (.iload_n 3, 1) := by decide +kernel
theorem dX1_scaledLevel_15 : decode cX1_scaledLevel 15 = .ok (.invokevirtual 18, 3) := by decide +kernel
theorem dX1_scaledLevel_18 : decode cX1_scaledLevel 18 = .ok (.istore 5, 2) := by decide +kernel
theorem dX1_scaledLevel_20 : decode cX1_scaledLevel 20 = .ok (.iload 4, 2) := by decide +kernel
theorem dX1_scaledLevel_22 : decode cX1_scaledLevel 22 = .ok (.iconst (-1), 1) := by decide +kernel
theorem dX1_scaledLevel_23 : decode cX1_scaledLevel 23 = .ok (.if_icmp .ne 11, 3) := by decide +kernel
theorem dX1_scaledLevel_26 : decode cX1_scaledLevel 26 = .ok (.iload 5, 2) := by decide +kernel
theorem dX1_scaledLevel_28 : decode cX1_scaledLevel 28 = .ok (.iconst (-1), 1) := by decide +kernel
theorem dX1_scaledLevel_29 : decode cX1_scaledLevel 29 = .ok (.if_icmp .ne 5, 3) := by decide +kernel
theorem dX1_scaledLevel_32 : decode cX1_scaledLevel 32 = .ok (.iconst 0, 1) := by decide +kernel
theorem dX1_scaledLevel_33 : decode cX1_scaledLevel 33 = .ok (.ireturn, 1) := by decide +kernel
theorem dX1_scaledLevel_34 : decode cX1_scaledLevel 34 = .ok (.iload 4, 2) := by decide +kernel
theorem dX1_scaledLevel_36 : decode cX1_scaledLevel 36 = .ok (.iconst (-1), 1) := by decide +kernel
theorem dX1_scaledLevel_37 : decode cX1_scaledLevel 37 = .ok (.if_icmp .ne 14, 3) := by decide +kernel
theorem dX1_scaledLevel_40 : decode cX1_scaledLevel 40 = .ok (.bipush 60, 2) := by decide +kernel
theorem dX1_scaledLevel_42 : decode cX1_scaledLevel 42 = .ok (.aload_n 0, 1) := by decide +kernel
theorem dX1_scaledLevel_43 : decode cX1_scaledLevel 43 = .ok (.getfield 9, 3) := by decide +kernel
theorem dX1_scaledLevel_46 : decode cX1_scaledLevel 46 = .ok (.iload 5, 2) := by decide +kernel
theorem dX1_scaledLevel_48 : decode cX1_scaledLevel 48 = .ok (.iaload, 1) := by decide +kernel
theorem dX1_scaledLevel_49 : decode cX1_scaledLevel 49 = .ok (.imul, 1) := by decide +kernel
theorem dX1_scaledLevel_50 : decode cX1_scaledLevel 50 = .ok (.ireturn, 1) := by decide +kernel
theorem dX1_scaledLevel_51 : decode cX1_scaledLevel 51 = .ok (.iload 5, 2) := by decide +kernel
theorem dX1_scaledLevel_53 : decode cX1_scaledLevel 53 = .ok (.iconst (-1), 1) := by decide +kernel
theorem dX1_scaledLevel_54 : decode cX1_scaledLevel 54 = .ok (.if_icmp .eq 10, 3) := by decide +kernel
theorem dX1_scaledLevel_57 : decode cX1_scaledLevel 57 = .ok (.iload 5, 2) := by decide +kernel
theorem dX1_scaledLevel_59 : decode cX1_scaledLevel 59 = .ok (.iload 4, 2) := by decide +kernel
theorem dX1_scaledLevel_61 : decode cX1_scaledLevel 61 = .ok (.if_icmp .gt 14, 3) := by decide +kernel
theorem dX1_scaledLevel_64 : decode cX1_scaledLevel 64 = .ok (.bipush 60, 2) := by decide +kernel
theorem dX1_scaledLevel_66 : decode cX1_scaledLevel 66 = .ok (.aload_n 0, 1) := by decide +kernel
theorem dX1_scaledLevel_67 : decode cX1_scaledLevel 67 = .ok (.getfield 9, 3) := by decide +kernel
theorem dX1_scaledLevel_70 : decode cX1_scaledLevel 70 = .ok (.iload 4, 2) := by decide +kernel
theorem dX1_scaledLevel_72 : decode cX1_scaledLevel 72 = .ok (.iaload, 1) := by decide +kernel
theorem dX1_scaledLevel_73 : decode cX1_scaledLevel 73 = .ok (.imul, 1) := by decide +kernel
theorem dX1_scaledLevel_74 : decode cX1_scaledLevel 74 = .ok (.ireturn, 1) := by decide +kernel
theorem dX1_scaledLevel_75 : decode cX1_scaledLevel 75 = .ok (.bipush 60, 2) := by decide +kernel
theorem dX1_scaledLevel_77 : decode cX1_scaledLevel 77 = .ok (.iload 5, 2) := by decide +kernel
theorem dX1_scaledLevel_79 : decode cX1_scaledLevel 79 = .ok (.iload 4, 2) := by decide +kernel
theorem dX1_scaledLevel_81 : decode cX1_scaledLevel 81 = .ok (.isub, 1) := by decide +kernel
theorem dX1_scaledLevel_82 : decode cX1_scaledLevel 82 = .ok (.idiv, 1) := by decide +kernel
theorem dX1_scaledLevel_83 : decode cX1_scaledLevel 83 = .ok (.istore 6, 2) := by decide +kernel
theorem dX1_scaledLevel_85 : decode cX1_scaledLevel 85 = .ok (.iload 6, 2) := by decide +kernel
theorem dX1_scaledLevel_87 : decode cX1_scaledLevel 87 = .ok (.aload_n 0, 1) := by decide +kernel
theorem dX1_scaledLevel_88 : decode cX1_scaledLevel 88 = .ok (.getfield 9, 3) := by decide +kernel
theorem dX1_scaledLevel_91 : decode cX1_scaledLevel 91 = .ok (.iload 4, 2) := by decide +kernel
theorem dX1_scaledLevel_93 : decode cX1_scaledLevel 93 = .ok (.iaload, 1) := by decide +kernel
theorem dX1_scaledLevel_94 : decode cX1_scaledLevel 94 = .ok (.iload 5, 2) := by decide +kernel
theorem dX1_scaledLevel_96 : decode cX1_scaledLevel 96 = .ok (.iload_n 1, 1) := by decide +kernel
theorem dX1_scaledLevel_97 : decode cX1_scaledLevel 97 = .ok (.isub, 1) := by decide +kernel
theorem dX1_scaledLevel_98 : decode cX1_scaledLevel 98 = .ok (.imul, 1) := by decide +kernel
theorem dX1_scaledLevel_99 : decode cX1_scaledLevel 99 = .ok (.aload_n 0, 1) := by decide +kernel
theorem dX1_scaledLevel_100 : decode cX1_scaledLevel 100 = .ok (.getfield 9, 3) := by decide +kernel
theorem dX1_scaledLevel_103 : decode cX1_scaledLevel 103 = .ok (.iload 5, 2) := by decide +kernel
theorem dX1_scaledLevel_105 : decode cX1_scaledLevel 105 = .ok (.iaload, 1) := by decide +kernel
theorem dX1_scaledLevel_106 : decode cX1_scaledLevel 106 = .ok (.iload_n 1, 1) := by decide +kernel
theorem dX1_scaledLevel_107 : decode cX1_scaledLevel 107 = .ok (.iload 4, 2) := by decide +kernel
theorem dX1_scaledLevel_109 : decode cX1_scaledLevel 109 = .ok (.isub, 1) := by decide +kernel
theorem dX1_scaledLevel_110 : decode cX1_scaledLevel 110 = .ok (.imul, 1) := by decide +kernel
theorem dX1_scaledLevel_111 : decode cX1_scaledLevel 111 = .ok (.iadd, 1) := by decide +kernel
theorem dX1_scaledLevel_112 : decode cX1_scaledLevel 112 = .ok (.imul, 1) := by decide +kernel
theorem dX1_scaledLevel_113 : decode cX1_scaledLevel 113 = .ok (.ireturn, 1) := by decide +kernel
set_option maxRecDepth 20000 in
theorem ggX1_scaledVolume_X1_scaledLevel : GoodIn wsX1_scaledVolume wsX1_scaledLevel := goodIn_r _ [5, 6, 7, 8, 9, 4, 10, 11] (by decide +kernel) (by decide +kernel)
set_option maxRecDepth 20000 in
theorem gX1_scaledVolume_X1_scaledLevel : GoodIn wsX1_scaledVolume (wsV RX1 22 RX1 yX1_scaledLevel wsX1_scaledLevel) := goodIn_app (goodIn_of _ (by decide +kernel)) ggX1_scaledVolume_X1_scaledLevel
theorem dX1_scaledVolume_0 : decode cX1_scaledVolume 0 = .ok (.iconst 0, 1) := by decide +kernel
theorem dX1_scaledVolume_1 : decode cX1_scaledVolume 1 = .ok (.istore_n 3, 1) := by decide +kernel
theorem dX1_scaledVolume_2 : decode cX1_scaledVolume 2 = .ok (.iconst 0, 1) := by decide +kernel
theorem dX1_scaledVolume_3 : decode cX1_scaledVolume 3 = .ok (.istore 4, 2) := by decide +kernel
theorem dX1_scaledVolume_5 : decode cX1_scaledVolume 5 = .ok (.iload 4, 2) := by decide +kernel
theorem dX1_scaledVolume_7 : decode cX1_scaledVolume 7 = .ok (.iload_n 1, 1) := by decide +kernel
theorem dX1_scaledVolume_8 : decode cX1_scaledVolume 8 = .ok (.if_icmp .ge 20, 3) := by decide +kernel
theorem dX1_scaledVolume_11 : decode cX1_scaledVolume 11 = .ok (.iload_n 3, 1) := by decide +kernel
theorem dX1_scaledVolume_12 : decode cX1_scaledVolume 12 = .ok (.aload_n 0, 1) := by decide +kernel
theorem dX1_scaledVolume_13 : decode cX1_scaledVolume 13 = .ok (.iload 4, 2) := by decide +kernel
theorem dX1_scaledVolume_15 : decode cX1_scaledVolume 15 = .ok (.iload_n 1, 1) := by decide +kernel
theorem dX1_scaledVolume_16 : decode cX1_scaledVolume 16 = .ok (.iload_n 2, 1) := by decide +kernel
theorem dX1_scaledVolume_17 : decode cX1_scaledVolume 17 = .ok (.invokevirtual 22, 3) := by decide +kernel
theorem dX1_scaledVolume_20 : decode cX1_scaledVolume 20 = .ok (.iadd, 1) := by decide +kernel
theorem dX1_scaledVolume_21 : decode cX1_scaledVolume 21 = .ok (.istore_n 3, 1) := by decide +kernel
theorem dX1_scaledVolume_22 : decode cX1_scaledVolume 22 = .ok (.iinc 4 1, 3) := by decide +kernel
theorem dX1_scaledVolume_25 : decode cX1_scaledVolume 25 = .ok (.goto (-20), 3) := by decide +kernel
theorem dX1_scaledVolume_28 : decode cX1_scaledVolume 28 = .ok (.iload_n 3, 1) := by decide +kernel
theorem dX1_scaledVolume_29 : decode cX1_scaledVolume 29 = .ok (.ireturn, 1) := by decide +kernel
set_option maxRecDepth 20000 in
theorem ggX1_scaledDoubt_X1_scaledVolume : GoodIn wsX1_scaledDoubt wsX1_scaledVolume := goodIn_r _ [13, 14, 15, 16, 12, 17, 1, 18, 19, 20, 21, 22] (by decide +kernel) (by decide +kernel)
set_option maxRecDepth 20000 in
theorem gX1_scaledDoubt_X1_scaledVolume : GoodIn wsX1_scaledDoubt (wsV RX1 26 RX1 yX1_scaledVolume wsX1_scaledVolume) := goodIn_app (goodIn_of _ (by decide +kernel)) ggX1_scaledDoubt_X1_scaledVolume
theorem dX1_scaledDoubt_0 : decode cX1_scaledDoubt 0 = .ok (.aload_n 0, 1) := by decide +kernel
theorem dX1_scaledDoubt_1 : decode cX1_scaledDoubt 1 = .ok (.iload_n 1, 1) := by decide +kernel
theorem dX1_scaledDoubt_2 : decode cX1_scaledDoubt 2 = .ok (.iconst (-1), 1) := by decide +kernel
theorem dX1_scaledDoubt_3 : decode cX1_scaledDoubt 3 = .ok (.invokevirtual 26, 3) := by decide +kernel
theorem dX1_scaledDoubt_6 : decode cX1_scaledDoubt 6 = .ok (.istore_n 2, 1) := by decide +kernel
theorem dX1_scaledDoubt_7 : decode cX1_scaledDoubt 7 = .ok (.iconst 0, 1) := by decide +kernel
theorem dX1_scaledDoubt_8 : decode cX1_scaledDoubt 8 = .ok (.istore_n 3, 1) := by decide +kernel
theorem dX1_scaledDoubt_9 : decode cX1_scaledDoubt 9 = .ok (.iconst 0, 1) := by decide +kernel
theorem dX1_scaledDoubt_10 : decode cX1_scaledDoubt 10 = .ok (.istore 4, 2) := by decide +kernel
theorem dX1_scaledDoubt_12 : decode cX1_scaledDoubt 12 = .ok (.iload 4, 2) := by decide +kernel
theorem dX1_scaledDoubt_14 : decode cX1_scaledDoubt 14 = .ok (.iload_n 1, 1) := by decide +kernel
theorem dX1_scaledDoubt_15 : decode cX1_scaledDoubt 15 = .ok (.if_icmp .ge 37, 3) := by decide +kernel
theorem dX1_scaledDoubt_18 : decode cX1_scaledDoubt 18 = .ok (.aload_n 0, 1) := by decide +kernel
theorem dX1_scaledDoubt_19 : decode cX1_scaledDoubt 19 = .ok (.getfield 9, 3) := by decide +kernel
theorem dX1_scaledDoubt_22 : decode cX1_scaledDoubt 22 = .ok (.iload 4, 2) := by decide +kernel
theorem dX1_scaledDoubt_24 : decode cX1_scaledDoubt 24 = .ok (.iaload, 1) := by decide +kernel
theorem dX1_scaledDoubt_25 : decode cX1_scaledDoubt 25 = .ok (.iconst (-1), 1) := by decide +kernel
theorem dX1_scaledDoubt_26 : decode cX1_scaledDoubt 26 = .ok (.if_icmp .eq 20, 3) := by decide +kernel
theorem dX1_scaledDoubt_29 : decode cX1_scaledDoubt 29 = .ok (.iload_n 3, 1) := by decide +kernel
theorem dX1_scaledDoubt_30 : decode cX1_scaledDoubt 30 = .ok (.aload_n 0, 1) := by decide +kernel
theorem dX1_scaledDoubt_31 : decode cX1_scaledDoubt 31 = .ok (.iload_n 1, 1) := by decide +kernel
theorem dX1_scaledDoubt_32 : decode cX1_scaledDoubt 32 = .ok (.iload 4, 2) := by decide +kernel
theorem dX1_scaledDoubt_34 : decode cX1_scaledDoubt 34 = .ok (.invokevirtual 26, 3) := by decide +kernel
theorem dX1_scaledDoubt_37 : decode cX1_scaledDoubt 37 = .ok (.iload_n 2, 1) := by decide +kernel
theorem dX1_scaledDoubt_38 : decode cX1_scaledDoubt 38 = .ok (.isub, 1) := by decide +kernel
theorem dX1_scaledDoubt_39 : decode cX1_scaledDoubt 39 = .ok (.invokestatic 30, 3) := by decide +kernel
theorem dX1_scaledDoubt_42 : decode cX1_scaledDoubt 42 = .ok (.invokestatic 36, 3) := by decide +kernel
theorem dX1_scaledDoubt_45 : decode cX1_scaledDoubt 45 = .ok (.istore_n 3, 1) := by decide +kernel
theorem dX1_scaledDoubt_46 : decode cX1_scaledDoubt 46 = .ok (.iinc 4 1, 3) := by decide +kernel
theorem dX1_scaledDoubt_49 : decode cX1_scaledDoubt 49 = .ok (.goto (-37), 3) := by decide +kernel
theorem dX1_scaledDoubt_52 : decode cX1_scaledDoubt 52 = .ok (.iload_n 3, 1) := by decide +kernel
theorem dX1_scaledDoubt_53 : decode cX1_scaledDoubt 53 = .ok (.ireturn, 1) := by decide +kernel
theorem dX2_init_0 : decode cX2_init 0 = .ok (.aload_n 0, 1) := by decide +kernel
theorem dX2_init_1 : decode cX2_init 1 = .ok (.invokespecial 3, 3) := by decide +kernel
theorem dX2_init_4 : decode cX2_init 4 = .ok (.aload_n 0, 1) := by decide +kernel
theorem dX2_init_5 : decode cX2_init 5 = .ok (.iconst 3, 1) := by decide +kernel
theorem dX2_init_6 : decode cX2_init 6 = .ok (.newarray .int, 2) := by decide +kernel
theorem dX2_init_8 : decode cX2_init 8 = .ok (.putfield 9, 3) := by decide +kernel
theorem dX2_init_11 : decode cX2_init 11 = .ok (.aload_n 0, 1) := by decide +kernel
theorem dX2_init_12 : decode cX2_init 12 = .ok (.iconst 3, 1) := by decide +kernel
theorem dX2_init_13 : decode cX2_init 13 = .ok (.bipush 12, 2) := by decide +kernel
theorem dX2_init_15 : decode cX2_init 15 = .ok (.multianewarray 15 2, 4) := by decide +kernel
theorem dX2_init_19 : decode cX2_init 19 = .ok (.putfield 17, 3) := by decide +kernel
theorem dX2_init_22 : decode cX2_init 22 = .ok (.aload_n 0, 1) := by decide +kernel
theorem dX2_init_23 : decode cX2_init 23 = .ok (.iconst 3, 1) := by decide +kernel
theorem dX2_init_24 : decode cX2_init 24 = .ok (.bipush 12, 2) := by decide +kernel
theorem dX2_init_26 : decode cX2_init 26 = .ok (.multianewarray 15 2, 4) := by decide +kernel
theorem dX2_init_30 : decode cX2_init 30 = .ok (.putfield 20, 3) := by decide +kernel
theorem dX2_init_33 : decode cX2_init 33 = .ok (.return_, 1) := by decide +kernel
theorem dX2_add_0 : decode cX2_add 0 = .ok (.aload_n 0, 1) := by decide +kernel
theorem dX2_add_1 : decode cX2_add 1 = .ok (.getfield 9, 3) := by decide +kernel
theorem dX2_add_4 : decode cX2_add 4 = .ok (.iload_n 1, 1) := by decide +kernel
theorem dX2_add_5 : decode cX2_add 5 = .ok (.iaload, 1) := by decide +kernel
theorem dX2_add_6 : decode cX2_add 6 = .ok (.istore 4, 2) := by decide +kernel
theorem dX2_add_8 : decode cX2_add 8 = .ok (.aload_n 0, 1) := by decide +kernel
theorem dX2_add_9 : decode cX2_add 9 = .ok (.getfield 17, 3) := by decide +kernel
theorem dX2_add_12 : decode cX2_add 12 = .ok (.iload_n 1, 1) := by decide +kernel
theorem dX2_add_13 : decode cX2_add 13 = .ok (.aaload, 1) := by decide +kernel
theorem dX2_add_14 : decode cX2_add 14 = .ok (.iload 4, 2) := by decide +kernel
theorem dX2_add_16 : decode cX2_add 16 = .ok (.iload_n 2, 1) := by decide +kernel
theorem dX2_add_17 : decode cX2_add 17 = .ok (.iastore, 1) := by decide +kernel
theorem dX2_add_18 : decode cX2_add 18 = .ok (.aload_n 0, 1) := by decide +kernel
theorem dX2_add_19 : decode cX2_add 19 = .ok (.getfield 20, 3) := by decide +kernel
theorem dX2_add_22 : decode cX2_add 22 = .ok (.iload_n 1, 1) := by decide +kernel
theorem dX2_add_23 : decode cX2_add 23 = .ok (.aaload, 1) := by decide +kernel
theorem dX2_add_24 : decode cX2_add 24 = .ok (.iload 4, 2) := by decide +kernel
theorem dX2_add_26 : decode cX2_add 26 = .ok (.iload_n 3, 1) := by decide +kernel
theorem dX2_add_27 : decode cX2_add 27 = .ok (.iastore, 1) := by decide +kernel
theorem dX2_add_28 : decode cX2_add 28 = .ok (.aload_n 0, 1) := by decide +kernel
theorem dX2_add_29 : decode cX2_add 29 = .ok (.getfield 9, 3) := by decide +kernel
theorem dX2_add_32 : decode cX2_add 32 = .ok (.iload_n 1, 1) := by decide +kernel
theorem dX2_add_33 : decode cX2_add 33 = .ok (.iload 4, 2) := by decide +kernel
theorem dX2_add_35 : decode cX2_add 35 = .ok (.iconst 1, 1) := by decide +kernel
theorem dX2_add_36 : decode cX2_add 36 = .ok (.iadd, 1) := by decide +kernel
theorem dX2_add_37 : decode cX2_add 37 = .ok (.iastore, 1) := by decide +kernel
theorem dX2_add_38 : decode cX2_add 38 = .ok (.iload 4, 2) := by decide +kernel
theorem dX2_add_40 : decode cX2_add 40 = .ok (.iconst 1, 1) := by decide +kernel
theorem dX2_add_41 : decode cX2_add 41 = .ok (.iadd, 1) := by decide +kernel
theorem dX2_add_42 : decode cX2_add 42 = .ok (.ireturn, 1) := by decide +kernel
theorem dX2_any_0 : decode cX2_any 0 = .ok (.iconst 0, 1) := by decide +kernel
theorem dX2_any_1 : decode cX2_any 1 = .ok (.istore_n 1, 1) := by decide +kernel
theorem dX2_any_2 : decode cX2_any 2 = .ok (.iload_n 1, 1) := by decide +kernel
theorem dX2_any_3 : decode cX2_any 3 = .ok (.iconst 3, 1) := by decide +kernel
theorem dX2_any_4 : decode cX2_any 4 = .ok (.if_icmp .ge 20, 3) := by decide +kernel
theorem dX2_any_7 : decode cX2_any 7 = .ok (.aload_n 0, 1) := by decide +kernel
theorem dX2_any_8 : decode cX2_any 8 = .ok (.getfield 9, 3) := by decide +kernel
theorem dX2_any_11 : decode cX2_any 11 = .ok (.iload_n 1, 1) := by decide +kernel
theorem dX2_any_12 : decode cX2_any 12 = .ok (.iaload, 1) := by decide +kernel
theorem dX2_any_13 : decode cX2_any 13 = .ok (.ifCond .le 5, 3) := by decide +kernel
theorem dX2_any_16 : decode cX2_any 16 = .ok (.iconst 1, 1) := by decide +kernel
theorem dX2_any_17 : decode cX2_any 17 = .ok (.ireturn, 1) := by decide +kernel
theorem dX2_any_18 : decode cX2_any 18 = .ok (.iinc 1 1, 3) := by decide +kernel
theorem dX2_any_21 : decode cX2_any 21 = .ok (.goto (-19), 3) := by decide +kernel
theorem dX2_any_24 : decode cX2_any 24 = .ok (.iconst 0, 1) := by decide +kernel
theorem dX2_any_25 : decode cX2_any 25 = .ok (.ireturn, 1) := by decide +kernel
set_option maxRecDepth 20000 in
theorem ggX2_lastYear_X2_yearEnds : GoodIn wsX2_lastYear wsX2_yearEnds := goodIn_r _ [9, 10, 11, 12, 13, 14] (by decide +kernel) (by decide +kernel)
set_option maxRecDepth 20000 in
theorem gX2_lastYear_X2_yearEnds : GoodIn wsX2_lastYear (wsV RX2 23 RX2 yX2_yearEnds wsX2_yearEnds) := goodIn_app (goodIn_of _ (by decide +kernel)) ggX2_lastYear_X2_yearEnds
theorem dX2_lastYear_0 : decode cX2_lastYear 0 = .ok (.iconst 0, 1) := by decide +kernel
theorem dX2_lastYear_1 : decode cX2_lastYear 1 = .ok (.istore_n 1, 1) := by decide +kernel
theorem dX2_lastYear_2 : decode cX2_lastYear 2 = .ok (.iconst 0, 1) := by decide +kernel
theorem dX2_lastYear_3 : decode cX2_lastYear 3 = .ok (.istore_n 2, 1) := by decide +kernel
theorem dX2_lastYear_4 : decode cX2_lastYear 4 = .ok (.iload_n 2, 1) := by decide +kernel
theorem dX2_lastYear_5 : decode cX2_lastYear 5 = .ok (.iconst 3, 1) := by decide +kernel
theorem dX2_lastYear_6 : decode cX2_lastYear 6 = .ok (.if_icmp .ge 19, 3) := by decide +kernel
theorem dX2_lastYear_9 : decode cX2_lastYear 9 = .ok (.iload_n 1, 1) := by decide +kernel
theorem dX2_lastYear_10 : decode cX2_lastYear 10 = .ok (.aload_n 0, 1) := by decide +kernel
theorem dX2_lastYear_11 : decode cX2_lastYear 11 = .ok (.iload_n 2, 1) := by decide +kernel
theorem dX2_lastYear_12 : decode cX2_lastYear 12 = .ok (.invokevirtual 23, 3) := by decide +kernel
theorem dX2_lastYear_15 : decode cX2_lastYear 15 = .ok (.invokestatic 27, 3) := by decide +kernel
theorem dX2_lastYear_18 : decode cX2_lastYear 18 = .ok (.istore_n 1, 1) := by decide +kernel
theorem dX2_lastYear_19 : decode cX2_lastYear 19 = .ok (.iinc 2 1, 3) := by decide +kernel
theorem dX2_lastYear_22 : decode cX2_lastYear 22 = .ok (.goto (-18), 3) := by decide +kernel
theorem dX2_lastYear_25 : decode cX2_lastYear 25 = .ok (.iload_n 1, 1) := by decide +kernel
theorem dX2_lastYear_26 : decode cX2_lastYear 26 = .ok (.ireturn, 1) := by decide +kernel
theorem dX2_yearEnds_0 : decode cX2_yearEnds 0 = .ok (.iconst 0, 1) := by decide +kernel
theorem dX2_yearEnds_1 : decode cX2_yearEnds 1 = .ok (.istore_n 2, 1) := by decide +kernel
theorem dX2_yearEnds_2 : decode cX2_yearEnds 2 = .ok (.iconst 0, 1) := by decide +kernel
theorem dX2_yearEnds_3 : decode cX2_yearEnds 3 = .ok (.istore_n 3, 1) := by decide +kernel
theorem dX2_yearEnds_4 : decode cX2_yearEnds 4 = .ok (.iload_n 3, 1) := by decide +kernel
theorem dX2_yearEnds_5 : decode cX2_yearEnds 5 = .ok (.aload_n 0, 1) := by decide +kernel
theorem dX2_yearEnds_6 : decode cX2_yearEnds 6 = .ok (.getfield 9, 3) := by decide +kernel
theorem dX2_yearEnds_9 : decode cX2_yearEnds 9 = .ok (.iload_n 1, 1) := by decide +kernel
theorem dX2_yearEnds_10 : decode cX2_yearEnds 10 = .ok (.iaload, 1) := by decide +kernel
theorem dX2_yearEnds_11 : decode cX2_yearEnds 11 = .ok (.if_icmp .ge 24, 3) := by decide +kernel
theorem dX2_yearEnds_14 : decode cX2_yearEnds 14 = .ok (.aload_n 0, 1) := by decide +kernel
theorem dX2_yearEnds_15 : decode cX2_yearEnds 15 = .ok (.getfield 17, 3) := by decide +kernel
theorem dX2_yearEnds_18 : decode cX2_yearEnds 18 = .ok (.iload_n 1, 1) := by decide +kernel
theorem dX2_yearEnds_19 : decode cX2_yearEnds 19 = .ok (.aaload, 1) := by decide +kernel
theorem dX2_yearEnds_20 : decode cX2_yearEnds 20 = .ok (.iload_n 3, 1) := by decide +kernel
theorem dX2_yearEnds_21 : decode cX2_yearEnds 21 = .ok (.iaload, 1) := by decide +kernel
theorem dX2_yearEnds_22 : decode cX2_yearEnds 22 = .ok (.iconst 2, 1) := by decide +kernel
theorem dX2_yearEnds_23 : decode cX2_yearEnds 23 = .ok (.if_icmp .ne 6, 3) := by decide +kernel
theorem dX2_yearEnds_26 : decode cX2_yearEnds 26 = .ok (.iinc 2 1, 3) := by decide +kernel
theorem dX2_yearEnds_29 : decode cX2_yearEnds 29 = .ok (.iinc 3 1, 3) := by decide +kernel
theorem dX2_yearEnds_32 : decode cX2_yearEnds 32 = .ok (.goto (-28), 3) := by decide +kernel
theorem dX2_yearEnds_35 : decode cX2_yearEnds 35 = .ok (.iload_n 2, 1) := by decide +kernel
theorem dX2_yearEnds_36 : decode cX2_yearEnds 36 = .ok (.ireturn, 1) := by decide +kernel
theorem dJ9_abs_0f7a4_0 : decode cJ9_abs_0f7a4 0 = .ok (.iload_n 0, 1) := by decide +kernel
theorem dJ9_abs_0f7a4_1 : decode cJ9_abs_0f7a4 1 = .ok (.ifCond .ge 8, 3) := by decide +kernel
theorem dJ9_abs_0f7a4_4 : decode cJ9_abs_0f7a4 4 = .ok (.iload_n 0, 1) := by decide +kernel
theorem dJ9_abs_0f7a4_5 : decode cJ9_abs_0f7a4 5 = .ok (.ineg, 1) := by decide +kernel
theorem dJ9_abs_0f7a4_6 : decode cJ9_abs_0f7a4 6 = .ok (.goto 4, 3) := by decide +kernel
theorem dJ9_abs_0f7a4_9 : decode cJ9_abs_0f7a4 9 = .ok (.iload_n 0, 1) := by decide +kernel
theorem dJ9_abs_0f7a4_10 : decode cJ9_abs_0f7a4 10 = .ok (.ireturn, 1) := by decide +kernel
theorem dJ9_max_7cf53_0 : decode cJ9_max_7cf53 0 = .ok (.iload_n 0, 1) := by decide +kernel
theorem dJ9_max_7cf53_1 : decode cJ9_max_7cf53 1 = .ok (.iload_n 1, 1) := by decide +kernel
theorem dJ9_max_7cf53_2 : decode cJ9_max_7cf53 2 = .ok (.if_icmp .lt 7, 3) := by decide +kernel
theorem dJ9_max_7cf53_5 : decode cJ9_max_7cf53 5 = .ok (.iload_n 0, 1) := by decide +kernel
theorem dJ9_max_7cf53_6 : decode cJ9_max_7cf53 6 = .ok (.goto 4, 3) := by decide +kernel
theorem dJ9_max_7cf53_9 : decode cJ9_max_7cf53 9 = .ok (.iload_n 1, 1) := by decide +kernel
theorem dJ9_max_7cf53_10 : decode cJ9_max_7cf53 10 = .ok (.ireturn, 1) := by decide +kernel
theorem dJ9_min_7cf53_0 : decode cJ9_min_7cf53 0 = .ok (.iload_n 0, 1) := by decide +kernel
theorem dJ9_min_7cf53_1 : decode cJ9_min_7cf53 1 = .ok (.iload_n 1, 1) := by decide +kernel
theorem dJ9_min_7cf53_2 : decode cJ9_min_7cf53 2 = .ok (.if_icmp .gt 7, 3) := by decide +kernel
theorem dJ9_min_7cf53_5 : decode cJ9_min_7cf53 5 = .ok (.iload_n 0, 1) := by decide +kernel
theorem dJ9_min_7cf53_6 : decode cJ9_min_7cf53 6 = .ok (.goto 4, 3) := by decide +kernel
theorem dJ9_min_7cf53_9 : decode cJ9_min_7cf53 9 = .ok (.iload_n 1, 1) := by decide +kernel
theorem dJ9_min_7cf53_10 : decode cJ9_min_7cf53 10 = .ok (.ireturn, 1) := by decide +kernel
