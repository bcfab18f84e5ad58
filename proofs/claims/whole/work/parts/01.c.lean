theorem dX5_measure_0 : decode cX5_measure 0 = .ok (.aload_n 1, 1) := by decide +kernel
theorem dX5_measure_1 : decode cX5_measure 1 = .ok (.invokevirtual 16, 3) := by decide +kernel
theorem dX5_measure_4 : decode cX5_measure 4 = .ok (.aload_n 0, 1) := by decide +kernel
theorem dX5_measure_5 : decode cX5_measure 5 = .ok (.getfield 13, 3) := by decide +kernel
theorem dX5_measure_8 : decode cX5_measure 8 = .ok (.iconst 0, 1) := by decide +kernel
theorem dX5_measure_9 : decode cX5_measure 9 = .ok (.iconst 0, 1) := by decide +kernel
theorem dX5_measure_10 : decode cX5_measure 10 = .ok (.iastore, 1) := by decide +kernel
theorem dX5_measure_11 : decode cX5_measure 11 = .ok (.iconst 0, 1) := by decide +kernel
theorem dX5_measure_12 : decode cX5_measure 12 = .ok (.istore_n 2, 1) := by decide +kernel
theorem dX5_measure_13 : decode cX5_measure 13 = .ok (.iload_n 2, 1) := by decide +kernel
theorem dX5_measure_14 : decode cX5_measure 14 = .ok (.aload_n 1, 1) := by decide +kernel
theorem dX5_measure_15 : decode cX5_measure 15 = .ok (.getfield 22, 3) := by decide +kernel
theorem dX5_measure_18 : decode cX5_measure 18 = .ok (.if_icmp .ge 71, 3) := by decide +kernel
theorem dX5_measure_21 : decode cX5_measure 21 = .ok (.aload_n 0, 1) := by decide +kernel
theorem dX5_measure_22 : decode cX5_measure 22 = .ok (.getfield 13, 3) := by decide +kernel
theorem dX5_measure_25 : decode cX5_measure 25 = .ok (.iload_n 2, 1) := by decide +kernel
theorem dX5_measure_26 : decode cX5_measure 26 = .ok (.iconst 1, 1) := by decide +kernel
theorem dX5_measure_27 : decode cX5_measure 27 = .ok (.iadd, 1) := by decide +kernel
theorem dX5_measure_28 : decode cX5_measure 28 = .ok (.aload_n 0, 1) := by decide +kernel
theorem dX5_measure_29 : decode cX5_measure 29 = .ok (.getfield 13, 3) := by decide +kernel
theorem dX5_measure_32 : decode cX5_measure 32 = .ok (.iload_n 2, 1) := by decide +kernel
theorem dX5_measure_33 : decode cX5_measure 33 = .ok (.iaload, 1) := by decide +kernel
theorem dX5_measure_34 : decode cX5_measure 34 = .ok (.aload_n 1, 1) := by decide +kernel
theorem dX5_measure_35 : decode cX5_measure 35 = .ok (.getfield 26, 3) := by decide +kernel
theorem dX5_measure_38 : decode cX5_measure 38 = .ok (.iload_n 2, 1) := by decide +kernel
theorem dX5_measure_39 : decode cX5_measure 39 = .ok (.iaload, 1) := by decide +kernel
theorem dX5_measure_40 : decode cX5_measure 40 = .ok (.iadd, 1) := by decide +kernel
theorem dX5_measure_41 : decode cX5_measure 41 = .ok (.iastore, 1) := by decide +kernel
theorem dX5_measure_42 : decode cX5_measure 42 = .ok (.aload_n 0, 1) := by decide +kernel
theorem dX5_measure_43 : decode cX5_measure 43 = .ok (.getfield 7, 3) := by decide +kernel
theorem dX5_measure_46 : decode cX5_measure 46 = .ok (.iload_n 2, 1) := by decide +kernel
theorem dX5_measure_47 : decode cX5_measure 47 = .ok (.iload_n 2, 1) := by decide +kernel
theorem dX5_measure_48 : decode cX5_measure 48 = .ok (.invokestatic 29, 3) := by decide +kernel
theorem dX5_measure_51 : decode cX5_measure 51 = .ok (.iload_n 2, 1) := by decide +kernel
theorem dX5_measure_52 : decode cX5_measure 52 = .ok (.iastore, 1) := by decide +kernel
theorem dX5_measure_53 : decode cX5_measure 53 = .ok (.iload_n 2, 1) := by decide +kernel
theorem dX5_measure_54 : decode cX5_measure 54 = .ok (.iconst 1, 1) := by decide +kernel
theorem dX5_measure_55 : decode cX5_measure 55 = .ok (.isub, 1) := by decide +kernel
theorem dX5_measure_56 : decode cX5_measure 56 = .ok (.istore_n 3, 1) := by decide +kernel
theorem dX5_measure_57 : decode cX5_measure 57 = .ok (.iload_n 3, 1) := by decide +kernel
theorem dX5_measure_58 : decode cX5_measure 58 = .ok (.ifCond .lt 25, 3) := by decide +kernel
theorem dX5_measure_61 : decode cX5_measure 61 = .ok (.aload_n 0, 1) := by decide +kernel
theorem dX5_measure_62 : decode cX5_measure 62 = .ok (.getfield 7, 3) := by decide +kernel
theorem dX5_measure_65 : decode cX5_measure 65 = .ok (.iload_n 3, 1) := by decide +kernel
theorem dX5_measure_66 : decode cX5_measure 66 = .ok (.iload_n 2, 1) := by decide +kernel
theorem dX5_measure_67 : decode cX5_measure 67 = .ok (.invokestatic 29, 3) := by decide +kernel
theorem dX5_measure_70 : decode cX5_measure 70 = .ok (.aload_n 0, 1) := by decide +kernel
theorem dX5_measure_71 : decode cX5_measure 71 = .ok (.iload_n 3, 1) := by decide +kernel
theorem dX5_measure_72 : decode cX5_measure 72 = .ok (.iload_n 2, 1) := by decide +kernel
theorem dX5_measure_73 : decode cX5_measure 73 = .ok (.invokevirtual 33, 3) := by decide +kernel
theorem dX5_measure_76 : decode cX5_measure 76 = .ok (.iastore, 1) := by decide +kernel
theorem dX5_measure_77 : decode cX5_measure 77 = .ok (.iinc 3 (-1), 3) := by decide +kernel
theorem dX5_measure_80 : decode cX5_measure 80 = .ok (.goto (-23), 3) := by decide +kernel
theorem dX5_measure_83 : decode cX5_measure 83 = .ok (.iinc 2 1, 3) := by decide +kernel
theorem dX5_measure_86 : decode cX5_measure 86 = .ok (.goto (-73), 3) := by decide +kernel
theorem dX5_measure_89 : decode cX5_measure 89 = .ok (.aload_n 0, 1) := by decide +kernel
theorem dX5_measure_90 : decode cX5_measure 90 = .ok (.aload_n 1, 1) := by decide +kernel
theorem dX5_measure_91 : decode cX5_measure 91 = .ok (.invokevirtual 36, 3) := by decide +kernel
theorem dX5_measure_94 : decode cX5_measure 94 = .ok (.return_, 1) := by decide +kernel
set_option maxRecDepth 20000 in
theorem ggX5_leastOf_X5_lastOnLeft : GoodIn wsX5_leastOf wsX5_lastOnLeft := goodIn_r _ [10, 11, 12, 13, 9, 14, 19, 20, 21, 22, 23] (by decide +kernel) (by decide +kernel)
set_option maxRecDepth 20000 in
theorem gX5_leastOf_X5_lastOnLeft : GoodIn wsX5_leastOf (wsV RX5 40 RX5 yX5_lastOnLeft wsX5_lastOnLeft) := goodIn_app (goodIn_of _ (by decide +kernel)) ggX5_leastOf_X5_lastOnLeft
set_option maxRecDepth 20000 in
theorem ggX5_leastOf_X5_parted : GoodIn wsX5_leastOf wsX5_parted := goodIn_r _ [18, 11, 12, 13, 9, 14, 19, 20, 21, 22, 23] (by decide +kernel) (by decide +kernel)
set_option maxRecDepth 20000 in
theorem gX5_leastOf_X5_parted : GoodIn wsX5_leastOf (wsV RX5 48 RX5 yX5_parted wsX5_parted) := goodIn_app (goodIn_of _ (by decide +kernel)) ggX5_leastOf_X5_parted
theorem dX5_leastOf_0 : decode cX5_leastOf 0 = .ok (.aload_n 0, 1) := by decide +kernel
theorem dX5_leastOf_1 : decode cX5_leastOf 1 = .ok (.iload_n 1, 1) := by decide +kernel
theorem dX5_leastOf_2 : decode cX5_leastOf 2 = .ok (.iload_n 2, 1) := by decide +kernel
theorem dX5_leastOf_3 : decode cX5_leastOf 3 = .ok (.iconst 1, 1) := by decide +kernel
theorem dX5_leastOf_4 : decode cX5_leastOf 4 = .ok (.isub, 1) := by decide +kernel
theorem dX5_leastOf_5 : decode cX5_leastOf 5 = .ok (.invokevirtual 40, 3) := by decide +kernel
theorem dX5_leastOf_8 : decode cX5_leastOf 8 = .ok (.istore_n 3, 1) := by decide +kernel
theorem dX5_leastOf_9 : decode cX5_leastOf 9 = .ok (.aload_n 0, 1) := by decide +kernel
theorem dX5_leastOf_10 : decode cX5_leastOf 10 = .ok (.iload_n 1, 1) := by decide +kernel
theorem dX5_leastOf_11 : decode cX5_leastOf 11 = .ok (.iconst 1, 1) := by decide +kernel
theorem dX5_leastOf_12 : decode cX5_leastOf 12 = .ok (.iadd, 1) := by decide +kernel
theorem dX5_leastOf_13 : decode cX5_leastOf 13 = .ok (.iload_n 2, 1) := by decide +kernel
theorem dX5_leastOf_14 : decode cX5_leastOf 14 = .ok (.invokevirtual 40, 3) := by decide +kernel
theorem dX5_leastOf_17 : decode cX5_leastOf 17 = .ok (.iload_n 2, 1) := by decide +kernel
theorem dX5_leastOf_18 : decode cX5_leastOf 18 = .ok (.iconst 1, 1) := by decide +kernel
theorem dX5_leastOf_19 : decode cX5_leastOf 19 = .ok (.isub, 1) := by decide +kernel
theorem dX5_leastOf_20 : decode cX5_leastOf 20 = .ok (.invokestatic 43, 3) := by decide +kernel
theorem dX5_leastOf_23 : decode cX5_leastOf 23 = .ok (.istore 4, 2) := by decide +kernel
theorem dX5_leastOf_25 : decode cX5_leastOf 25 = .ok (.aload_n 0, 1) := by decide +kernel
theorem dX5_leastOf_26 : decode cX5_leastOf 26 = .ok (.iload_n 1, 1) := by decide +kernel
theorem dX5_leastOf_27 : decode cX5_leastOf 27 = .ok (.iload_n 3, 1) := by decide +kernel
theorem dX5_leastOf_28 : decode cX5_leastOf 28 = .ok (.iload_n 2, 1) := by decide +kernel
theorem dX5_leastOf_29 : decode cX5_leastOf 29 = .ok (.invokevirtual 48, 3) := by decide +kernel
theorem dX5_leastOf_32 : decode cX5_leastOf 32 = .ok (.istore 5, 2) := by decide +kernel
theorem dX5_leastOf_34 : decode cX5_leastOf 34 = .ok (.iload_n 3, 1) := by decide +kernel
theorem dX5_leastOf_35 : decode cX5_leastOf 35 = .ok (.iconst 1, 1) := by decide +kernel
theorem dX5_leastOf_36 : decode cX5_leastOf 36 = .ok (.iadd, 1) := by decide +kernel
theorem dX5_leastOf_37 : decode cX5_leastOf 37 = .ok (.istore 6, 2) := by decide +kernel
theorem dX5_leastOf_39 : decode cX5_leastOf 39 = .ok (.iload 6, 2) := by decide +kernel
theorem dX5_leastOf_41 : decode cX5_leastOf 41 = .ok (.iload 4, 2) := by decide +kernel
theorem dX5_leastOf_43 : decode cX5_leastOf 43 = .ok (.if_icmp .gt 24, 3) := by decide +kernel
theorem dX5_leastOf_46 : decode cX5_leastOf 46 = .ok (.iload 5, 2) := by decide +kernel
theorem dX5_leastOf_48 : decode cX5_leastOf 48 = .ok (.aload_n 0, 1) := by decide +kernel
theorem dX5_leastOf_49 : decode cX5_leastOf 49 = .ok (.iload_n 1, 1) := by decide +kernel
theorem dX5_leastOf_50 : decode cX5_leastOf 50 = .ok (.iload 6, 2) := by decide +kernel
theorem dX5_leastOf_52 : decode cX5_leastOf 52 = .ok (.iload_n 2, 1) := by decide +kernel
theorem dX5_leastOf_53 : decode cX5_leastOf 53 = .ok (.invokevirtual 48, 3) := by decide +kernel
theorem dX5_leastOf_56 : decode cX5_leastOf 56 = .ok (.invokestatic 43, 3) := by decide +kernel
theorem dX5_leastOf_59 : decode cX5_leastOf 59 = .ok (.istore 5, 2) := by decide +kernel
theorem dX5_leastOf_61 : decode cX5_leastOf 61 = .ok (.iinc 6 1, 3) := by decide +kernel
theorem dX5_leastOf_64 : decode cX5_leastOf 64 = .ok (.goto (-25), 3) := by decide +kernel
theorem dX5_leastOf_67 : decode cX5_leastOf 67 = .ok (.iload 5, 2) := by decide +kernel
theorem dX5_leastOf_69 : decode cX5_leastOf 69 = .ok (.aload_n 0, 1) := by decide +kernel
theorem dX5_leastOf_70 : decode cX5_leastOf 70 = .ok (.getfield 13, 3) := by decide +kernel
theorem dX5_leastOf_73 : decode cX5_leastOf 73 = .ok (.iload_n 2, 1) := by decide +kernel
theorem dX5_leastOf_74 : decode cX5_leastOf 74 = .ok (.iconst 1, 1) := by decide +kernel
theorem dX5_leastOf_75 : decode cX5_leastOf 75 = .ok (.iadd, 1) := by decide +kernel
theorem dX5_leastOf_76 : decode cX5_leastOf 76 = .ok (.iaload, 1) := by decide +kernel
theorem dX5_leastOf_77 : decode cX5_leastOf 77 = .ok (.aload_n 0, 1) := by decide +kernel
theorem dX5_leastOf_78 : decode cX5_leastOf 78 = .ok (.getfield 13, 3) := by decide +kernel
theorem dX5_leastOf_81 : decode cX5_leastOf 81 = .ok (.iload_n 1, 1) := by decide +kernel
theorem dX5_leastOf_82 : decode cX5_leastOf 82 = .ok (.iaload, 1) := by decide +kernel
theorem dX5_leastOf_83 : decode cX5_leastOf 83 = .ok (.isub, 1) := by decide +kernel
theorem dX5_leastOf_84 : decode cX5_leastOf 84 = .ok (.bipush 7, 2) := by decide +kernel
theorem dX5_leastOf_86 : decode cX5_leastOf 86 = .ok (.ishl, 1) := by decide +kernel
theorem dX5_leastOf_87 : decode cX5_leastOf 87 = .ok (.iadd, 1) := by decide +kernel
theorem dX5_leastOf_88 : decode cX5_leastOf 88 = .ok (.ireturn, 1) := by decide +kernel
set_option maxRecDepth 20000 in
theorem ggX5_parted_X5_spot : GoodIn wsX5_parted wsX5_spot := goodIn_r _ [5] (by decide +kernel) (by decide +kernel)
set_option maxRecDepth 20000 in
theorem gX5_parted_X5_spot : GoodIn wsX5_parted (va_wsS RX5 29 yX5_spot wsX5_spot) := goodIn_app (goodIn_of _ (by decide +kernel)) ggX5_parted_X5_spot
theorem dX5_parted_0 : decode cX5_parted 0 = .ok (.aload_n 0, 1) := by decide +kernel
theorem dX5_parted_1 : decode cX5_parted 1 = .ok (.getfield 7, 3) := by decide +kernel
theorem dX5_parted_4 : decode cX5_parted 4 = .ok (.iload_n 1, 1) := by decide +kernel
theorem dX5_parted_5 : decode cX5_parted 5 = .ok (.iload_n 2, 1) := by decide +kernel
theorem dX5_parted_6 : decode cX5_parted 6 = .ok (.invokestatic 29, 3) := by decide +kernel
theorem dX5_parted_9 : decode cX5_parted 9 = .ok (.iaload, 1) := by decide +kernel
theorem dX5_parted_10 : decode cX5_parted 10 = .ok (.bipush 7, 2) := by decide +kernel
theorem dX5_parted_12 : decode cX5_parted 12 = .ok (.ishr, 1) := by decide +kernel
theorem dX5_parted_13 : decode cX5_parted 13 = .ok (.aload_n 0, 1) := by decide +kernel
theorem dX5_parted_14 : decode cX5_parted 14 = .ok (.getfield 7, 3) := by decide +kernel
theorem dX5_parted_17 : decode cX5_parted 17 = .ok (.iload_n 2, 1) := by decide +kernel
theorem dX5_parted_18 : decode cX5_parted 18 = .ok (.iconst 1, 1) := by decide +kernel
theorem dX5_parted_19 : decode cX5_parted 19 = .ok (.iadd, 1) := by decide +kernel
theorem dX5_parted_20 : decode cX5_parted 20 = .ok (.iload_n 3, 1) := by decide +kernel
theorem dX5_parted_21 : decode cX5_parted 21 = .ok (.invokestatic 29, 3) := by decide +kernel
theorem dX5_parted_24 : decode cX5_parted 24 = .ok (.iaload, 1) := by decide +kernel
theorem dX5_parted_25 : decode cX5_parted 25 = .ok (.bipush 7, 2) := by decide +kernel
theorem dX5_parted_27 : decode cX5_parted 27 = .ok (.ishr, 1) := by decide +kernel
theorem dX5_parted_28 : decode cX5_parted 28 = .ok (.iadd, 1) := by decide +kernel
theorem dX5_parted_29 : decode cX5_parted 29 = .ok (.istore 4, 2) := by decide +kernel
theorem dX5_parted_31 : decode cX5_parted 31 = .ok (.iload 4, 2) := by decide +kernel
theorem dX5_parted_33 : decode cX5_parted 33 = .ok (.bipush 7, 2) := by decide +kernel
theorem dX5_parted_35 : decode cX5_parted 35 = .ok (.ishl, 1) := by decide +kernel
theorem dX5_parted_36 : decode cX5_parted 36 = .ok (.iload_n 2, 1) := by decide +kernel
theorem dX5_parted_37 : decode cX5_parted 37 = .ok (.iadd, 1) := by decide +kernel
theorem dX5_parted_38 : decode cX5_parted 38 = .ok (.ireturn, 1) := by decide +kernel
set_option maxRecDepth 20000 in
theorem ggX5_lastOnLeft_X5_spot : GoodIn wsX5_lastOnLeft wsX5_spot := goodIn_r _ [5] (by decide +kernel) (by decide +kernel)
set_option maxRecDepth 20000 in
theorem gX5_lastOnLeft_X5_spot : GoodIn wsX5_lastOnLeft (va_wsS RX5 29 yX5_spot wsX5_spot) := goodIn_app (goodIn_of _ (by decide +kernel)) ggX5_lastOnLeft_X5_spot
theorem dX5_lastOnLeft_0 : decode cX5_lastOnLeft 0 = .ok (.aload_n 0, 1) := by decide +kernel
theorem dX5_lastOnLeft_1 : decode cX5_lastOnLeft 1 = .ok (.getfield 7, 3) := by decide +kernel
theorem dX5_lastOnLeft_4 : decode cX5_lastOnLeft 4 = .ok (.iload_n 1, 1) := by decide +kernel
theorem dX5_lastOnLeft_5 : decode cX5_lastOnLeft 5 = .ok (.iload_n 2, 1) := by decide +kernel
theorem dX5_lastOnLeft_6 : decode cX5_lastOnLeft 6 = .ok (.invokestatic 29, 3) := by decide +kernel
theorem dX5_lastOnLeft_9 : decode cX5_lastOnLeft 9 = .ok (.iaload, 1) := by decide +kernel
theorem dX5_lastOnLeft_10 : decode cX5_lastOnLeft 10 = .ok (.bipush 127, 2) := by decide +kernel
theorem dX5_lastOnLeft_12 : decode cX5_lastOnLeft 12 = .ok (.iand, 1) := by decide +kernel
theorem dX5_lastOnLeft_13 : decode cX5_lastOnLeft 13 = .ok (.ireturn, 1) := by decide +kernel
theorem dX5_spot_0 : decode cX5_spot 0 = .ok (.iload_n 1, 1) := by decide +kernel
theorem dX5_spot_1 : decode cX5_spot 1 = .ok (.iload_n 1, 1) := by decide +kernel
theorem dX5_spot_2 : decode cX5_spot 2 = .ok (.iconst 1, 1) := by decide +kernel
theorem dX5_spot_3 : decode cX5_spot 3 = .ok (.iadd, 1) := by decide +kernel
theorem dX5_spot_4 : decode cX5_spot 4 = .ok (.imul, 1) := by decide +kernel
theorem dX5_spot_5 : decode cX5_spot 5 = .ok (.iconst 2, 1) := by decide +kernel
theorem dX5_spot_6 : decode cX5_spot 6 = .ok (.idiv, 1) := by decide +kernel
theorem dX5_spot_7 : decode cX5_spot 7 = .ok (.iload_n 0, 1) := by decide +kernel
theorem dX5_spot_8 : decode cX5_spot 8 = .ok (.iadd, 1) := by decide +kernel
theorem dX5_spot_9 : decode cX5_spot 9 = .ok (.ireturn, 1) := by decide +kernel
set_option maxRecDepth 20000 in
theorem ggX5_middle_X5_lastOnLeft : GoodIn wsX5_middle wsX5_lastOnLeft := goodIn_r _ [5, 6, 7, 8, 4, 9, 10, 11, 12, 13, 14] (by decide +kernel) (by decide +kernel)
set_option maxRecDepth 20000 in
theorem gX5_middle_X5_lastOnLeft : GoodIn wsX5_middle (wsV RX5 40 RX5 yX5_lastOnLeft wsX5_lastOnLeft) := goodIn_app (goodIn_of _ (by decide +kernel)) ggX5_middle_X5_lastOnLeft
theorem dX5_middle_0 : decode cX5_middle 0 = .ok (.aload_n 0, 1) := by decide +kernel
theorem dX5_middle_1 : decode cX5_middle 1 = .ok (.iload_n 2, 1) := by decide +kernel
theorem dX5_middle_2 : decode cX5_middle 2 = .ok (.iload_n 3, 1) := by decide +kernel
theorem dX5_middle_3 : decode cX5_middle 3 = .ok (.iconst 1, 1) := by decide +kernel
theorem dX5_middle_4 : decode cX5_middle 4 = .ok (.isub, 1) := by decide +kernel
theorem dX5_middle_5 : decode cX5_middle 5 = .ok (.invokevirtual 40, 3) := by decide +kernel
theorem dX5_middle_8 : decode cX5_middle 8 = .ok (.iconst 1, 1) := by decide +kernel
theorem dX5_middle_9 : decode cX5_middle 9 = .ok (.iadd, 1) := by decide +kernel
theorem dX5_middle_10 : decode cX5_middle 10 = .ok (.ireturn, 1) := by decide +kernel
set_option maxRecDepth 20000 in
theorem ggX6_init_X0_init : GoodIn wsX6_init wsX0_init := goodIn_r _ [15, 16, 2, 3, 17, 6, 18, 24, 25, 26, 27] (by decide +kernel) (by decide +kernel)
set_option maxRecDepth 20000 in
theorem gX6_init_X0_init : GoodIn wsX6_init (wsX0_init) := ggX6_init_X0_init
theorem dX6_init_0 : decode cX6_init 0 = .ok (.aload_n 0, 1) := by decide +kernel
theorem dX6_init_1 : decode cX6_init 1 = .ok (.invokespecial 1, 3) := by decide +kernel
theorem dX6_init_4 : decode cX6_init 4 = .ok (.aload_n 0, 1) := by decide +kernel
theorem dX6_init_5 : decode cX6_init 5 = .ok (.iload_n 2, 1) := by decide +kernel
theorem dX6_init_6 : decode cX6_init 6 = .ok (.putfield 7, 3) := by decide +kernel
theorem dX6_init_9 : decode cX6_init 9 = .ok (.aload_n 0, 1) := by decide +kernel
theorem dX6_init_10 : decode cX6_init 10 = .ok (.iconst 2, 1) := by decide +kernel
theorem dX6_init_11 : decode cX6_init 11 = .ok (.iload_n 1, 1) := by decide +kernel
theorem dX6_init_12 : decode cX6_init 12 = .ok (.imul, 1) := by decide +kernel
theorem dX6_init_13 : decode cX6_init 13 = .ok (.putfield 13, 3) := by decide +kernel
theorem dX6_init_16 : decode cX6_init 16 = .ok (.aload_n 0, 1) := by decide +kernel
theorem dX6_init_17 : decode cX6_init 17 = .ok (.aload_n 0, 1) := by decide +kernel
theorem dX6_init_18 : decode cX6_init 18 = .ok (.getfield 13, 3) := by decide +kernel
theorem dX6_init_21 : decode cX6_init 21 = .ok (.newarray .int, 2) := by decide +kernel
theorem dX6_init_23 : decode cX6_init 23 = .ok (.putfield 16, 3) := by decide +kernel
theorem dX6_init_26 : decode cX6_init 26 = .ok (.aload_n 0, 1) := by decide +kernel
theorem dX6_init_27 : decode cX6_init 27 = .ok (.aload_n 0, 1) := by decide +kernel
theorem dX6_init_28 : decode cX6_init 28 = .ok (.getfield 13, 3) := by decide +kernel
theorem dX6_init_31 : decode cX6_init 31 = .ok (.newarray .int, 2) := by decide +kernel
theorem dX6_init_33 : decode cX6_init 33 = .ok (.putfield 20, 3) := by decide +kernel
theorem dX6_init_36 : decode cX6_init 36 = .ok (.aload_n 0, 1) := by decide +kernel
theorem dX6_init_37 : decode cX6_init 37 = .ok (.new 23, 3) := by decide +kernel
theorem dX6_init_40 : decode cX6_init 40 = .ok (.dup, 1) := by decide +kernel
theorem dX6_init_41 : decode cX6_init 41 = .ok (.aload_n 0, 1) := by decide +kernel
theorem dX6_init_42 : decode cX6_init 42 = .ok (.getfield 7, 3) := by decide +kernel
theorem dX6_init_45 : decode cX6_init 45 = .ok (.aload_n 0, 1) := by decide +kernel
theorem dX6_init_46 : decode cX6_init 46 = .ok (.getfield 13, 3) := by decide +kernel
theorem dX6_init_49 : decode cX6_init 49 = .ok (.imul, 1) := by decide +kernel
theorem dX6_init_50 : decode cX6_init 50 = .ok (.invokespecial 25, 3) := by decide +kernel
theorem dX6_init_53 : decode cX6_init 53 = .ok (.putfield 28, 3) := by decide +kernel
theorem dX6_init_56 : decode cX6_init 56 = .ok (.return_, 1) := by decide +kernel
set_option maxRecDepth 20000 in
theorem ggX6_measure_X3_lineUpRising : GoodIn wsX6_measure wsX3_lineUpRising := goodIn_r _ [7, 8, 9, 10, 6, 11, 12, 13, 14, 65, 66, 67, 68, 69] (by decide +kernel) (by decide +kernel)
set_option maxRecDepth 20000 in
theorem gX6_measure_X3_lineUpRising : GoodIn wsX6_measure (wsV RX6 32 RX3 yX3_lineUpRising wsX3_lineUpRising) := goodIn_app (goodIn_of _ (by decide +kernel)) ggX6_measure_X3_lineUpRising
set_option maxRecDepth 20000 in
theorem ggX6_measure_X0_restart : GoodIn wsX6_measure wsX0_restart := goodIn_r _ [19, 20, 21, 70, 71, 72, 73] (by decide +kernel) (by decide +kernel)
set_option maxRecDepth 20000 in
theorem gX6_measure_X0_restart : GoodIn wsX6_measure (wsV RX6 37 RX0 yX0_restart wsX0_restart) := goodIn_app (goodIn_of _ (by decide +kernel)) ggX6_measure_X0_restart
set_option maxRecDepth 20000 in
theorem ggX6_measure_X6_fillList : GoodIn wsX6_measure wsX6_fillList := goodIn_r _ [26, 27, 28, 29, 1, 30, 31, 32, 25, 33, 34, 35, 36, 18, 37, 20, 38, 21, 39, 40, 41, 42, 43, 60, 61, 62, 63, 64, 65, 66, 67, 68, 69, 70, 71, 72, 73] (by decide +kernel) (by decide +kernel)
set_option maxRecDepth 20000 in
theorem gX6_measure_X6_fillList : GoodIn wsX6_measure (wsV RX6 40 RX6 yX6_fillList wsX6_fillList) := goodIn_app (goodIn_of _ (by decide +kernel)) ggX6_measure_X6_fillList
set_option maxRecDepth 20000 in
theorem ggX6_measure_X6_countLengths : GoodIn wsX6_measure wsX6_countLengths := goodIn_r _ [47, 2, 48, 49, 50, 51, 52, 53, 54, 25, 55, 1, 29, 56, 57, 58, 18, 59, 20, 43, 65, 66, 67, 68, 69, 60, 61, 62, 63, 64, 70, 71, 72, 73] (by decide +kernel) (by decide +kernel)
set_option maxRecDepth 20000 in
theorem gX6_measure_X6_countLengths : GoodIn wsX6_measure (wsV RX6 44 RX6 yX6_countLengths wsX6_countLengths) := goodIn_app (goodIn_of _ (by decide +kernel)) ggX6_measure_X6_countLengths
theorem dX6_measure_0 : decode cX6_measure 0 = .ok (.aload_n 1, 1) := by decide +kernel
theorem dX6_measure_1 : decode cX6_measure 1 = .ok (.invokevirtual 32, 3) := by decide +kernel
theorem dX6_measure_4 : decode cX6_measure 4 = .ok (.aload_n 0, 1) := by decide +kernel
theorem dX6_measure_5 : decode cX6_measure 5 = .ok (.getfield 28, 3) := by decide +kernel
theorem dX6_measure_8 : decode cX6_measure 8 = .ok (.invokevirtual 37, 3) := by decide +kernel
theorem dX6_measure_11 : decode cX6_measure 11 = .ok (.iconst 0, 1) := by decide +kernel
theorem dX6_measure_12 : decode cX6_measure 12 = .ok (.istore_n 2, 1) := by decide +kernel
theorem dX6_measure_13 : decode cX6_measure 13 = .ok (.iconst 0, 1) := by decide +kernel
theorem dX6_measure_14 : decode cX6_measure 14 = .ok (.istore_n 3, 1) := by decide +kernel
theorem dX6_measure_15 : decode cX6_measure 15 = .ok (.iload_n 3, 1) := by decide +kernel
theorem dX6_measure_16 : decode cX6_measure 16 = .ok (.aload_n 0, 1) := by decide +kernel
theorem dX6_measure_17 : decode cX6_measure 17 = .ok (.getfield 7, 3) := by decide +kernel
theorem dX6_measure_20 : decode cX6_measure 20 = .ok (.if_icmp .ge 18, 3) := by decide +kernel
theorem dX6_measure_23 : decode cX6_measure 23 = .ok (.aload_n 0, 1) := by decide +kernel
theorem dX6_measure_24 : decode cX6_measure 24 = .ok (.aload_n 1, 1) := by decide +kernel
theorem dX6_measure_25 : decode cX6_measure 25 = .ok (.iload_n 2, 1) := by decide +kernel
theorem dX6_measure_26 : decode cX6_measure 26 = .ok (.iconst 2, 1) := by decide +kernel
theorem dX6_measure_27 : decode cX6_measure 27 = .ok (.idiv, 1) := by decide +kernel
theorem dX6_measure_28 : decode cX6_measure 28 = .ok (.invokevirtual 40, 3) := by decide +kernel
theorem dX6_measure_31 : decode cX6_measure 31 = .ok (.istore_n 2, 1) := by decide +kernel
theorem dX6_measure_32 : decode cX6_measure 32 = .ok (.iinc 3 1, 3) := by decide +kernel
theorem dX6_measure_35 : decode cX6_measure 35 = .ok (.goto (-20), 3) := by decide +kernel
theorem dX6_measure_38 : decode cX6_measure 38 = .ok (.aload_n 0, 1) := by decide +kernel
theorem dX6_measure_39 : decode cX6_measure 39 = .ok (.aload_n 1, 1) := by decide +kernel
theorem dX6_measure_40 : decode cX6_measure 40 = .ok (.invokevirtual 44, 3) := by decide +kernel
theorem dX6_measure_43 : decode cX6_measure 43 = .ok (.return_, 1) := by decide +kernel
set_option maxRecDepth 20000 in
theorem ggX6_fillList_X6_packageWeight : GoodIn wsX6_fillList wsX6_packageWeight := goodIn_r _ [9, 2, 23, 24, 25, 26, 27] (by decide +kernel) (by decide +kernel)
set_option maxRecDepth 20000 in
theorem gX6_fillList_X6_packageWeight : GoodIn wsX6_fillList (wsV RX6 51 RX6 yX6_packageWeight wsX6_packageWeight) := goodIn_app (goodIn_of _ (by decide +kernel)) ggX6_fillList_X6_packageWeight
set_option maxRecDepth 20000 in
theorem ggX6_fillList_X0_add : GoodIn wsX6_fillList wsX0_add := goodIn_r _ [14, 15, 16, 17, 18, 19, 20, 13, 21, 22, 33, 34, 35, 36] (by decide +kernel) (by decide +kernel)
set_option maxRecDepth 20000 in
theorem gX6_fillList_X0_add : GoodIn wsX6_fillList (wsV RX6 61 RX0 yX0_add wsX0_add) := goodIn_app (goodIn_of _ (by decide +kernel)) ggX6_fillList_X0_add
theorem dX6_fillList_0 : decode cX6_fillList 0 = .ok (.aload_n 0, 1) := by decide +kernel
theorem dX6_fillList_1 : decode cX6_fillList 1 = .ok (.getfield 16, 3) := by decide +kernel
theorem dX6_fillList_4 : decode cX6_fillList 4 = .ok (.astore_n 3, 1) := by decide +kernel
theorem dX6_fillList_5 : decode cX6_fillList 5 = .ok (.aload_n 0, 1) := by decide +kernel
theorem dX6_fillList_6 : decode cX6_fillList 6 = .ok (.aload_n 0, 1) := by decide +kernel
theorem dX6_fillList_7 : decode cX6_fillList 7 = .ok (.getfield 20, 3) := by decide +kernel
theorem dX6_fillList_10 : decode cX6_fillList 10 = .ok (.putfield 16, 3) := by decide +kernel
theorem dX6_fillList_13 : decode cX6_fillList 13 = .ok (.aload_n 0, 1) := by decide +kernel
theorem dX6_fillList_14 : decode cX6_fillList 14 = .ok (.aload_n 3, 1) := by decide +kernel
theorem dX6_fillList_15 : decode cX6_fillList 15 = .ok (.putfield 20, 3) := by decide +kernel
theorem dX6_fillList_18 : decode cX6_fillList 18 = .ok (.aload_n 1, 1) := by decide +kernel
theorem dX6_fillList_19 : decode cX6_fillList 19 = .ok (.getfield 48, 3) := by decide +kernel
theorem dX6_fillList_22 : decode cX6_fillList 22 = .ok (.iload_n 2, 1) := by decide +kernel
theorem dX6_fillList_23 : decode cX6_fillList 23 = .ok (.iadd, 1) := by decide +kernel
theorem dX6_fillList_24 : decode cX6_fillList 24 = .ok (.istore 4, 2) := by decide +kernel
theorem dX6_fillList_26 : decode cX6_fillList 26 = .ok (.iconst 0, 1) := by decide +kernel
theorem dX6_fillList_27 : decode cX6_fillList 27 = .ok (.istore 5, 2) := by decide +kernel
theorem dX6_fillList_29 : decode cX6_fillList 29 = .ok (.iconst 0, 1) := by decide +kernel
theorem dX6_fillList_30 : decode cX6_fillList 30 = .ok (.istore 6, 2) := by decide +kernel
theorem dX6_fillList_32 : decode cX6_fillList 32 = .ok (.iconst 0, 1) := by decide +kernel
theorem dX6_fillList_33 : decode cX6_fillList 33 = .ok (.istore 7, 2) := by decide +kernel
theorem dX6_fillList_35 : decode cX6_fillList 35 = .ok (.iload 7, 2) := by decide +kernel
theorem dX6_fillList_37 : decode cX6_fillList 37 = .ok (.aload_n 0, 1) := by decide +kernel
theorem dX6_fillList_38 : decode cX6_fillList 38 = .ok (.getfield 13, 3) := by decide +kernel
theorem dX6_fillList_41 : decode cX6_fillList 41 = .ok (.if_icmp .ge 131, 3) := by decide +kernel
theorem dX6_fillList_44 : decode cX6_fillList 44 = .ok (.iload 7, 2) := by decide +kernel
theorem dX6_fillList_46 : decode cX6_fillList 46 = .ok (.iload 4, 2) := by decide +kernel
theorem dX6_fillList_48 : decode cX6_fillList 48 = .ok (.if_icmp .ge 43, 3) := by decide +kernel
theorem dX6_fillList_51 : decode cX6_fillList 51 = .ok (.iload 6, 2) := by decide +kernel
theorem dX6_fillList_53 : decode cX6_fillList 53 = .ok (.iload_n 2, 1) := by decide +kernel
theorem dX6_fillList_54 : decode cX6_fillList 54 = .ok (.if_icmp .ge 37, 3) := by decide +kernel
theorem dX6_fillList_57 : decode cX6_fillList 57 = .ok (.iload 5, 2) := by decide +kernel
theorem dX6_fillList_59 : decode cX6_fillList 59 = .ok (.aload_n 1, 1) := by decide +kernel
theorem dX6_fillList_60 : decode cX6_fillList 60 = .ok (.getfield 48, 3) := by decide +kernel
theorem dX6_fillList_63 : decode cX6_fillList 63 = .ok (.if_icmp .ge 24, 3) := by decide +kernel
theorem dX6_fillList_66 : decode cX6_fillList 66 = .ok (.aload_n 0, 1) := by decide +kernel
theorem dX6_fillList_67 : decode cX6_fillList 67 = .ok (.iload 6, 2) := by decide +kernel
theorem dX6_fillList_69 : decode cX6_fillList 69 = .ok (.invokevirtual 51, 3) := by decide +kernel
theorem dX6_fillList_72 : decode cX6_fillList 72 = .ok (.aload_n 1, 1) := by decide +kernel
theorem dX6_fillList_73 : decode cX6_fillList 73 = .ok (.getfield 55, 3) := by decide +kernel
theorem dX6_fillList_76 : decode cX6_fillList 76 = .ok (.aload_n 1, 1) := by decide +kernel
theorem dX6_fillList_77 : decode cX6_fillList 77 = .ok (.getfield 58, 3) := by decide +kernel
theorem dX6_fillList_80 : decode cX6_fillList 80 = .ok (.iload 5, 2) := by decide +kernel
theorem dX6_fillList_82 : decode cX6_fillList 82 = .ok (.iaload, 1) := by decide +kernel
theorem dX6_fillList_83 : decode cX6_fillList 83 = .ok (.iaload, 1) := by decide +kernel
theorem dX6_fillList_84 : decode cX6_fillList 84 = .ok (.if_icmp .ge 7, 3) := by decide +kernel
theorem dX6_fillList_87 : decode cX6_fillList 87 = .ok (.iconst 1, 1) := by decide +kernel
theorem dX6_fillList_88 : decode cX6_fillList 88 = .ok (.goto 4, 3) := by decide +kernel
theorem dX6_fillList_91 : decode cX6_fillList 91 = .ok (.iconst 0, 1) := by decide +kernel
theorem dX6_fillList_92 : decode cX6_fillList 92 = .ok (.istore 8, 2) := by decide +kernel
theorem dX6_fillList_94 : decode cX6_fillList 94 = .ok (.iload 8, 2) := by decide +kernel
theorem dX6_fillList_96 : decode cX6_fillList 96 = .ok (.ifCond .eq 22, 3) := by decide +kernel
theorem dX6_fillList_99 : decode cX6_fillList 99 = .ok (.aload_n 0, 1) := by decide +kernel
theorem dX6_fillList_100 : decode cX6_fillList 100 = .ok (.getfield 16, 3) := by decide +kernel
theorem dX6_fillList_103 : decode cX6_fillList 103 = .ok (.iload 7, 2) := by decide +kernel
theorem dX6_fillList_105 : decode cX6_fillList 105 = .ok (.aload_n 0, 1) := by decide +kernel
theorem dX6_fillList_106 : decode cX6_fillList 106 = .ok (.iload 6, 2) := by decide +kernel
theorem dX6_fillList_108 : decode cX6_fillList 108 = .ok (.invokevirtual 51, 3) := by decide +kernel
theorem dX6_fillList_111 : decode cX6_fillList 111 = .ok (.iastore, 1) := by decide +kernel
theorem dX6_fillList_112 : decode cX6_fillList 112 = .ok (.iinc 6 1, 3) := by decide +kernel
theorem dX6_fillList_115 : decode cX6_fillList 115 = .ok (.goto 34, 3) := by decide +kernel
theorem dX6_fillList_118 : decode cX6_fillList 118 = .ok (.iload 5, 2) := by decide +kernel
theorem dX6_fillList_120 : decode cX6_fillList 120 = .ok (.aload_n 1, 1) := by decide +kernel
theorem dX6_fillList_121 : decode cX6_fillList 121 = .ok (.getfield 48, 3) := by decide +kernel
theorem dX6_fillList_124 : decode cX6_fillList 124 = .ok (.if_icmp .ge 25, 3) := by decide +kernel
theorem dX6_fillList_127 : decode cX6_fillList 127 = .ok (.aload_n 0, 1) := by decide +kernel
theorem dX6_fillList_128 : decode cX6_fillList 128 = .ok (.getfield 16, 3) := by decide +kernel
theorem dX6_fillList_131 : decode cX6_fillList 131 = .ok (.iload 7, 2) := by decide +kernel
theorem dX6_fillList_133 : decode cX6_fillList 133 = .ok (.aload_n 1, 1) := by decide +kernel
theorem dX6_fillList_134 : decode cX6_fillList 134 = .ok (.getfield 55, 3) := by decide +kernel
theorem dX6_fillList_137 : decode cX6_fillList 137 = .ok (.aload_n 1, 1) := by decide +kernel
theorem dX6_fillList_138 : decode cX6_fillList 138 = .ok (.getfield 58, 3) := by decide +kernel
theorem dX6_fillList_141 : decode cX6_fillList 141 = .ok (.iload 5, 2) := by decide +kernel
theorem dX6_fillList_143 : decode cX6_fillList 143 = .ok (.iaload, 1) := by decide +kernel
theorem dX6_fillList_144 : decode cX6_fillList 144 = .ok (.iaload, 1) := by decide +kernel
theorem dX6_fillList_145 : decode cX6_fillList 145 = .ok (.iastore, 1) := by decide +kernel
theorem dX6_fillList_146 : decode cX6_fillList 146 = .ok (.iinc 5 1, 3) := by decide +kernel
theorem dX6_fillList_149 : decode cX6_fillList 149 = .ok (.aload_n 0, 1) := by decide +kernel
theorem dX6_fillList_150 : decode cX6_fillList 150 = .ok (.getfield 28, 3) := by decide +kernel
theorem dX6_fillList_153 : decode cX6_fillList 153 = .ok (.iload 8, 2) := by decide +kernel
theorem dX6_fillList_155 : decode cX6_fillList 155 = .ok (.ifCond .eq 7, 3) := by decide +kernel
theorem dX6_fillList_158 : decode cX6_fillList 158 = .ok (.iconst 1, 1) := by decide +kernel
theorem dX6_fillList_159 : decode cX6_fillList 159 = .ok (.goto 4, 3) := by decide +kernel
theorem dX6_fillList_162 : decode cX6_fillList 162 = .ok (.iconst 0, 1) := by decide +kernel
theorem dX6_fillList_163 : decode cX6_fillList 163 = .ok (.invokevirtual 61, 3) := by decide +kernel
theorem dX6_fillList_166 : decode cX6_fillList 166 = .ok (.iinc 7 1, 3) := by decide +kernel
theorem dX6_fillList_169 : decode cX6_fillList 169 = .ok (.goto (-134), 3) := by decide +kernel
theorem dX6_fillList_172 : decode cX6_fillList 172 = .ok (.iload 4, 2) := by decide +kernel
theorem dX6_fillList_174 : decode cX6_fillList 174 = .ok (.ireturn, 1) := by decide +kernel
theorem dX6_packageWeight_0 : decode cX6_packageWeight 0 = .ok (.aload_n 0, 1) := by decide +kernel
theorem dX6_packageWeight_1 : decode cX6_packageWeight 1 = .ok (.getfield 20, 3) := by decide +kernel
theorem dX6_packageWeight_4 : decode cX6_packageWeight 4 = .ok (.iconst 2, 1) := by decide +kernel
theorem dX6_packageWeight_5 : decode cX6_packageWeight 5 = .ok (.iload_n 1, 1) := by decide +kernel
theorem dX6_packageWeight_6 : decode cX6_packageWeight 6 = .ok (.imul, 1) := by decide +kernel
theorem dX6_packageWeight_7 : decode cX6_packageWeight 7 = .ok (.iaload, 1) := by decide +kernel
theorem dX6_packageWeight_8 : decode cX6_packageWeight 8 = .ok (.aload_n 0, 1) := by decide +kernel
theorem dX6_packageWeight_9 : decode cX6_packageWeight 9 = .ok (.getfield 20, 3) := by decide +kernel
theorem dX6_packageWeight_12 : decode cX6_packageWeight 12 = .ok (.iconst 2, 1) := by decide +kernel
theorem dX6_packageWeight_13 : decode cX6_packageWeight 13 = .ok (.iload_n 1, 1) := by decide +kernel
theorem dX6_packageWeight_14 : decode cX6_packageWeight 14 = .ok (.imul, 1) := by decide +kernel
theorem dX6_packageWeight_15 : decode cX6_packageWeight 15 = .ok (.iconst 1, 1) := by decide +kernel
theorem dX6_packageWeight_16 : decode cX6_packageWeight 16 = .ok (.iadd, 1) := by decide +kernel
theorem dX6_packageWeight_17 : decode cX6_packageWeight 17 = .ok (.iaload, 1) := by decide +kernel
theorem dX6_packageWeight_18 : decode cX6_packageWeight 18 = .ok (.iadd, 1) := by decide +kernel
theorem dX6_packageWeight_19 : decode cX6_packageWeight 19 = .ok (.ireturn, 1) := by decide +kernel
set_option maxRecDepth 20000 in
theorem ggX6_countLengths_J7_fill_53178 : GoodIn wsX6_countLengths wsJ7_fill_53178 := goodIn_r _ [5] (by decide +kernel) (by decide +kernel)
set_option maxRecDepth 20000 in
theorem gX6_countLengths_J7_fill_53178 : GoodIn wsX6_countLengths (va_wsS RX6 67 yJ7_fill_53178 wsJ7_fill_53178) := goodIn_app (goodIn_of _ (by decide +kernel)) ggX6_countLengths_J7_fill_53178
set_option maxRecDepth 20000 in
theorem ggX6_countLengths_X6_packagesAmong : GoodIn wsX6_countLengths wsX6_packagesAmong := goodIn_r _ [10, 11, 12, 13, 14, 15, 16, 17, 18, 19, 25, 26, 27, 28, 29, 30, 31, 32, 33] (by decide +kernel) (by decide +kernel)
set_option maxRecDepth 20000 in
theorem gX6_countLengths_X6_packagesAmong : GoodIn wsX6_countLengths (wsV RX6 73 RX6 yX6_packagesAmong wsX6_packagesAmong) := goodIn_app (goodIn_of _ (by decide +kernel)) ggX6_countLengths_X6_packagesAmong
theorem dX6_countLengths_0 : decode cX6_countLengths 0 = .ok (.aload_n 1, 1) := by decide +kernel
theorem dX6_countLengths_1 : decode cX6_countLengths 1 = .ok (.getfield 64, 3) := by decide +kernel
theorem dX6_countLengths_4 : decode cX6_countLengths 4 = .ok (.iconst 0, 1) := by decide +kernel
theorem dX6_countLengths_5 : decode cX6_countLengths 5 = .ok (.invokestatic 67, 3) := by decide +kernel
theorem dX6_countLengths_8 : decode cX6_countLengths 8 = .ok (.iconst 2, 1) := by decide +kernel
theorem dX6_countLengths_9 : decode cX6_countLengths 9 = .ok (.aload_n 1, 1) := by decide +kernel
theorem dX6_countLengths_10 : decode cX6_countLengths 10 = .ok (.getfield 48, 3) := by decide +kernel
theorem dX6_countLengths_13 : decode cX6_countLengths 13 = .ok (.imul, 1) := by decide +kernel
theorem dX6_countLengths_14 : decode cX6_countLengths 14 = .ok (.iconst 2, 1) := by decide +kernel
theorem dX6_countLengths_15 : decode cX6_countLengths 15 = .ok (.isub, 1) := by decide +kernel
theorem dX6_countLengths_16 : decode cX6_countLengths 16 = .ok (.istore_n 2, 1) := by decide +kernel
theorem dX6_countLengths_17 : decode cX6_countLengths 17 = .ok (.aload_n 0, 1) := by decide +kernel
theorem dX6_countLengths_18 : decode cX6_countLengths 18 = .ok (.getfield 7, 3) := by decide +kernel
theorem dX6_countLengths_21 : decode cX6_countLengths 21 = .ok (.iconst 1, 1) := by decide +kernel
theorem dX6_countLengths_22 : decode cX6_countLengths 22 = .ok (.isub, 1) := by decide +kernel
theorem dX6_countLengths_23 : decode cX6_countLengths 23 = .ok (.istore_n 3, 1) := by decide +kernel
theorem dX6_countLengths_24 : decode cX6_countLengths 24 = .ok (.iload_n 3, 1) := by decide +kernel
theorem dX6_countLengths_25 : decode cX6_countLengths 25 = .ok (.ifCond .lt 65, 3) := by decide +kernel
theorem dX6_countLengths_28 : decode cX6_countLengths 28 = .ok (.aload_n 0, 1) := by decide +kernel
theorem dX6_countLengths_29 : decode cX6_countLengths 29 = .ok (.iload_n 3, 1) := by decide +kernel
theorem dX6_countLengths_30 : decode cX6_countLengths 30 = .ok (.iload_n 2, 1) := by decide +kernel
theorem dX6_countLengths_31 : decode cX6_countLengths 31 = .ok (.invokevirtual 73, 3) := by decide +kernel
theorem dX6_countLengths_34 : decode cX6_countLengths 34 = .ok (.istore 4, 2) := by decide +kernel
theorem dX6_countLengths_36 : decode cX6_countLengths 36 = .ok (.iconst 0, 1) := by decide +kernel
theorem dX6_countLengths_37 : decode cX6_countLengths 37 = .ok (.istore 5, 2) := by decide +kernel
theorem dX6_countLengths_39 : decode cX6_countLengths 39 = .ok (.iload 5, 2) := by decide +kernel
theorem dX6_countLengths_41 : decode cX6_countLengths 41 = .ok (.iload_n 2, 1) := by decide +kernel
theorem dX6_countLengths_42 : decode cX6_countLengths 42 = .ok (.iload 4, 2) := by decide +kernel
theorem dX6_countLengths_44 : decode cX6_countLengths 44 = .ok (.isub, 1) := by decide +kernel
theorem dX6_countLengths_45 : decode cX6_countLengths 45 = .ok (.if_icmp .ge 34, 3) := by decide +kernel
theorem dX6_countLengths_48 : decode cX6_countLengths 48 = .ok (.iload 5, 2) := by decide +kernel
theorem dX6_countLengths_50 : decode cX6_countLengths 50 = .ok (.aload_n 1, 1) := by decide +kernel
theorem dX6_countLengths_51 : decode cX6_countLengths 51 = .ok (.getfield 48, 3) := by decide +kernel
theorem dX6_countLengths_54 : decode cX6_countLengths 54 = .ok (.if_icmp .ge 25, 3) := by decide +kernel
theorem dX6_countLengths_57 : decode cX6_countLengths 57 = .ok (.aload_n 1, 1) := by decide +kernel
theorem dX6_countLengths_58 : decode cX6_countLengths 58 = .ok (.getfield 64, 3) := by decide +kernel
theorem dX6_countLengths_61 : decode cX6_countLengths 61 = .ok (.aload_n 1, 1) := by decide +kernel
theorem dX6_countLengths_62 : decode cX6_countLengths 62 = .ok (.getfield 58, 3) := by decide +kernel
theorem dX6_countLengths_65 : decode cX6_countLengths 65 = .ok (.iload 5, 2) := by decide +kernel
theorem dX6_countLengths_67 : decode cX6_countLengths 67 = .ok (.iaload, 1) := by decide +kernel
theorem dX6_countLengths_68 : decode cX6_countLengths 68 = .ok (.dup2, 1) := by decide +kernel
theorem dX6_countLengths_69 : decode cX6_countLengths 69 = .ok (.iaload, 1) := by decide +kernel
theorem dX6_countLengths_70 : decode cX6_countLengths 70 = .ok (.iconst 1, 1) := by decide +kernel
theorem dX6_countLengths_71 : decode cX6_countLengths 71 = .ok (.iadd, 1) := by decide +kernel
theorem dX6_countLengths_72 : decode cX6_countLengths 72 = .ok (.iastore, 1) := by decide +kernel
theorem dX6_countLengths_73 : decode cX6_countLengths 73 = .ok (.iinc 5 1, 3) := by decide +kernel
theorem dX6_countLengths_76 : decode cX6_countLengths 76 = .ok (.goto (-37), 3) := by decide +kernel
theorem dX6_countLengths_79 : decode cX6_countLengths 79 = .ok (.iconst 2, 1) := by decide +kernel
theorem dX6_countLengths_80 : decode cX6_countLengths 80 = .ok (.iload 4, 2) := by decide +kernel
theorem dX6_countLengths_82 : decode cX6_countLengths 82 = .ok (.imul, 1) := by decide +kernel
theorem dX6_countLengths_83 : decode cX6_countLengths 83 = .ok (.istore_n 2, 1) := by decide +kernel
theorem dX6_countLengths_84 : decode cX6_countLengths 84 = .ok (.iinc 3 (-1), 3) := by decide +kernel
theorem dX6_countLengths_87 : decode cX6_countLengths 87 = .ok (.goto (-63), 3) := by decide +kernel
theorem dX6_countLengths_90 : decode cX6_countLengths 90 = .ok (.return_, 1) := by decide +kernel
set_option maxRecDepth 20000 in
theorem ggX6_packagesAmong_X0_get : GoodIn wsX6_packagesAmong wsX0_get := goodIn_r _ [7, 8, 9, 15, 16, 17, 18] (by decide +kernel) (by decide +kernel)
set_option maxRecDepth 20000 in
theorem gX6_packagesAmong_X0_get : GoodIn wsX6_packagesAmong (wsV RX6 77 RX0 yX0_get wsX0_get) := goodIn_app (goodIn_of _ (by decide +kernel)) ggX6_packagesAmong_X0_get
theorem dX6_packagesAmong_0 : decode cX6_packagesAmong 0 = .ok (.iconst 0, 1) := by decide +kernel
theorem dX6_packagesAmong_1 : decode cX6_packagesAmong 1 = .ok (.istore_n 3, 1) := by decide +kernel
theorem dX6_packagesAmong_2 : decode cX6_packagesAmong 2 = .ok (.iconst 0, 1) := by decide +kernel
theorem dX6_packagesAmong_3 : decode cX6_packagesAmong 3 = .ok (.istore 4, 2) := by decide +kernel
theorem dX6_packagesAmong_5 : decode cX6_packagesAmong 5 = .ok (.iload 4, 2) := by decide +kernel
theorem dX6_packagesAmong_7 : decode cX6_packagesAmong 7 = .ok (.iload_n 2, 1) := by decide +kernel
theorem dX6_packagesAmong_8 : decode cX6_packagesAmong 8 = .ok (.if_icmp .ge 28, 3) := by decide +kernel
theorem dX6_packagesAmong_11 : decode cX6_packagesAmong 11 = .ok (.iload_n 3, 1) := by decide +kernel
theorem dX6_packagesAmong_12 : decode cX6_packagesAmong 12 = .ok (.aload_n 0, 1) := by decide +kernel
theorem dX6_packagesAmong_13 : decode cX6_packagesAmong 13 = .ok (.getfield 28, 3) := by decide +kernel
theorem dX6_packagesAmong_16 : decode cX6_packagesAmong 16 = .ok (.iload_n 1, 1) := by decide +kernel
theorem dX6_packagesAmong_17 : decode cX6_packagesAmong 17 = .ok (.aload_n 0, 1) := by decide +kernel
theorem dX6_packagesAmong_18 : decode cX6_packagesAmong 18 = .ok (.getfield 13, 3) := by decide +kernel
theorem dX6_packagesAmong_21 : decode cX6_packagesAmong 21 = .ok (.imul, 1) := by decide +kernel
theorem dX6_packagesAmong_22 : decode cX6_packagesAmong 22 = .ok (.iload 4, 2) := by decide +kernel
theorem dX6_packagesAmong_24 : decode cX6_packagesAmong 24 = .ok (.iadd, 1) := by decide +kernel
theorem dX6_packagesAmong_25 : decode cX6_packagesAmong 25 = .ok (.invokevirtual 77, 3) := by decide +kernel
theorem dX6_packagesAmong_28 : decode cX6_packagesAmong 28 = .ok (.iadd, 1) := by decide +kernel
theorem dX6_packagesAmong_29 : decode cX6_packagesAmong 29 = .ok (.istore_n 3, 1) := by decide +kernel
theorem dX6_packagesAmong_30 : decode cX6_packagesAmong 30 = .ok (.iinc 4 1, 3) := by decide +kernel
theorem dX6_packagesAmong_33 : decode cX6_packagesAmong 33 = .ok (.goto (-28), 3) := by decide +kernel
theorem dX6_packagesAmong_36 : decode cX6_packagesAmong 36 = .ok (.iload_n 3, 1) := by decide +kernel
theorem dX6_packagesAmong_37 : decode cX6_packagesAmong 37 = .ok (.ireturn, 1) := by decide +kernel
theorem dX7_init_0 : decode cX7_init 0 = .ok (.aload_n 0, 1) := by decide +kernel
theorem dX7_init_1 : decode cX7_init 1 = .ok (.invokespecial 1, 3) := by decide +kernel
theorem dX7_init_4 : decode cX7_init 4 = .ok (.aload_n 0, 1) := by decide +kernel
theorem dX7_init_5 : decode cX7_init 5 = .ok (.iload_n 1, 1) := by decide +kernel
theorem dX7_init_6 : decode cX7_init 6 = .ok (.newarray .int, 2) := by decide +kernel
theorem dX7_init_8 : decode cX7_init 8 = .ok (.putfield 7, 3) := by decide +kernel
theorem dX7_init_11 : decode cX7_init 11 = .ok (.aload_n 0, 1) := by decide +kernel
theorem dX7_init_12 : decode cX7_init 12 = .ok (.iload_n 1, 1) := by decide +kernel
theorem dX7_init_13 : decode cX7_init 13 = .ok (.newarray .int, 2) := by decide +kernel
theorem dX7_init_15 : decode cX7_init 15 = .ok (.putfield 13, 3) := by decide +kernel
theorem dX7_init_18 : decode cX7_init 18 = .ok (.return_, 1) := by decide +kernel
set_option maxRecDepth 20000 in
theorem ggX7_partAll_J7_fill_53178 : GoodIn wsX7_partAll wsJ7_fill_53178 := goodIn_r _ [7] (by decide +kernel) (by decide +kernel)
set_option maxRecDepth 20000 in
theorem gX7_partAll_J7_fill_53178 : GoodIn wsX7_partAll (va_wsS RX7 21 yJ7_fill_53178 wsJ7_fill_53178) := goodIn_app (goodIn_of _ (by decide +kernel)) ggX7_partAll_J7_fill_53178
set_option maxRecDepth 20000 in
theorem ggX7_partAll_X7_addPart : GoodIn wsX7_partAll wsX7_addPart := goodIn_r _ [13, 1, 2, 3, 41, 42, 43, 44, 45, 46, 47, 48] (by decide +kernel) (by decide +kernel)
set_option maxRecDepth 20000 in
theorem gX7_partAll_X7_addPart_u34X1 : GoodIn wsX7_partAll (va_wsU RX7 34 RX1 "PrefixSmith$Parting" ⟨"PrefixSmith$Parting", "addPart", "(II)V"⟩ yX7_addPart wsX7_addPart) := goodIn_app (goodIn_of _ (by decide +kernel)) ggX7_partAll_X7_addPart
set_option maxRecDepth 20000 in
theorem gX7_partAll_X7_addPart_u34X5 : GoodIn wsX7_partAll (va_wsU RX7 34 RX5 "PrefixSmith$Parting" ⟨"PrefixSmith$Parting", "addPart", "(II)V"⟩ yX7_addPart wsX7_addPart) := goodIn_app (goodIn_of _ (by decide +kernel)) ggX7_partAll_X7_addPart
set_option maxRecDepth 20000 in
theorem ggX7_partAll_X7_deepen : GoodIn wsX7_partAll wsX7_deepen := goodIn_r _ [17, 36, 37, 38, 39, 40] (by decide +kernel) (by decide +kernel)
set_option maxRecDepth 20000 in
theorem gX7_partAll_X7_deepen : GoodIn wsX7_partAll (va_wsS RX7 38 yX7_deepen wsX7_deepen) := goodIn_app (goodIn_of _ (by decide +kernel)) ggX7_partAll_X7_deepen
set_option maxRecDepth 20000 in
theorem ggX7_partAll_X1_middle : GoodIn wsX7_partAll wsX1_middle := goodIn_r _ [23, 36, 37, 38, 39, 40] (by decide +kernel) (by decide +kernel)
set_option maxRecDepth 20000 in
theorem gX7_partAll_X1_middle_u42X1 : GoodIn wsX7_partAll (va_wsU RX7 42 RX1 "PrefixSmith$Parting" ⟨"PrefixSmith$Parting", "middle", "(LPrefixSmith$Leaves;II)I"⟩ yX1_middle wsX1_middle) := goodIn_app (goodIn_of _ (by decide +kernel)) ggX7_partAll_X1_middle
set_option maxRecDepth 20000 in
theorem ggX7_partAll_X5_middle : GoodIn wsX7_partAll wsX5_middle := goodIn_r _ [27, 28, 29, 30, 26, 31, 32, 33, 34, 35, 44, 45, 46, 47, 48] (by decide +kernel) (by decide +kernel)
set_option maxRecDepth 20000 in
theorem gX7_partAll_X5_middle_u42X5 : GoodIn wsX7_partAll (va_wsU RX7 42 RX5 "PrefixSmith$Parting" ⟨"PrefixSmith$Parting", "middle", "(LPrefixSmith$Leaves;II)I"⟩ yX5_middle wsX5_middle) := goodIn_app (goodIn_of _ (by decide +kernel)) ggX7_partAll_X5_middle
theorem dX7_partAll_0 : decode cX7_partAll 0 = .ok (.aload_n 1, 1) := by decide +kernel
theorem dX7_partAll_1 : decode cX7_partAll 1 = .ok (.getfield 16, 3) := by decide +kernel
theorem dX7_partAll_4 : decode cX7_partAll 4 = .ok (.iconst 0, 1) := by decide +kernel
theorem dX7_partAll_5 : decode cX7_partAll 5 = .ok (.invokestatic 21, 3) := by decide +kernel
theorem dX7_partAll_8 : decode cX7_partAll 8 = .ok (.aload_n 0, 1) := by decide +kernel
theorem dX7_partAll_9 : decode cX7_partAll 9 = .ok (.iconst 0, 1) := by decide +kernel
theorem dX7_partAll_10 : decode cX7_partAll 10 = .ok (.putfield 27, 3) := by decide +kernel
theorem dX7_partAll_13 : decode cX7_partAll 13 = .ok (.aload_n 0, 1) := by decide +kernel
theorem dX7_partAll_14 : decode cX7_partAll 14 = .ok (.iconst 0, 1) := by decide +kernel
theorem dX7_partAll_15 : decode cX7_partAll 15 = .ok (.aload_n 1, 1) := by decide +kernel
theorem dX7_partAll_16 : decode cX7_partAll 16 = .ok (.getfield 31, 3) := by decide +kernel
theorem dX7_partAll_19 : decode cX7_partAll 19 = .ok (.invokevirtual 34, 3) := by decide +kernel
theorem dX7_partAll_22 : decode cX7_partAll 22 = .ok (.iconst 0, 1) := by decide +kernel
theorem dX7_partAll_23 : decode cX7_partAll 23 = .ok (.istore_n 2, 1) := by decide +kernel
theorem dX7_partAll_24 : decode cX7_partAll 24 = .ok (.iload_n 2, 1) := by decide +kernel
theorem dX7_partAll_25 : decode cX7_partAll 25 = .ok (.iconst 2, 1) := by decide +kernel
theorem dX7_partAll_26 : decode cX7_partAll 26 = .ok (.aload_n 1, 1) := by decide +kernel
theorem dX7_partAll_27 : decode cX7_partAll 27 = .ok (.getfield 31, 3) := by decide +kernel
theorem dX7_partAll_30 : decode cX7_partAll 30 = .ok (.imul, 1) := by decide +kernel
theorem dX7_partAll_31 : decode cX7_partAll 31 = .ok (.if_icmp .ge 87, 3) := by decide +kernel
theorem dX7_partAll_34 : decode cX7_partAll 34 = .ok (.aload_n 0, 1) := by decide +kernel
theorem dX7_partAll_35 : decode cX7_partAll 35 = .ok (.getfield 27, 3) := by decide +kernel
theorem dX7_partAll_38 : decode cX7_partAll 38 = .ok (.ifCond .le 80, 3) := by decide +kernel
theorem dX7_partAll_41 : decode cX7_partAll 41 = .ok (.aload_n 0, 1) := by decide +kernel
theorem dX7_partAll_42 : decode cX7_partAll 42 = .ok (.dup, 1) := by decide +kernel
theorem dX7_partAll_43 : decode cX7_partAll 43 = .ok (.getfield 27, 3) := by decide +kernel
theorem dX7_partAll_46 : decode cX7_partAll 46 = .ok (.iconst 1, 1) := by decide +kernel
theorem dX7_partAll_47 : decode cX7_partAll 47 = .ok (.isub, 1) := by decide +kernel
theorem dX7_partAll_48 : decode cX7_partAll 48 = .ok (.putfield 27, 3) := by decide +kernel
theorem dX7_partAll_51 : decode cX7_partAll 51 = .ok (.aload_n 0, 1) := by decide +kernel
theorem dX7_partAll_52 : decode cX7_partAll 52 = .ok (.getfield 7, 3) := by decide +kernel
theorem dX7_partAll_55 : decode cX7_partAll 55 = .ok (.aload_n 0, 1) := by decide +kernel
theorem dX7_partAll_56 : decode cX7_partAll 56 = .ok (.getfield 27, 3) := by decide +kernel
theorem dX7_partAll_59 : decode cX7_partAll 59 = .ok (.iaload, 1) := by decide +kernel
theorem dX7_partAll_60 : decode cX7_partAll 60 = .ok (.istore_n 3, 1) := by decide +kernel
theorem dX7_partAll_61 : decode cX7_partAll 61 = .ok (.aload_n 0, 1) := by decide +kernel
theorem dX7_partAll_62 : decode cX7_partAll 62 = .ok (.getfield 13, 3) := by decide +kernel
theorem dX7_partAll_65 : decode cX7_partAll 65 = .ok (.aload_n 0, 1) := by decide +kernel
theorem dX7_partAll_66 : decode cX7_partAll 66 = .ok (.getfield 27, 3) := by decide +kernel
theorem dX7_partAll_69 : decode cX7_partAll 69 = .ok (.iaload, 1) := by decide +kernel
theorem dX7_partAll_70 : decode cX7_partAll 70 = .ok (.istore 4, 2) := by decide +kernel
theorem dX7_partAll_72 : decode cX7_partAll 72 = .ok (.iload 4, 2) := by decide +kernel
theorem dX7_partAll_74 : decode cX7_partAll 74 = .ok (.iload_n 3, 1) := by decide +kernel
theorem dX7_partAll_75 : decode cX7_partAll 75 = .ok (.isub, 1) := by decide +kernel
theorem dX7_partAll_76 : decode cX7_partAll 76 = .ok (.iconst 1, 1) := by decide +kernel
theorem dX7_partAll_77 : decode cX7_partAll 77 = .ok (.if_icmp .le 35, 3) := by decide +kernel
theorem dX7_partAll_80 : decode cX7_partAll 80 = .ok (.aload_n 1, 1) := by decide +kernel
theorem dX7_partAll_81 : decode cX7_partAll 81 = .ok (.iload_n 3, 1) := by decide +kernel
theorem dX7_partAll_82 : decode cX7_partAll 82 = .ok (.iload 4, 2) := by decide +kernel
theorem dX7_partAll_84 : decode cX7_partAll 84 = .ok (.invokestatic 38, 3) := by decide +kernel
theorem dX7_partAll_87 : decode cX7_partAll 87 = .ok (.aload_n 0, 1) := by decide +kernel
theorem dX7_partAll_88 : decode cX7_partAll 88 = .ok (.aload_n 1, 1) := by decide +kernel
theorem dX7_partAll_89 : decode cX7_partAll 89 = .ok (.iload_n 3, 1) := by decide +kernel
theorem dX7_partAll_90 : decode cX7_partAll 90 = .ok (.iload 4, 2) := by decide +kernel
theorem dX7_partAll_92 : decode cX7_partAll 92 = .ok (.invokevirtual 42, 3) := by decide +kernel
theorem dX7_partAll_95 : decode cX7_partAll 95 = .ok (.istore 5, 2) := by decide +kernel
theorem dX7_partAll_97 : decode cX7_partAll 97 = .ok (.aload_n 0, 1) := by decide +kernel
theorem dX7_partAll_98 : decode cX7_partAll 98 = .ok (.iload_n 3, 1) := by decide +kernel
theorem dX7_partAll_99 : decode cX7_partAll 99 = .ok (.iload 5, 2) := by decide +kernel
theorem dX7_partAll_101 : decode cX7_partAll 101 = .ok (.invokevirtual 34, 3) := by decide +kernel
theorem dX7_partAll_104 : decode cX7_partAll 104 = .ok (.aload_n 0, 1) := by decide +kernel
theorem dX7_partAll_105 : decode cX7_partAll 105 = .ok (.iload 5, 2) := by decide +kernel
theorem dX7_partAll_107 : decode cX7_partAll 107 = .ok (.iload 4, 2) := by decide +kernel
theorem dX7_partAll_109 : decode cX7_partAll 109 = .ok (.invokevirtual 34, 3) := by decide +kernel
theorem dX7_partAll_112 : decode cX7_partAll 112 = .ok (.iinc 2 1, 3) := by decide +kernel
theorem dX7_partAll_115 : decode cX7_partAll 115 = .ok (.goto (-91), 3) := by decide +kernel
theorem dX7_partAll_118 : decode cX7_partAll 118 = .ok (.return_, 1) := by decide +kernel
theorem dX7_addPart_0 : decode cX7_addPart 0 = .ok (.aload_n 0, 1) := by decide +kernel
theorem dX7_addPart_1 : decode cX7_addPart 1 = .ok (.getfield 27, 3) := by decide +kernel
theorem dX7_addPart_4 : decode cX7_addPart 4 = .ok (.aload_n 0, 1) := by decide +kernel
theorem dX7_addPart_5 : decode cX7_addPart 5 = .ok (.getfield 7, 3) := by decide +kernel
theorem dX7_addPart_8 : decode cX7_addPart 8 = .ok (.arraylength, 1) := by decide +kernel
theorem dX7_addPart_9 : decode cX7_addPart 9 = .ok (.if_icmp .ge 33, 3) := by decide +kernel
theorem dX7_addPart_12 : decode cX7_addPart 12 = .ok (.aload_n 0, 1) := by decide +kernel
theorem dX7_addPart_13 : decode cX7_addPart 13 = .ok (.getfield 7, 3) := by decide +kernel
theorem dX7_addPart_16 : decode cX7_addPart 16 = .ok (.aload_n 0, 1) := by decide +kernel
theorem dX7_addPart_17 : decode cX7_addPart 17 = .ok (.getfield 27, 3) := by decide +kernel
theorem dX7_addPart_20 : decode cX7_addPart 20 = .ok (.iload_n 1, 1) := by decide +kernel
theorem dX7_addPart_21 : decode cX7_addPart 21 = .ok (.iastore, 1) := by decide +kernel
theorem dX7_addPart_22 : decode cX7_addPart 22 = .ok (.aload_n 0, 1) := by decide +kernel
theorem dX7_addPart_23 : decode cX7_addPart 23 = .ok (.getfield 13, 3) := by decide +kernel
theorem dX7_addPart_26 : decode cX7_addPart 26 = .ok (.aload_n 0, 1) := by decide +kernel
theorem dX7_addPart_27 : decode cX7_addPart 27 = .ok (.getfield 27, 3) := by decide +kernel
theorem dX7_addPart_30 : decode cX7_addPart 30 = .ok (.iload_n 2, 1) := by decide +kernel
theorem dX7_addPart_31 : decode cX7_addPart 31 = .ok (.iastore, 1) := by decide +kernel
theorem dX7_addPart_32 : decode cX7_addPart 32 = .ok (.aload_n 0, 1) := by decide +kernel
theorem dX7_addPart_33 : decode cX7_addPart 33 = .ok (.dup, 1) := by decide +kernel
theorem dX7_addPart_34 : decode cX7_addPart 34 = .ok (.getfield 27, 3) := by decide +kernel
theorem dX7_addPart_37 : decode cX7_addPart 37 = .ok (.iconst 1, 1) := by decide +kernel
theorem dX7_addPart_38 : decode cX7_addPart 38 = .ok (.iadd, 1) := by decide +kernel
theorem dX7_addPart_39 : decode cX7_addPart 39 = .ok (.putfield 27, 3) := by decide +kernel
theorem dX7_addPart_42 : decode cX7_addPart 42 = .ok (.return_, 1) := by decide +kernel
theorem dX7_deepen_0 : decode cX7_deepen 0 = .ok (.iload_n 1, 1) := by decide +kernel
theorem dX7_deepen_1 : decode cX7_deepen 1 = .ok (.istore_n 3, 1) := by decide +kernel
theorem dX7_deepen_2 : decode cX7_deepen 2 = .ok (.iload_n 3, 1) := by decide +kernel
theorem dX7_deepen_3 : decode cX7_deepen 3 = .ok (.iload_n 2, 1) := by decide +kernel
theorem dX7_deepen_4 : decode cX7_deepen 4 = .ok (.if_icmp .ge 24, 3) := by decide +kernel
theorem dX7_deepen_7 : decode cX7_deepen 7 = .ok (.aload_n 0, 1) := by decide +kernel
theorem dX7_deepen_8 : decode cX7_deepen 8 = .ok (.getfield 16, 3) := by decide +kernel
theorem dX7_deepen_11 : decode cX7_deepen 11 = .ok (.aload_n 0, 1) := by decide +kernel
theorem dX7_deepen_12 : decode cX7_deepen 12 = .ok (.getfield 46, 3) := by decide +kernel
theorem dX7_deepen_15 : decode cX7_deepen 15 = .ok (.iload_n 3, 1) := by decide +kernel
theorem dX7_deepen_16 : decode cX7_deepen 16 = .ok (.iaload, 1) := by decide +kernel
theorem dX7_deepen_17 : decode cX7_deepen 17 = .ok (.dup2, 1) := by decide +kernel
theorem dX7_deepen_18 : decode cX7_deepen 18 = .ok (.iaload, 1) := by decide +kernel
theorem dX7_deepen_19 : decode cX7_deepen 19 = .ok (.iconst 1, 1) := by decide +kernel
theorem dX7_deepen_20 : decode cX7_deepen 20 = .ok (.iadd, 1) := by decide +kernel
theorem dX7_deepen_21 : decode cX7_deepen 21 = .ok (.iastore, 1) := by decide +kernel
theorem dX7_deepen_22 : decode cX7_deepen 22 = .ok (.iinc 3 1, 3) := by decide +kernel
theorem dX7_deepen_25 : decode cX7_deepen 25 = .ok (.goto (-23), 3) := by decide +kernel
theorem dX7_deepen_28 : decode cX7_deepen 28 = .ok (.return_, 1) := by decide +kernel
theorem dX8_init_0 : decode cX8_init 0 = .ok (.aload_n 0, 1) := by decide +kernel
theorem dX8_init_1 : decode cX8_init 1 = .ok (.invokespecial 3, 3) := by decide +kernel
theorem dX8_init_4 : decode cX8_init 4 = .ok (.aload_n 0, 1) := by decide +kernel
theorem dX8_init_5 : decode cX8_init 5 = .ok (.iconst (-1), 1) := by decide +kernel
theorem dX8_init_6 : decode cX8_init 6 = .ok (.putfield 9, 3) := by decide +kernel
theorem dX8_init_9 : decode cX8_init 9 = .ok (.return_, 1) := by decide +kernel
theorem dX8_fail_0 : decode cX8_fail 0 = .ok (.aload_n 0, 1) := by decide +kernel
theorem dX8_fail_1 : decode cX8_fail 1 = .ok (.iload_n 2, 1) := by decide +kernel
theorem dX8_fail_2 : decode cX8_fail 2 = .ok (.putfield 9, 3) := by decide +kernel
theorem dX8_fail_5 : decode cX8_fail 5 = .ok (.iload_n 1, 1) := by decide +kernel
theorem dX8_fail_6 : decode cX8_fail 6 = .ok (.ireturn, 1) := by decide +kernel
set_option maxRecDepth 20000 in
theorem ggX8_readAll_X8_readSymbol : GoodIn wsX8_readAll wsX8_readSymbol := goodIn_r _ [6, 1, 7, 8, 9, 10, 11, 12, 13, 14, 15, 16, 17, 18, 19, 20, 21, 22, 5, 23, 24, 32, 33, 36, 37, 38, 39, 40, 41, 42, 43, 44, 45, 46, 47, 48] (by decide +kernel) (by decide +kernel)
set_option maxRecDepth 20000 in
theorem gX8_readAll_X8_readSymbol : GoodIn wsX8_readAll (wsV RX8 26 RX8 yX8_readSymbol wsX8_readSymbol) := goodIn_app (goodIn_of _ (by decide +kernel)) ggX8_readAll_X8_readSymbol
set_option maxRecDepth 20000 in
theorem ggX8_readAll_X8_fail : GoodIn wsX8_readAll wsX8_fail := goodIn_r _ [23, 24, 32, 33] (by decide +kernel) (by decide +kernel)
set_option maxRecDepth 20000 in
theorem gX8_readAll_X8_fail : GoodIn wsX8_readAll (wsV RX8 30 RX8 yX8_fail wsX8_fail) := goodIn_app (goodIn_of _ (by decide +kernel)) ggX8_readAll_X8_fail
set_option maxRecDepth 20000 in
theorem ggX8_readAll_X9_add : GoodIn wsX8_readAll wsX9_add := goodIn_r _ [29, 30, 31, 34, 35] (by decide +kernel) (by decide +kernel)
set_option maxRecDepth 20000 in
theorem gX8_readAll_X9_add : GoodIn wsX8_readAll (wsV RX8 34 RX9 yX9_add wsX9_add) := goodIn_app (goodIn_of _ (by decide +kernel)) ggX8_readAll_X9_add
theorem dX8_readAll_0 : decode cX8_readAll 0 = .ok (.aload_n 0, 1) := by decide +kernel
theorem dX8_readAll_1 : decode cX8_readAll 1 = .ok (.iconst 0, 1) := by decide +kernel
theorem dX8_readAll_2 : decode cX8_readAll 2 = .ok (.putfield 15, 3) := by decide +kernel
theorem dX8_readAll_5 : decode cX8_readAll 5 = .ok (.aload_n 3, 1) := by decide +kernel
theorem dX8_readAll_6 : decode cX8_readAll 6 = .ok (.iconst 0, 1) := by decide +kernel
theorem dX8_readAll_7 : decode cX8_readAll 7 = .ok (.putfield 18, 3) := by decide +kernel
theorem dX8_readAll_10 : decode cX8_readAll 10 = .ok (.iconst 0, 1) := by decide +kernel
theorem dX8_readAll_11 : decode cX8_readAll 11 = .ok (.istore 4, 2) := by decide +kernel
theorem dX8_readAll_13 : decode cX8_readAll 13 = .ok (.iload 4, 2) := by decide +kernel
theorem dX8_readAll_15 : decode cX8_readAll 15 = .ok (.sipush 600, 3) := by decide +kernel
theorem dX8_readAll_18 : decode cX8_readAll 18 = .ok (.if_icmp .gt 67, 3) := by decide +kernel
theorem dX8_readAll_21 : decode cX8_readAll 21 = .ok (.aload_n 0, 1) := by decide +kernel
theorem dX8_readAll_22 : decode cX8_readAll 22 = .ok (.getfield 15, 3) := by decide +kernel
theorem dX8_readAll_25 : decode cX8_readAll 25 = .ok (.aload_n 1, 1) := by decide +kernel
theorem dX8_readAll_26 : decode cX8_readAll 26 = .ok (.getfield 23, 3) := by decide +kernel
theorem dX8_readAll_29 : decode cX8_readAll 29 = .ok (.if_icmp .ge 56, 3) := by decide +kernel
theorem dX8_readAll_32 : decode cX8_readAll 32 = .ok (.aload_n 0, 1) := by decide +kernel
theorem dX8_readAll_33 : decode cX8_readAll 33 = .ok (.getfield 15, 3) := by decide +kernel
theorem dX8_readAll_36 : decode cX8_readAll 36 = .ok (.istore 5, 2) := by decide +kernel
theorem dX8_readAll_38 : decode cX8_readAll 38 = .ok (.aload_n 0, 1) := by decide +kernel
theorem dX8_readAll_39 : decode cX8_readAll 39 = .ok (.aload_n 1, 1) := by decide +kernel
theorem dX8_readAll_40 : decode cX8_readAll 40 = .ok (.aload_n 2, 1) := by decide +kernel
theorem dX8_readAll_41 : decode cX8_readAll 41 = .ok (.invokevirtual 26, 3) := by decide +kernel
theorem dX8_readAll_44 : decode cX8_readAll 44 = .ok (.istore 6, 2) := by decide +kernel
theorem dX8_readAll_46 : decode cX8_readAll 46 = .ok (.iload 6, 2) := by decide +kernel
theorem dX8_readAll_48 : decode cX8_readAll 48 = .ok (.ifCond .ge 6, 3) := by decide +kernel
theorem dX8_readAll_51 : decode cX8_readAll 51 = .ok (.iload 6, 2) := by decide +kernel
theorem dX8_readAll_53 : decode cX8_readAll 53 = .ok (.ireturn, 1) := by decide +kernel
theorem dX8_readAll_54 : decode cX8_readAll 54 = .ok (.aload_n 3, 1) := by decide +kernel
theorem dX8_readAll_55 : decode cX8_readAll 55 = .ok (.getfield 18, 3) := by decide +kernel
theorem dX8_readAll_58 : decode cX8_readAll 58 = .ok (.sipush 600, 3) := by decide +kernel
theorem dX8_readAll_61 : decode cX8_readAll 61 = .ok (.if_icmp .lt 12, 3) := by decide +kernel
theorem dX8_readAll_64 : decode cX8_readAll 64 = .ok (.aload_n 0, 1) := by decide +kernel
theorem dX8_readAll_65 : decode cX8_readAll 65 = .ok (.bipush (-4), 2) := by decide +kernel
theorem dX8_readAll_67 : decode cX8_readAll 67 = .ok (.iload 5, 2) := by decide +kernel
theorem dX8_readAll_69 : decode cX8_readAll 69 = .ok (.invokevirtual 30, 3) := by decide +kernel
theorem dX8_readAll_72 : decode cX8_readAll 72 = .ok (.ireturn, 1) := by decide +kernel
theorem dX8_readAll_73 : decode cX8_readAll 73 = .ok (.aload_n 3, 1) := by decide +kernel
theorem dX8_readAll_74 : decode cX8_readAll 74 = .ok (.iload 6, 2) := by decide +kernel
theorem dX8_readAll_76 : decode cX8_readAll 76 = .ok (.invokevirtual 34, 3) := by decide +kernel
theorem dX8_readAll_79 : decode cX8_readAll 79 = .ok (.iinc 4 1, 3) := by decide +kernel
theorem dX8_readAll_82 : decode cX8_readAll 82 = .ok (.goto (-69), 3) := by decide +kernel
theorem dX8_readAll_85 : decode cX8_readAll 85 = .ok (.aload_n 3, 1) := by decide +kernel
theorem dX8_readAll_86 : decode cX8_readAll 86 = .ok (.getfield 18, 3) := by decide +kernel
theorem dX8_readAll_89 : decode cX8_readAll 89 = .ok (.ireturn, 1) := by decide +kernel
set_option maxRecDepth 20000 in
theorem ggX8_readSymbol_X0_get : GoodIn wsX8_readSymbol wsX0_get := goodIn_r _ [6, 7, 8, 23, 24, 25, 26] (by decide +kernel) (by decide +kernel)
set_option maxRecDepth 20000 in
theorem gX8_readSymbol_X0_get : GoodIn wsX8_readSymbol (wsV RX8 38 RX0 yX0_get wsX0_get) := goodIn_app (goodIn_of _ (by decide +kernel)) ggX8_readSymbol_X0_get
set_option maxRecDepth 20000 in
theorem ggX8_readSymbol_X10_step : GoodIn wsX8_readSymbol wsX10_step := goodIn_r _ [13, 14, 27, 28, 29, 30, 31, 32, 33, 34, 35] (by decide +kernel) (by decide +kernel)
set_option maxRecDepth 20000 in
theorem gX8_readSymbol_X10_step : GoodIn wsX8_readSymbol (wsV RX8 42 RX10 yX10_step wsX10_step) := goodIn_app (goodIn_of _ (by decide +kernel)) ggX8_readSymbol_X10_step
set_option maxRecDepth 20000 in
theorem ggX8_readSymbol_X8_fail : GoodIn wsX8_readSymbol wsX8_fail := goodIn_r _ [19, 20, 21, 22] (by decide +kernel) (by decide +kernel)
set_option maxRecDepth 20000 in
theorem gX8_readSymbol_X8_fail : GoodIn wsX8_readSymbol (wsV RX8 30 RX8 yX8_fail wsX8_fail) := goodIn_app (goodIn_of _ (by decide +kernel)) ggX8_readSymbol_X8_fail
theorem dX8_readSymbol_0 : decode cX8_readSymbol 0 = .ok (.iconst 0, 1) := by decide +kernel
theorem dX8_readSymbol_1 : decode cX8_readSymbol 1 = .ok (.istore_n 3, 1) := by decide +kernel
theorem dX8_readSymbol_2 : decode cX8_readSymbol 2 = .ok (.aload_n 0, 1) := by decide +kernel
theorem dX8_readSymbol_3 : decode cX8_readSymbol 3 = .ok (.getfield 15, 3) := by decide +kernel
theorem dX8_readSymbol_6 : decode cX8_readSymbol 6 = .ok (.istore 4, 2) := by decide +kernel
theorem dX8_readSymbol_8 : decode cX8_readSymbol 8 = .ok (.iload 4, 2) := by decide +kernel
theorem dX8_readSymbol_10 : decode cX8_readSymbol 10 = .ok (.aload_n 1, 1) := by decide +kernel
theorem dX8_readSymbol_11 : decode cX8_readSymbol 11 = .ok (.getfield 23, 3) := by decide +kernel
theorem dX8_readSymbol_14 : decode cX8_readSymbol 14 = .ok (.if_icmp .ge 57, 3) := by decide +kernel
theorem dX8_readSymbol_17 : decode cX8_readSymbol 17 = .ok (.aload_n 2, 1) := by decide +kernel
theorem dX8_readSymbol_18 : decode cX8_readSymbol 18 = .ok (.iload_n 3, 1) := by decide +kernel
theorem dX8_readSymbol_19 : decode cX8_readSymbol 19 = .ok (.aload_n 1, 1) := by decide +kernel
theorem dX8_readSymbol_20 : decode cX8_readSymbol 20 = .ok (.iload 4, 2) := by decide +kernel
theorem dX8_readSymbol_22 : decode cX8_readSymbol 22 = .ok (.invokevirtual 38, 3) := by decide +kernel
theorem dX8_readSymbol_25 : decode cX8_readSymbol 25 = .ok (.invokevirtual 42, 3) := by decide +kernel
theorem dX8_readSymbol_28 : decode cX8_readSymbol 28 = .ok (.istore 5, 2) := by decide +kernel
theorem dX8_readSymbol_30 : decode cX8_readSymbol 30 = .ok (.iload 5, 2) := by decide +kernel
theorem dX8_readSymbol_32 : decode cX8_readSymbol 32 = .ok (.ifCond .ne 12, 3) := by decide +kernel
theorem dX8_readSymbol_35 : decode cX8_readSymbol 35 = .ok (.aload_n 0, 1) := by decide +kernel
theorem dX8_readSymbol_36 : decode cX8_readSymbol 36 = .ok (.bipush (-3), 2) := by decide +kernel
theorem dX8_readSymbol_38 : decode cX8_readSymbol 38 = .ok (.iload 4, 2) := by decide +kernel
theorem dX8_readSymbol_40 : decode cX8_readSymbol 40 = .ok (.invokevirtual 30, 3) := by decide +kernel
theorem dX8_readSymbol_43 : decode cX8_readSymbol 43 = .ok (.ireturn, 1) := by decide +kernel
theorem dX8_readSymbol_44 : decode cX8_readSymbol 44 = .ok (.iload 5, 2) := by decide +kernel
theorem dX8_readSymbol_46 : decode cX8_readSymbol 46 = .ok (.ifCond .ge 16, 3) := by decide +kernel
theorem dX8_readSymbol_49 : decode cX8_readSymbol 49 = .ok (.aload_n 0, 1) := by decide +kernel
theorem dX8_readSymbol_50 : decode cX8_readSymbol 50 = .ok (.iload 4, 2) := by decide +kernel
theorem dX8_readSymbol_52 : decode cX8_readSymbol 52 = .ok (.iconst 1, 1) := by decide +kernel
theorem dX8_readSymbol_53 : decode cX8_readSymbol 53 = .ok (.iadd, 1) := by decide +kernel
theorem dX8_readSymbol_54 : decode cX8_readSymbol 54 = .ok (.putfield 15, 3) := by decide +kernel
theorem dX8_readSymbol_57 : decode cX8_readSymbol 57 = .ok (.iconst (-1), 1) := by decide +kernel
theorem dX8_readSymbol_58 : decode cX8_readSymbol 58 = .ok (.iload 5, 2) := by decide +kernel
theorem dX8_readSymbol_60 : decode cX8_readSymbol 60 = .ok (.isub, 1) := by decide +kernel
theorem dX8_readSymbol_61 : decode cX8_readSymbol 61 = .ok (.ireturn, 1) := by decide +kernel
theorem dX8_readSymbol_62 : decode cX8_readSymbol 62 = .ok (.iload 5, 2) := by decide +kernel
theorem dX8_readSymbol_64 : decode cX8_readSymbol 64 = .ok (.istore_n 3, 1) := by decide +kernel
theorem dX8_readSymbol_65 : decode cX8_readSymbol 65 = .ok (.iinc 4 1, 3) := by decide +kernel
theorem dX8_readSymbol_68 : decode cX8_readSymbol 68 = .ok (.goto (-60), 3) := by decide +kernel
theorem dX8_readSymbol_71 : decode cX8_readSymbol 71 = .ok (.aload_n 0, 1) := by decide +kernel
theorem dX8_readSymbol_72 : decode cX8_readSymbol 72 = .ok (.bipush (-2), 2) := by decide +kernel
theorem dX8_readSymbol_74 : decode cX8_readSymbol 74 = .ok (.aload_n 1, 1) := by decide +kernel
theorem dX8_readSymbol_75 : decode cX8_readSymbol 75 = .ok (.getfield 23, 3) := by decide +kernel
theorem dX8_readSymbol_78 : decode cX8_readSymbol 78 = .ok (.invokevirtual 30, 3) := by decide +kernel
theorem dX8_readSymbol_81 : decode cX8_readSymbol 81 = .ok (.ireturn, 1) := by decide +kernel
set_option maxRecDepth 20000 in
theorem ggX8_readNumber_X8_fail : GoodIn wsX8_readNumber wsX8_fail := goodIn_r _ [6, 7, 19, 20] (by decide +kernel) (by decide +kernel)
set_option maxRecDepth 20000 in
theorem gX8_readNumber_X8_fail : GoodIn wsX8_readNumber (wsV RX8 30 RX8 yX8_fail wsX8_fail) := goodIn_app (goodIn_of _ (by decide +kernel)) ggX8_readNumber_X8_fail
set_option maxRecDepth 20000 in
theorem ggX8_readNumber_X0_get : GoodIn wsX8_readNumber wsX0_get := goodIn_r _ [12, 13, 14, 15, 16, 17, 18] (by decide +kernel) (by decide +kernel)
set_option maxRecDepth 20000 in
theorem gX8_readNumber_X0_get : GoodIn wsX8_readNumber (wsV RX8 38 RX0 yX0_get wsX0_get) := goodIn_app (goodIn_of _ (by decide +kernel)) ggX8_readNumber_X0_get
theorem dX8_readNumber_0 : decode cX8_readNumber 0 = .ok (.aload_n 1, 1) := by decide +kernel
theorem dX8_readNumber_1 : decode cX8_readNumber 1 = .ok (.getfield 23, 3) := by decide +kernel
theorem dX8_readNumber_4 : decode cX8_readNumber 4 = .ok (.aload_n 0, 1) := by decide +kernel
theorem dX8_readNumber_5 : decode cX8_readNumber 5 = .ok (.getfield 15, 3) := by decide +kernel
theorem dX8_readNumber_8 : decode cX8_readNumber 8 = .ok (.isub, 1) := by decide +kernel
theorem dX8_readNumber_9 : decode cX8_readNumber 9 = .ok (.iload_n 2, 1) := by decide +kernel
theorem dX8_readNumber_10 : decode cX8_readNumber 10 = .ok (.if_icmp .ge 14, 3) := by decide +kernel
theorem dX8_readNumber_13 : decode cX8_readNumber 13 = .ok (.aload_n 0, 1) := by decide +kernel
theorem dX8_readNumber_14 : decode cX8_readNumber 14 = .ok (.bipush (-2), 2) := by decide +kernel
theorem dX8_readNumber_16 : decode cX8_readNumber 16 = .ok (.aload_n 1, 1) := by decide +kernel
theorem dX8_readNumber_17 : decode cX8_readNumber 17 = .ok (.getfield 23, 3) := by decide +kernel
theorem dX8_readNumber_20 : decode cX8_readNumber 20 = .ok (.invokevirtual 30, 3) := by decide +kernel
theorem dX8_readNumber_23 : decode cX8_readNumber 23 = .ok (.ireturn, 1) := by decide +kernel
theorem dX8_readNumber_24 : decode cX8_readNumber 24 = .ok (.iconst 0, 1) := by decide +kernel
theorem dX8_readNumber_25 : decode cX8_readNumber 25 = .ok (.istore_n 3, 1) := by decide +kernel
theorem dX8_readNumber_26 : decode cX8_readNumber 26 = .ok (.iconst 0, 1) := by decide +kernel
theorem dX8_readNumber_27 : decode cX8_readNumber 27 = .ok (.istore 4, 2) := by decide +kernel
theorem dX8_readNumber_29 : decode cX8_readNumber 29 = .ok (.iload 4, 2) := by decide +kernel
theorem dX8_readNumber_31 : decode cX8_readNumber 31 = .ok (.iload_n 2, 1) := by decide +kernel
theorem dX8_readNumber_32 : decode cX8_readNumber 32 = .ok (.if_icmp .ge 25, 3) := by decide +kernel
theorem dX8_readNumber_35 : decode cX8_readNumber 35 = .ok (.iconst 2, 1) := by decide +kernel
theorem dX8_readNumber_36 : decode cX8_readNumber 36 = .ok (.iload_n 3, 1) := by decide +kernel
theorem dX8_readNumber_37 : decode cX8_readNumber 37 = .ok (.imul, 1) := by decide +kernel
theorem dX8_readNumber_38 : decode cX8_readNumber 38 = .ok (.aload_n 1, 1) := by decide +kernel
theorem dX8_readNumber_39 : decode cX8_readNumber 39 = .ok (.aload_n 0, 1) := by decide +kernel
theorem dX8_readNumber_40 : decode cX8_readNumber 40 = .ok (.getfield 15, 3) := by decide +kernel
theorem dX8_readNumber_43 : decode cX8_readNumber 43 = .ok (.iload 4, 2) := by decide +kernel
theorem dX8_readNumber_45 : decode cX8_readNumber 45 = .ok (.iadd, 1) := by decide +kernel
theorem dX8_readNumber_46 : decode cX8_readNumber 46 = .ok (.invokevirtual 38, 3) := by decide +kernel
theorem dX8_readNumber_49 : decode cX8_readNumber 49 = .ok (.iadd, 1) := by decide +kernel
theorem dX8_readNumber_50 : decode cX8_readNumber 50 = .ok (.istore_n 3, 1) := by decide +kernel
theorem dX8_readNumber_51 : decode cX8_readNumber 51 = .ok (.iinc 4 1, 3) := by decide +kernel
theorem dX8_readNumber_54 : decode cX8_readNumber 54 = .ok (.goto (-25), 3) := by decide +kernel
theorem dX8_readNumber_57 : decode cX8_readNumber 57 = .ok (.aload_n 0, 1) := by decide +kernel
theorem dX8_readNumber_58 : decode cX8_readNumber 58 = .ok (.dup, 1) := by decide +kernel
theorem dX8_readNumber_59 : decode cX8_readNumber 59 = .ok (.getfield 15, 3) := by decide +kernel
theorem dX8_readNumber_62 : decode cX8_readNumber 62 = .ok (.iload_n 2, 1) := by decide +kernel
theorem dX8_readNumber_63 : decode cX8_readNumber 63 = .ok (.iadd, 1) := by decide +kernel
theorem dX8_readNumber_64 : decode cX8_readNumber 64 = .ok (.putfield 15, 3) := by decide +kernel
theorem dX8_readNumber_67 : decode cX8_readNumber 67 = .ok (.iload_n 3, 1) := by decide +kernel
theorem dX8_readNumber_68 : decode cX8_readNumber 68 = .ok (.ireturn, 1) := by decide +kernel
set_option maxRecDepth 20000 in
theorem ggX8_readPacked_X8_readTable : GoodIn wsX8_readPacked wsX8_readTable := goodIn_r _ [6, 1, 7, 8, 9, 5, 10, 11, 12, 13, 14, 15, 16, 17, 18, 19, 20, 21, 22, 23, 24, 25, 26, 27, 28, 29, 30, 31, 32, 33, 34, 35, 36, 37, 38, 39, 40, 41, 42, 43, 44, 45, 46, 47, 48, 49, 50, 51, 52, 53, 54, 109, 110, 111, 112, 113, 114, 115, 116, 117, 101, 102, 105, 106, 107, 108] (by decide +kernel) (by decide +kernel)
set_option maxRecDepth 20000 in
theorem gX8_readPacked_X8_readTable : GoodIn wsX8_readPacked (wsV RX8 47 RX8 yX8_readTable wsX8_readTable) := goodIn_app (goodIn_of _ (by decide +kernel)) ggX8_readPacked_X8_readTable
set_option maxRecDepth 20000 in
theorem ggX8_readPacked_X10_forge : GoodIn wsX8_readPacked wsX10_forge := goodIn_r _ [58, 59, 60, 37, 36, 61, 62, 63, 28, 29, 30, 64, 65, 66, 34, 67, 42, 43, 68, 69, 70, 71, 72, 73, 74, 75, 76, 77, 78, 79, 80, 81, 48, 49, 50, 82, 83, 84, 85, 44, 45, 46, 47, 109, 110, 111, 112, 113, 114, 115, 116, 117] (by decide +kernel) (by decide +kernel)
set_option maxRecDepth 20000 in
theorem gX8_readPacked_X10_forge : GoodIn wsX8_readPacked (wsV RX8 50 RX10 yX10_forge wsX10_forge) := goodIn_app (goodIn_of _ (by decide +kernel)) ggX8_readPacked_X10_forge
set_option maxRecDepth 20000 in
theorem ggX8_readPacked_X8_readNumber : GoodIn wsX8_readPacked wsX8_readNumber := goodIn_r _ [10, 1, 11, 12, 13, 5, 14, 15, 16, 17, 18, 19, 20, 21, 22, 105, 106, 107, 108, 101, 102] (by decide +kernel) (by decide +kernel)
set_option maxRecDepth 20000 in
theorem gX8_readPacked_X8_readNumber : GoodIn wsX8_readPacked (wsV RX8 53 RX8 yX8_readNumber wsX8_readNumber) := goodIn_app (goodIn_of _ (by decide +kernel)) ggX8_readPacked_X8_readNumber
set_option maxRecDepth 20000 in
theorem ggX8_readPacked_X8_fail : GoodIn wsX8_readPacked wsX8_fail := goodIn_r _ [14, 15, 101, 102] (by decide +kernel) (by decide +kernel)
set_option maxRecDepth 20000 in
theorem gX8_readPacked_X8_fail : GoodIn wsX8_readPacked (wsV RX8 30 RX8 yX8_fail wsX8_fail) := goodIn_app (goodIn_of _ (by decide +kernel)) ggX8_readPacked_X8_fail
set_option maxRecDepth 20000 in
theorem ggX8_readPacked_X8_readSymbol : GoodIn wsX8_readPacked wsX8_readSymbol := goodIn_r _ [89, 1, 16, 17, 18, 19, 20, 21, 22, 90, 91, 92, 34, 93, 59, 11, 12, 13, 5, 14, 15, 101, 102, 105, 106, 107, 108, 109, 110, 111, 112, 113, 114, 115, 116, 117] (by decide +kernel) (by decide +kernel)
set_option maxRecDepth 20000 in
theorem gX8_readPacked_X8_readSymbol : GoodIn wsX8_readPacked (wsV RX8 26 RX8 yX8_readSymbol wsX8_readSymbol) := goodIn_app (goodIn_of _ (by decide +kernel)) ggX8_readPacked_X8_readSymbol
set_option maxRecDepth 20000 in
theorem ggX8_readPacked_X9_add : GoodIn wsX8_readPacked wsX9_add := goodIn_r _ [98, 99, 100, 103, 104] (by decide +kernel) (by decide +kernel)
set_option maxRecDepth 20000 in
theorem gX8_readPacked_X9_add : GoodIn wsX8_readPacked (wsV RX8 34 RX9 yX9_add wsX9_add) := goodIn_app (goodIn_of _ (by decide +kernel)) ggX8_readPacked_X9_add
theorem dX8_readPacked_0 : decode cX8_readPacked 0 = .ok (.aload_n 0, 1) := by decide +kernel
theorem dX8_readPacked_1 : decode cX8_readPacked 1 = .ok (.iconst 0, 1) := by decide +kernel
theorem dX8_readPacked_2 : decode cX8_readPacked 2 = .ok (.putfield 15, 3) := by decide +kernel
theorem dX8_readPacked_5 : decode cX8_readPacked 5 = .ok (.aload_n 0, 1) := by decide +kernel
theorem dX8_readPacked_6 : decode cX8_readPacked 6 = .ok (.aload_n 1, 1) := by decide +kernel
theorem dX8_readPacked_7 : decode cX8_readPacked 7 = .ok (.aload_n 2, 1) := by decide +kernel
theorem dX8_readPacked_8 : decode cX8_readPacked 8 = .ok (.invokevirtual 47, 3) := by decide +kernel
theorem dX8_readPacked_11 : decode cX8_readPacked 11 = .ok (.istore 4, 2) := by decide +kernel
theorem dX8_readPacked_13 : decode cX8_readPacked 13 = .ok (.iload 4, 2) := by decide +kernel
theorem dX8_readPacked_15 : decode cX8_readPacked 15 = .ok (.ifCond .ge 6, 3) := by decide +kernel
theorem dX8_readPacked_18 : decode cX8_readPacked 18 = .ok (.iload 4, 2) := by decide +kernel
theorem dX8_readPacked_20 : decode cX8_readPacked 20 = .ok (.ireturn, 1) := by decide +kernel
theorem dX8_readPacked_21 : decode cX8_readPacked 21 = .ok (.aload_n 2, 1) := by decide +kernel
theorem dX8_readPacked_22 : decode cX8_readPacked 22 = .ok (.invokevirtual 50, 3) := by decide +kernel
theorem dX8_readPacked_25 : decode cX8_readPacked 25 = .ok (.aload_n 0, 1) := by decide +kernel
theorem dX8_readPacked_26 : decode cX8_readPacked 26 = .ok (.getfield 15, 3) := by decide +kernel
theorem dX8_readPacked_29 : decode cX8_readPacked 29 = .ok (.istore 5, 2) := by decide +kernel
theorem dX8_readPacked_31 : decode cX8_readPacked 31 = .ok (.aload_n 0, 1) := by decide +kernel
theorem dX8_readPacked_32 : decode cX8_readPacked 32 = .ok (.aload_n 1, 1) := by decide +kernel
theorem dX8_readPacked_33 : decode cX8_readPacked 33 = .ok (.bipush 10, 2) := by decide +kernel
theorem dX8_readPacked_35 : decode cX8_readPacked 35 = .ok (.invokevirtual 53, 3) := by decide +kernel
theorem dX8_readPacked_38 : decode cX8_readPacked 38 = .ok (.istore 6, 2) := by decide +kernel
theorem dX8_readPacked_40 : decode cX8_readPacked 40 = .ok (.iload 6, 2) := by decide +kernel
theorem dX8_readPacked_42 : decode cX8_readPacked 42 = .ok (.ifCond .ge 6, 3) := by decide +kernel
theorem dX8_readPacked_45 : decode cX8_readPacked 45 = .ok (.iload 6, 2) := by decide +kernel
theorem dX8_readPacked_47 : decode cX8_readPacked 47 = .ok (.ireturn, 1) := by decide +kernel
theorem dX8_readPacked_48 : decode cX8_readPacked 48 = .ok (.iload 6, 2) := by decide +kernel
theorem dX8_readPacked_50 : decode cX8_readPacked 50 = .ok (.sipush 600, 3) := by decide +kernel
theorem dX8_readPacked_53 : decode cX8_readPacked 53 = .ok (.if_icmp .le 12, 3) := by decide +kernel
theorem dX8_readPacked_56 : decode cX8_readPacked 56 = .ok (.aload_n 0, 1) := by decide +kernel
theorem dX8_readPacked_57 : decode cX8_readPacked 57 = .ok (.bipush (-9), 2) := by decide +kernel
theorem dX8_readPacked_59 : decode cX8_readPacked 59 = .ok (.iload 5, 2) := by decide +kernel
theorem dX8_readPacked_61 : decode cX8_readPacked 61 = .ok (.invokevirtual 30, 3) := by decide +kernel
theorem dX8_readPacked_64 : decode cX8_readPacked 64 = .ok (.ireturn, 1) := by decide +kernel
theorem dX8_readPacked_65 : decode cX8_readPacked 65 = .ok (.aload_n 3, 1) := by decide +kernel
theorem dX8_readPacked_66 : decode cX8_readPacked 66 = .ok (.iconst 0, 1) := by decide +kernel
theorem dX8_readPacked_67 : decode cX8_readPacked 67 = .ok (.putfield 18, 3) := by decide +kernel
theorem dX8_readPacked_70 : decode cX8_readPacked 70 = .ok (.iconst 0, 1) := by decide +kernel
theorem dX8_readPacked_71 : decode cX8_readPacked 71 = .ok (.istore 7, 2) := by decide +kernel
theorem dX8_readPacked_73 : decode cX8_readPacked 73 = .ok (.iload 7, 2) := by decide +kernel
theorem dX8_readPacked_75 : decode cX8_readPacked 75 = .ok (.iload 6, 2) := by decide +kernel
theorem dX8_readPacked_77 : decode cX8_readPacked 77 = .ok (.if_icmp .ge 31, 3) := by decide +kernel
theorem dX8_readPacked_80 : decode cX8_readPacked 80 = .ok (.aload_n 0, 1) := by decide +kernel
theorem dX8_readPacked_81 : decode cX8_readPacked 81 = .ok (.aload_n 1, 1) := by decide +kernel
theorem dX8_readPacked_82 : decode cX8_readPacked 82 = .ok (.aload_n 2, 1) := by decide +kernel
theorem dX8_readPacked_83 : decode cX8_readPacked 83 = .ok (.invokevirtual 26, 3) := by decide +kernel
theorem dX8_readPacked_86 : decode cX8_readPacked 86 = .ok (.istore 8, 2) := by decide +kernel
theorem dX8_readPacked_88 : decode cX8_readPacked 88 = .ok (.iload 8, 2) := by decide +kernel
theorem dX8_readPacked_90 : decode cX8_readPacked 90 = .ok (.ifCond .ge 6, 3) := by decide +kernel
theorem dX8_readPacked_93 : decode cX8_readPacked 93 = .ok (.iload 8, 2) := by decide +kernel
theorem dX8_readPacked_95 : decode cX8_readPacked 95 = .ok (.ireturn, 1) := by decide +kernel
theorem dX8_readPacked_96 : decode cX8_readPacked 96 = .ok (.aload_n 3, 1) := by decide +kernel
theorem dX8_readPacked_97 : decode cX8_readPacked 97 = .ok (.iload 8, 2) := by decide +kernel
theorem dX8_readPacked_99 : decode cX8_readPacked 99 = .ok (.invokevirtual 34, 3) := by decide +kernel
theorem dX8_readPacked_102 : decode cX8_readPacked 102 = .ok (.iinc 7 1, 3) := by decide +kernel
theorem dX8_readPacked_105 : decode cX8_readPacked 105 = .ok (.goto (-32), 3) := by decide +kernel
theorem dX8_readPacked_108 : decode cX8_readPacked 108 = .ok (.aload_n 0, 1) := by decide +kernel
theorem dX8_readPacked_109 : decode cX8_readPacked 109 = .ok (.getfield 15, 3) := by decide +kernel
theorem dX8_readPacked_112 : decode cX8_readPacked 112 = .ok (.aload_n 1, 1) := by decide +kernel
theorem dX8_readPacked_113 : decode cX8_readPacked 113 = .ok (.getfield 23, 3) := by decide +kernel
theorem dX8_readPacked_116 : decode cX8_readPacked 116 = .ok (.if_icmp .ge 16, 3) := by decide +kernel
theorem dX8_readPacked_119 : decode cX8_readPacked 119 = .ok (.aload_n 0, 1) := by decide +kernel
theorem dX8_readPacked_120 : decode cX8_readPacked 120 = .ok (.bipush (-10), 2) := by decide +kernel
theorem dX8_readPacked_122 : decode cX8_readPacked 122 = .ok (.aload_n 0, 1) := by decide +kernel
theorem dX8_readPacked_123 : decode cX8_readPacked 123 = .ok (.getfield 15, 3) := by decide +kernel
theorem dX8_readPacked_126 : decode cX8_readPacked 126 = .ok (.invokevirtual 30, 3) := by decide +kernel
theorem dX8_readPacked_129 : decode cX8_readPacked 129 = .ok (.goto 5, 3) := by decide +kernel
theorem dX8_readPacked_132 : decode cX8_readPacked 132 = .ok (.iload 6, 2) := by decide +kernel
theorem dX8_readPacked_134 : decode cX8_readPacked 134 = .ok (.ireturn, 1) := by decide +kernel
set_option maxRecDepth 20000 in
theorem ggX8_readTable_X8_readNumber : GoodIn wsX8_readTable wsX8_readNumber := goodIn_r _ [6, 1, 7, 8, 9, 5, 10, 11, 12, 13, 14, 15, 16, 17, 18, 62, 63, 64, 65, 60, 61] (by decide +kernel) (by decide +kernel)
set_option maxRecDepth 20000 in
theorem gX8_readTable_X8_readNumber : GoodIn wsX8_readTable (wsV RX8 53 RX8 yX8_readNumber wsX8_readNumber) := goodIn_app (goodIn_of _ (by decide +kernel)) ggX8_readTable_X8_readNumber
set_option maxRecDepth 20000 in
theorem ggX8_readTable_X8_fail : GoodIn wsX8_readTable wsX8_fail := goodIn_r _ [10, 11, 60, 61] (by decide +kernel) (by decide +kernel)
set_option maxRecDepth 20000 in
theorem gX8_readTable_X8_fail : GoodIn wsX8_readTable (wsV RX8 30 RX8 yX8_fail wsX8_fail) := goodIn_app (goodIn_of _ (by decide +kernel)) ggX8_readTable_X8_fail
set_option maxRecDepth 20000 in
theorem ggX8_readTable_X8_readLengths : GoodIn wsX8_readTable wsX8_readLengths := goodIn_r _ [22, 1, 23, 24, 25, 26, 2, 3, 4, 5, 6, 7, 8, 9, 10, 11, 12, 13, 14, 15, 16, 17, 18, 51, 52, 53, 54, 55, 56, 57, 58, 59, 60, 61, 62, 63, 64, 65] (by decide +kernel) (by decide +kernel)
set_option maxRecDepth 20000 in
theorem gX8_readTable_X8_readLengths : GoodIn wsX8_readTable (wsV RX8 64 RX8 yX8_readLengths wsX8_readLengths) := goodIn_app (goodIn_of _ (by decide +kernel)) ggX8_readTable_X8_readLengths
set_option maxRecDepth 20000 in
theorem ggX8_readTable_X10_isRight : GoodIn wsX8_readTable wsX10_isRight := goodIn_r _ [31, 32, 33, 34, 35, 36, 30, 37, 38, 39, 40, 41, 42, 43, 44, 45, 46, 47, 48, 49, 50, 51, 52, 53, 54, 55, 56, 57, 58, 59] (by decide +kernel) (by decide +kernel)
set_option maxRecDepth 20000 in
theorem gX8_readTable_X10_isRight : GoodIn wsX8_readTable (wsV RX8 67 RX10 yX10_isRight wsX10_isRight) := goodIn_app (goodIn_of _ (by decide +kernel)) ggX8_readTable_X10_isRight
theorem dX8_readTable_0 : decode cX8_readTable 0 = .ok (.aload_n 0, 1) := by decide +kernel
theorem dX8_readTable_1 : decode cX8_readTable 1 = .ok (.aload_n 1, 1) := by decide +kernel
theorem dX8_readTable_2 : decode cX8_readTable 2 = .ok (.bipush 7, 2) := by decide +kernel
theorem dX8_readTable_4 : decode cX8_readTable 4 = .ok (.invokevirtual 53, 3) := by decide +kernel
theorem dX8_readTable_7 : decode cX8_readTable 7 = .ok (.istore_n 3, 1) := by decide +kernel
theorem dX8_readTable_8 : decode cX8_readTable 8 = .ok (.iload_n 3, 1) := by decide +kernel
theorem dX8_readTable_9 : decode cX8_readTable 9 = .ok (.ifCond .ge 5, 3) := by decide +kernel
theorem dX8_readTable_12 : decode cX8_readTable 12 = .ok (.iload_n 3, 1) := by decide +kernel
theorem dX8_readTable_13 : decode cX8_readTable 13 = .ok (.ireturn, 1) := by decide +kernel
theorem dX8_readTable_14 : decode cX8_readTable 14 = .ok (.iload_n 3, 1) := by decide +kernel
theorem dX8_readTable_15 : decode cX8_readTable 15 = .ok (.aload_n 2, 1) := by decide +kernel
theorem dX8_readTable_16 : decode cX8_readTable 16 = .ok (.getfield 57, 3) := by decide +kernel
theorem dX8_readTable_19 : decode cX8_readTable 19 = .ok (.iconst 1, 1) := by decide +kernel
theorem dX8_readTable_20 : decode cX8_readTable 20 = .ok (.isub, 1) := by decide +kernel
theorem dX8_readTable_21 : decode cX8_readTable 21 = .ok (.if_icmp .eq 11, 3) := by decide +kernel
theorem dX8_readTable_24 : decode cX8_readTable 24 = .ok (.aload_n 0, 1) := by decide +kernel
theorem dX8_readTable_25 : decode cX8_readTable 25 = .ok (.bipush (-5), 2) := by decide +kernel
theorem dX8_readTable_27 : decode cX8_readTable 27 = .ok (.iconst 0, 1) := by decide +kernel
theorem dX8_readTable_28 : decode cX8_readTable 28 = .ok (.invokevirtual 30, 3) := by decide +kernel
theorem dX8_readTable_31 : decode cX8_readTable 31 = .ok (.ireturn, 1) := by decide +kernel
theorem dX8_readTable_32 : decode cX8_readTable 32 = .ok (.aload_n 0, 1) := by decide +kernel
theorem dX8_readTable_33 : decode cX8_readTable 33 = .ok (.aload_n 1, 1) := by decide +kernel
theorem dX8_readTable_34 : decode cX8_readTable 34 = .ok (.iconst 1, 1) := by decide +kernel
theorem dX8_readTable_35 : decode cX8_readTable 35 = .ok (.invokevirtual 53, 3) := by decide +kernel
theorem dX8_readTable_38 : decode cX8_readTable 38 = .ok (.istore 4, 2) := by decide +kernel
theorem dX8_readTable_40 : decode cX8_readTable 40 = .ok (.iload 4, 2) := by decide +kernel
theorem dX8_readTable_42 : decode cX8_readTable 42 = .ok (.ifCond .ge 6, 3) := by decide +kernel
theorem dX8_readTable_45 : decode cX8_readTable 45 = .ok (.iload 4, 2) := by decide +kernel
theorem dX8_readTable_47 : decode cX8_readTable 47 = .ok (.ireturn, 1) := by decide +kernel
theorem dX8_readTable_48 : decode cX8_readTable 48 = .ok (.aload_n 2, 1) := by decide +kernel
theorem dX8_readTable_49 : decode cX8_readTable 49 = .ok (.iload 4, 2) := by decide +kernel
theorem dX8_readTable_51 : decode cX8_readTable 51 = .ok (.iconst 1, 1) := by decide +kernel
theorem dX8_readTable_52 : decode cX8_readTable 52 = .ok (.if_icmp .ne 7, 3) := by decide +kernel
theorem dX8_readTable_55 : decode cX8_readTable 55 = .ok (.iconst 1, 1) := by decide +kernel
theorem dX8_readTable_56 : decode cX8_readTable 56 = .ok (.goto 4, 3) := by decide +kernel
theorem dX8_readTable_59 : decode cX8_readTable 59 = .ok (.iconst 0, 1) := by decide +kernel
theorem dX8_readTable_60 : decode cX8_readTable 60 = .ok (.putfield 60, 3) := by decide +kernel
theorem dX8_readTable_63 : decode cX8_readTable 63 = .ok (.aload_n 0, 1) := by decide +kernel
theorem dX8_readTable_64 : decode cX8_readTable 64 = .ok (.aload_n 1, 1) := by decide +kernel
theorem dX8_readTable_65 : decode cX8_readTable 65 = .ok (.aload_n 2, 1) := by decide +kernel
theorem dX8_readTable_66 : decode cX8_readTable 66 = .ok (.invokevirtual 64, 3) := by decide +kernel
theorem dX8_readTable_69 : decode cX8_readTable 69 = .ok (.istore 5, 2) := by decide +kernel
theorem dX8_readTable_71 : decode cX8_readTable 71 = .ok (.iload 5, 2) := by decide +kernel
theorem dX8_readTable_73 : decode cX8_readTable 73 = .ok (.ifCond .ge 6, 3) := by decide +kernel
theorem dX8_readTable_76 : decode cX8_readTable 76 = .ok (.iload 5, 2) := by decide +kernel
theorem dX8_readTable_78 : decode cX8_readTable 78 = .ok (.ireturn, 1) := by decide +kernel
theorem dX8_readTable_79 : decode cX8_readTable 79 = .ok (.aload_n 2, 1) := by decide +kernel
theorem dX8_readTable_80 : decode cX8_readTable 80 = .ok (.invokevirtual 67, 3) := by decide +kernel
theorem dX8_readTable_83 : decode cX8_readTable 83 = .ok (.ifCond .eq 7, 3) := by decide +kernel
theorem dX8_readTable_86 : decode cX8_readTable 86 = .ok (.iconst 0, 1) := by decide +kernel
theorem dX8_readTable_87 : decode cX8_readTable 87 = .ok (.goto 13, 3) := by decide +kernel
theorem dX8_readTable_90 : decode cX8_readTable 90 = .ok (.aload_n 0, 1) := by decide +kernel
theorem dX8_readTable_91 : decode cX8_readTable 91 = .ok (.bipush (-8), 2) := by decide +kernel
theorem dX8_readTable_93 : decode cX8_readTable 93 = .ok (.aload_n 0, 1) := by decide +kernel
theorem dX8_readTable_94 : decode cX8_readTable 94 = .ok (.getfield 15, 3) := by decide +kernel
theorem dX8_readTable_97 : decode cX8_readTable 97 = .ok (.invokevirtual 30, 3) := by decide +kernel
theorem dX8_readTable_100 : decode cX8_readTable 100 = .ok (.ireturn, 1) := by decide +kernel
set_option maxRecDepth 20000 in
theorem ggX8_readLengths_J7_fill_53178 : GoodIn wsX8_readLengths wsJ7_fill_53178 := goodIn_r _ [5] (by decide +kernel) (by decide +kernel)
set_option maxRecDepth 20000 in
theorem gX8_readLengths_J7_fill_53178 : GoodIn wsX8_readLengths (va_wsS RX8 75 yJ7_fill_53178 wsJ7_fill_53178) := goodIn_app (goodIn_of _ (by decide +kernel)) ggX8_readLengths_J7_fill_53178
set_option maxRecDepth 20000 in
theorem ggX8_readLengths_X8_readNumber : GoodIn wsX8_readLengths wsX8_readNumber := goodIn_r _ [10, 1, 11, 12, 13, 9, 14, 15, 16, 17, 18, 19, 20, 21, 22, 34, 35, 36, 37, 32, 33] (by decide +kernel) (by decide +kernel)
set_option maxRecDepth 20000 in
theorem gX8_readLengths_X8_readNumber : GoodIn wsX8_readLengths (wsV RX8 53 RX8 yX8_readNumber wsX8_readNumber) := goodIn_app (goodIn_of _ (by decide +kernel)) ggX8_readLengths_X8_readNumber
set_option maxRecDepth 20000 in
theorem ggX8_readLengths_X8_fail : GoodIn wsX8_readLengths wsX8_fail := goodIn_r _ [14, 15, 32, 33] (by decide +kernel) (by decide +kernel)
set_option maxRecDepth 20000 in
theorem gX8_readLengths_X8_fail : GoodIn wsX8_readLengths (wsV RX8 30 RX8 yX8_fail wsX8_fail) := goodIn_app (goodIn_of _ (by decide +kernel)) ggX8_readLengths_X8_fail
theorem dX8_readLengths_0 : decode cX8_readLengths 0 = .ok (.aload_n 2, 1) := by decide +kernel
theorem dX8_readLengths_1 : decode cX8_readLengths 1 = .ok (.getfield 71, 3) := by decide +kernel
theorem dX8_readLengths_4 : decode cX8_readLengths 4 = .ok (.iconst 0, 1) := by decide +kernel
theorem dX8_readLengths_5 : decode cX8_readLengths 5 = .ok (.invokestatic 75, 3) := by decide +kernel
theorem dX8_readLengths_8 : decode cX8_readLengths 8 = .ok (.iconst 0, 1) := by decide +kernel
theorem dX8_readLengths_9 : decode cX8_readLengths 9 = .ok (.istore_n 3, 1) := by decide +kernel
theorem dX8_readLengths_10 : decode cX8_readLengths 10 = .ok (.iload_n 3, 1) := by decide +kernel
theorem dX8_readLengths_11 : decode cX8_readLengths 11 = .ok (.aload_n 2, 1) := by decide +kernel
theorem dX8_readLengths_12 : decode cX8_readLengths 12 = .ok (.getfield 57, 3) := by decide +kernel
theorem dX8_readLengths_15 : decode cX8_readLengths 15 = .ok (.if_icmp .ge 108, 3) := by decide +kernel
theorem dX8_readLengths_18 : decode cX8_readLengths 18 = .ok (.aload_n 0, 1) := by decide +kernel
theorem dX8_readLengths_19 : decode cX8_readLengths 19 = .ok (.getfield 15, 3) := by decide +kernel
theorem dX8_readLengths_22 : decode cX8_readLengths 22 = .ok (.istore 4, 2) := by decide +kernel
theorem dX8_readLengths_24 : decode cX8_readLengths 24 = .ok (.aload_n 0, 1) := by decide +kernel
theorem dX8_readLengths_25 : decode cX8_readLengths 25 = .ok (.aload_n 1, 1) := by decide +kernel
theorem dX8_readLengths_26 : decode cX8_readLengths 26 = .ok (.iconst 5, 1) := by decide +kernel
theorem dX8_readLengths_27 : decode cX8_readLengths 27 = .ok (.invokevirtual 53, 3) := by decide +kernel
theorem dX8_readLengths_30 : decode cX8_readLengths 30 = .ok (.istore 5, 2) := by decide +kernel
theorem dX8_readLengths_32 : decode cX8_readLengths 32 = .ok (.iload 5, 2) := by decide +kernel
theorem dX8_readLengths_34 : decode cX8_readLengths 34 = .ok (.ifCond .ge 6, 3) := by decide +kernel
theorem dX8_readLengths_37 : decode cX8_readLengths 37 = .ok (.iload 5, 2) := by decide +kernel
theorem dX8_readLengths_39 : decode cX8_readLengths 39 = .ok (.ireturn, 1) := by decide +kernel
theorem dX8_readLengths_40 : decode cX8_readLengths 40 = .ok (.iload 5, 2) := by decide +kernel
theorem dX8_readLengths_42 : decode cX8_readLengths 42 = .ok (.bipush 31, 2) := by decide +kernel
theorem dX8_readLengths_44 : decode cX8_readLengths 44 = .ok (.if_icmp .ne 47, 3) := by decide +kernel
theorem dX8_readLengths_47 : decode cX8_readLengths 47 = .ok (.aload_n 0, 1) := by decide +kernel
theorem dX8_readLengths_48 : decode cX8_readLengths 48 = .ok (.aload_n 1, 1) := by decide +kernel
theorem dX8_readLengths_49 : decode cX8_readLengths 49 = .ok (.bipush 6, 2) := by decide +kernel
theorem dX8_readLengths_51 : decode cX8_readLengths 51 = .ok (.invokevirtual 53, 3) := by decide +kernel
theorem dX8_readLengths_54 : decode cX8_readLengths 54 = .ok (.istore 6, 2) := by decide +kernel
theorem dX8_readLengths_56 : decode cX8_readLengths 56 = .ok (.iload 6, 2) := by decide +kernel
theorem dX8_readLengths_58 : decode cX8_readLengths 58 = .ok (.ifCond .ge 6, 3) := by decide +kernel
theorem dX8_readLengths_61 : decode cX8_readLengths 61 = .ok (.iload 6, 2) := by decide +kernel
theorem dX8_readLengths_63 : decode cX8_readLengths 63 = .ok (.ireturn, 1) := by decide +kernel
theorem dX8_readLengths_64 : decode cX8_readLengths 64 = .ok (.iload_n 3, 1) := by decide +kernel
theorem dX8_readLengths_65 : decode cX8_readLengths 65 = .ok (.iload 6, 2) := by decide +kernel
theorem dX8_readLengths_67 : decode cX8_readLengths 67 = .ok (.iconst 3, 1) := by decide +kernel
theorem dX8_readLengths_68 : decode cX8_readLengths 68 = .ok (.iadd, 1) := by decide +kernel
theorem dX8_readLengths_69 : decode cX8_readLengths 69 = .ok (.iadd, 1) := by decide +kernel
theorem dX8_readLengths_70 : decode cX8_readLengths 70 = .ok (.istore_n 3, 1) := by decide +kernel
theorem dX8_readLengths_71 : decode cX8_readLengths 71 = .ok (.iload_n 3, 1) := by decide +kernel
theorem dX8_readLengths_72 : decode cX8_readLengths 72 = .ok (.aload_n 2, 1) := by decide +kernel
theorem dX8_readLengths_73 : decode cX8_readLengths 73 = .ok (.getfield 57, 3) := by decide +kernel
theorem dX8_readLengths_76 : decode cX8_readLengths 76 = .ok (.if_icmp .le 12, 3) := by decide +kernel
theorem dX8_readLengths_79 : decode cX8_readLengths 79 = .ok (.aload_n 0, 1) := by decide +kernel
theorem dX8_readLengths_80 : decode cX8_readLengths 80 = .ok (.bipush (-7), 2) := by decide +kernel
theorem dX8_readLengths_82 : decode cX8_readLengths 82 = .ok (.iload 4, 2) := by decide +kernel
theorem dX8_readLengths_84 : decode cX8_readLengths 84 = .ok (.invokevirtual 30, 3) := by decide +kernel
theorem dX8_readLengths_87 : decode cX8_readLengths 87 = .ok (.ireturn, 1) := by decide +kernel
theorem dX8_readLengths_88 : decode cX8_readLengths 88 = .ok (.goto 32, 3) := by decide +kernel
theorem dX8_readLengths_91 : decode cX8_readLengths 91 = .ok (.iload 5, 2) := by decide +kernel
theorem dX8_readLengths_93 : decode cX8_readLengths 93 = .ok (.aload_n 2, 1) := by decide +kernel
theorem dX8_readLengths_94 : decode cX8_readLengths 94 = .ok (.getfield 81, 3) := by decide +kernel
theorem dX8_readLengths_97 : decode cX8_readLengths 97 = .ok (.if_icmp .le 12, 3) := by decide +kernel
theorem dX8_readLengths_100 : decode cX8_readLengths 100 = .ok (.aload_n 0, 1) := by decide +kernel
theorem dX8_readLengths_101 : decode cX8_readLengths 101 = .ok (.bipush (-6), 2) := by decide +kernel
theorem dX8_readLengths_103 : decode cX8_readLengths 103 = .ok (.iload 4, 2) := by decide +kernel
theorem dX8_readLengths_105 : decode cX8_readLengths 105 = .ok (.invokevirtual 30, 3) := by decide +kernel
theorem dX8_readLengths_108 : decode cX8_readLengths 108 = .ok (.ireturn, 1) := by decide +kernel
theorem dX8_readLengths_109 : decode cX8_readLengths 109 = .ok (.aload_n 2, 1) := by decide +kernel
theorem dX8_readLengths_110 : decode cX8_readLengths 110 = .ok (.getfield 71, 3) := by decide +kernel
theorem dX8_readLengths_113 : decode cX8_readLengths 113 = .ok (.iload_n 3, 1) := by decide +kernel
theorem dX8_readLengths_114 : decode cX8_readLengths 114 = .ok (.iload 5, 2) := by decide +kernel
theorem dX8_readLengths_116 : decode cX8_readLengths 116 = .ok (.iastore, 1) := by decide +kernel
theorem dX8_readLengths_117 : decode cX8_readLengths 117 = .ok (.iinc 3 1, 3) := by decide +kernel
theorem dX8_readLengths_120 : decode cX8_readLengths 120 = .ok (.goto (-110), 3) := by decide +kernel
theorem dX8_readLengths_123 : decode cX8_readLengths 123 = .ok (.iconst 0, 1) := by decide +kernel
theorem dX8_readLengths_124 : decode cX8_readLengths 124 = .ok (.ireturn, 1) := by decide +kernel
