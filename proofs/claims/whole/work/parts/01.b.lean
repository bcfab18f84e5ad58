theorem dX0_init_0 : decode cX0_init 0 = .ok (.aload_n 0, 1) := by decide +kernel
theorem dX0_init_1 : decode cX0_init 1 = .ok (.invokespecial 3, 3) := by decide +kernel
theorem dX0_init_4 : decode cX0_init 4 = .ok (.aload_n 0, 1) := by decide +kernel
theorem dX0_init_5 : decode cX0_init 5 = .ok (.iload_n 1, 1) := by decide +kernel
theorem dX0_init_6 : decode cX0_init 6 = .ok (.putfield 9, 3) := by decide +kernel
theorem dX0_init_9 : decode cX0_init 9 = .ok (.aload_n 0, 1) := by decide +kernel
theorem dX0_init_10 : decode cX0_init 10 = .ok (.iload_n 1, 1) := by decide +kernel
theorem dX0_init_11 : decode cX0_init 11 = .ok (.bipush 31, 2) := by decide +kernel
theorem dX0_init_13 : decode cX0_init 13 = .ok (.iadd, 1) := by decide +kernel
theorem dX0_init_14 : decode cX0_init 14 = .ok (.bipush 32, 2) := by decide +kernel
theorem dX0_init_16 : decode cX0_init 16 = .ok (.idiv, 1) := by decide +kernel
theorem dX0_init_17 : decode cX0_init 17 = .ok (.newarray .int, 2) := by decide +kernel
theorem dX0_init_19 : decode cX0_init 19 = .ok (.putfield 15, 3) := by decide +kernel
theorem dX0_init_22 : decode cX0_init 22 = .ok (.return_, 1) := by decide +kernel
theorem dX0_restart_0 : decode cX0_restart 0 = .ok (.aload_n 0, 1) := by decide +kernel
theorem dX0_restart_1 : decode cX0_restart 1 = .ok (.iconst 0, 1) := by decide +kernel
theorem dX0_restart_2 : decode cX0_restart 2 = .ok (.putfield 19, 3) := by decide +kernel
theorem dX0_restart_5 : decode cX0_restart 5 = .ok (.aload_n 0, 1) := by decide +kernel
theorem dX0_restart_6 : decode cX0_restart 6 = .ok (.iconst 0, 1) := by decide +kernel
theorem dX0_restart_7 : decode cX0_restart 7 = .ok (.putfield 22, 3) := by decide +kernel
theorem dX0_restart_10 : decode cX0_restart 10 = .ok (.return_, 1) := by decide +kernel
theorem dX0_get_0 : decode cX0_get 0 = .ok (.iload_n 1, 1) := by decide +kernel
theorem dX0_get_1 : decode cX0_get 1 = .ok (.ifCond .lt 29, 3) := by decide +kernel
theorem dX0_get_4 : decode cX0_get 4 = .ok (.iload_n 1, 1) := by decide +kernel
theorem dX0_get_5 : decode cX0_get 5 = .ok (.aload_n 0, 1) := by decide +kernel
theorem dX0_get_6 : decode cX0_get 6 = .ok (.getfield 19, 3) := by decide +kernel
theorem dX0_get_9 : decode cX0_get 9 = .ok (.if_icmp .ge 21, 3) := by decide +kernel
theorem dX0_get_12 : decode cX0_get 12 = .ok (.aload_n 0, 1) := by decide +kernel
theorem dX0_get_13 : decode cX0_get 13 = .ok (.getfield 15, 3) := by decide +kernel
theorem dX0_get_16 : decode cX0_get 16 = .ok (.iload_n 1, 1) := by decide +kernel
theorem dX0_get_17 : decode cX0_get 17 = .ok (.iconst 5, 1) := by decide +kernel
theorem dX0_get_18 : decode cX0_get 18 = .ok (.ishr, 1) := by decide +kernel
theorem dX0_get_19 : decode cX0_get 19 = .ok (.iaload, 1) := by decide +kernel
theorem dX0_get_20 : decode cX0_get 20 = .ok (.iload_n 1, 1) := by decide +kernel
theorem dX0_get_21 : decode cX0_get 21 = .ok (.bipush 31, 2) := by decide +kernel
theorem dX0_get_23 : decode cX0_get 23 = .ok (.iand, 1) := by decide +kernel
theorem dX0_get_24 : decode cX0_get 24 = .ok (.iushr, 1) := by decide +kernel
theorem dX0_get_25 : decode cX0_get 25 = .ok (.iconst 1, 1) := by decide +kernel
theorem dX0_get_26 : decode cX0_get 26 = .ok (.iand, 1) := by decide +kernel
theorem dX0_get_27 : decode cX0_get 27 = .ok (.goto 4, 3) := by decide +kernel
theorem dX0_get_30 : decode cX0_get 30 = .ok (.iconst (-1), 1) := by decide +kernel
theorem dX0_get_31 : decode cX0_get 31 = .ok (.ireturn, 1) := by decide +kernel
theorem dX0_set_0 : decode cX0_set 0 = .ok (.iload_n 1, 1) := by decide +kernel
theorem dX0_set_1 : decode cX0_set 1 = .ok (.ifCond .lt 11, 3) := by decide +kernel
theorem dX0_set_4 : decode cX0_set 4 = .ok (.iload_n 1, 1) := by decide +kernel
theorem dX0_set_5 : decode cX0_set 5 = .ok (.aload_n 0, 1) := by decide +kernel
theorem dX0_set_6 : decode cX0_set 6 = .ok (.getfield 19, 3) := by decide +kernel
theorem dX0_set_9 : decode cX0_set 9 = .ok (.if_icmp .lt 4, 3) := by decide +kernel
theorem dX0_set_12 : decode cX0_set 12 = .ok (.return_, 1) := by decide +kernel
theorem dX0_set_13 : decode cX0_set 13 = .ok (.iconst 1, 1) := by decide +kernel
theorem dX0_set_14 : decode cX0_set 14 = .ok (.iload_n 1, 1) := by decide +kernel
theorem dX0_set_15 : decode cX0_set 15 = .ok (.bipush 31, 2) := by decide +kernel
theorem dX0_set_17 : decode cX0_set 17 = .ok (.iand, 1) := by decide +kernel
theorem dX0_set_18 : decode cX0_set 18 = .ok (.ishl, 1) := by decide +kernel
theorem dX0_set_19 : decode cX0_set 19 = .ok (.istore_n 3, 1) := by decide +kernel
theorem dX0_set_20 : decode cX0_set 20 = .ok (.aload_n 0, 1) := by decide +kernel
theorem dX0_set_21 : decode cX0_set 21 = .ok (.getfield 15, 3) := by decide +kernel
theorem dX0_set_24 : decode cX0_set 24 = .ok (.iload_n 1, 1) := by decide +kernel
theorem dX0_set_25 : decode cX0_set 25 = .ok (.iconst 5, 1) := by decide +kernel
theorem dX0_set_26 : decode cX0_set 26 = .ok (.ishr, 1) := by decide +kernel
theorem dX0_set_27 : decode cX0_set 27 = .ok (.iload_n 2, 1) := by decide +kernel
theorem dX0_set_28 : decode cX0_set 28 = .ok (.iconst 1, 1) := by decide +kernel
theorem dX0_set_29 : decode cX0_set 29 = .ok (.if_icmp .ne 16, 3) := by decide +kernel
theorem dX0_set_32 : decode cX0_set 32 = .ok (.aload_n 0, 1) := by decide +kernel
theorem dX0_set_33 : decode cX0_set 33 = .ok (.getfield 15, 3) := by decide +kernel
theorem dX0_set_36 : decode cX0_set 36 = .ok (.iload_n 1, 1) := by decide +kernel
theorem dX0_set_37 : decode cX0_set 37 = .ok (.iconst 5, 1) := by decide +kernel
theorem dX0_set_38 : decode cX0_set 38 = .ok (.ishr, 1) := by decide +kernel
theorem dX0_set_39 : decode cX0_set 39 = .ok (.iaload, 1) := by decide +kernel
theorem dX0_set_40 : decode cX0_set 40 = .ok (.iload_n 3, 1) := by decide +kernel
theorem dX0_set_41 : decode cX0_set 41 = .ok (.ior, 1) := by decide +kernel
theorem dX0_set_42 : decode cX0_set 42 = .ok (.goto 15, 3) := by decide +kernel
theorem dX0_set_45 : decode cX0_set 45 = .ok (.aload_n 0, 1) := by decide +kernel
theorem dX0_set_46 : decode cX0_set 46 = .ok (.getfield 15, 3) := by decide +kernel
theorem dX0_set_49 : decode cX0_set 49 = .ok (.iload_n 1, 1) := by decide +kernel
theorem dX0_set_50 : decode cX0_set 50 = .ok (.iconst 5, 1) := by decide +kernel
theorem dX0_set_51 : decode cX0_set 51 = .ok (.ishr, 1) := by decide +kernel
theorem dX0_set_52 : decode cX0_set 52 = .ok (.iaload, 1) := by decide +kernel
theorem dX0_set_53 : decode cX0_set 53 = .ok (.iload_n 3, 1) := by decide +kernel
theorem dX0_set_54 : decode cX0_set 54 = .ok (.iconst (-1), 1) := by decide +kernel
theorem dX0_set_55 : decode cX0_set 55 = .ok (.ixor, 1) := by decide +kernel
theorem dX0_set_56 : decode cX0_set 56 = .ok (.iand, 1) := by decide +kernel
theorem dX0_set_57 : decode cX0_set 57 = .ok (.iastore, 1) := by decide +kernel
theorem dX0_set_58 : decode cX0_set 58 = .ok (.return_, 1) := by decide +kernel
set_option maxRecDepth 20000 in
theorem ggX0_add_X0_set : GoodIn wsX0_add wsX0_set := goodIn_r _ [8, 1, 9, 10, 11, 12, 13] (by decide +kernel) (by decide +kernel)
set_option maxRecDepth 20000 in
theorem gX0_add_X0_set : GoodIn wsX0_add (wsV RX0 26 RX0 yX0_set wsX0_set) := goodIn_app (goodIn_of _ (by decide +kernel)) ggX0_add_X0_set
theorem dX0_add_0 : decode cX0_add 0 = .ok (.aload_n 0, 1) := by decide +kernel
theorem dX0_add_1 : decode cX0_add 1 = .ok (.getfield 19, 3) := by decide +kernel
theorem dX0_add_4 : decode cX0_add 4 = .ok (.aload_n 0, 1) := by decide +kernel
theorem dX0_add_5 : decode cX0_add 5 = .ok (.getfield 9, 3) := by decide +kernel
theorem dX0_add_8 : decode cX0_add 8 = .ok (.if_icmp .lt 9, 3) := by decide +kernel
theorem dX0_add_11 : decode cX0_add 11 = .ok (.aload_n 0, 1) := by decide +kernel
theorem dX0_add_12 : decode cX0_add 12 = .ok (.iconst 1, 1) := by decide +kernel
theorem dX0_add_13 : decode cX0_add 13 = .ok (.putfield 22, 3) := by decide +kernel
theorem dX0_add_16 : decode cX0_add 16 = .ok (.return_, 1) := by decide +kernel
theorem dX0_add_17 : decode cX0_add 17 = .ok (.aload_n 0, 1) := by decide +kernel
theorem dX0_add_18 : decode cX0_add 18 = .ok (.dup, 1) := by decide +kernel
theorem dX0_add_19 : decode cX0_add 19 = .ok (.getfield 19, 3) := by decide +kernel
theorem dX0_add_22 : decode cX0_add 22 = .ok (.iconst 1, 1) := by decide +kernel
theorem dX0_add_23 : decode cX0_add 23 = .ok (.iadd, 1) := by decide +kernel
theorem dX0_add_24 : decode cX0_add 24 = .ok (.putfield 19, 3) := by decide +kernel
theorem dX0_add_27 : decode cX0_add 27 = .ok (.aload_n 0, 1) := by decide +kernel
theorem dX0_add_28 : decode cX0_add 28 = .ok (.aload_n 0, 1) := by decide +kernel
theorem dX0_add_29 : decode cX0_add 29 = .ok (.getfield 19, 3) := by decide +kernel
theorem dX0_add_32 : decode cX0_add 32 = .ok (.iconst 1, 1) := by decide +kernel
theorem dX0_add_33 : decode cX0_add 33 = .ok (.isub, 1) := by decide +kernel
theorem dX0_add_34 : decode cX0_add 34 = .ok (.iload_n 1, 1) := by decide +kernel
theorem dX0_add_35 : decode cX0_add 35 = .ok (.invokevirtual 26, 3) := by decide +kernel
theorem dX0_add_38 : decode cX0_add 38 = .ok (.return_, 1) := by decide +kernel
set_option maxRecDepth 20000 in
theorem ggX0_addNumber_X0_add : GoodIn wsX0_addNumber wsX0_add := goodIn_r _ [5, 6, 7, 8, 9, 10, 11, 4, 12, 13, 14, 15, 16, 17] (by decide +kernel) (by decide +kernel)
set_option maxRecDepth 20000 in
theorem gX0_addNumber_X0_add : GoodIn wsX0_addNumber (wsV RX0 30 RX0 yX0_add wsX0_add) := goodIn_app (goodIn_of _ (by decide +kernel)) ggX0_addNumber_X0_add
theorem dX0_addNumber_0 : decode cX0_addNumber 0 = .ok (.iload_n 2, 1) := by decide +kernel
theorem dX0_addNumber_1 : decode cX0_addNumber 1 = .ok (.iconst 1, 1) := by decide +kernel
theorem dX0_addNumber_2 : decode cX0_addNumber 2 = .ok (.isub, 1) := by decide +kernel
theorem dX0_addNumber_3 : decode cX0_addNumber 3 = .ok (.istore_n 3, 1) := by decide +kernel
theorem dX0_addNumber_4 : decode cX0_addNumber 4 = .ok (.iload_n 3, 1) := by decide +kernel
theorem dX0_addNumber_5 : decode cX0_addNumber 5 = .ok (.ifCond .lt 18, 3) := by decide +kernel
theorem dX0_addNumber_8 : decode cX0_addNumber 8 = .ok (.aload_n 0, 1) := by decide +kernel
theorem dX0_addNumber_9 : decode cX0_addNumber 9 = .ok (.iload_n 1, 1) := by decide +kernel
theorem dX0_addNumber_10 : decode cX0_addNumber 10 = .ok (.iload_n 3, 1) := by decide +kernel
theorem dX0_addNumber_11 : decode cX0_addNumber 11 = .ok (.iushr, 1) := by decide +kernel
theorem dX0_addNumber_12 : decode cX0_addNumber 12 = .ok (.iconst 1, 1) := by decide +kernel
theorem dX0_addNumber_13 : decode cX0_addNumber 13 = .ok (.iand, 1) := by decide +kernel
theorem dX0_addNumber_14 : decode cX0_addNumber 14 = .ok (.invokevirtual 30, 3) := by decide +kernel
theorem dX0_addNumber_17 : decode cX0_addNumber 17 = .ok (.iinc 3 (-1), 3) := by decide +kernel
theorem dX0_addNumber_20 : decode cX0_addNumber 20 = .ok (.goto (-16), 3) := by decide +kernel
theorem dX0_addNumber_23 : decode cX0_addNumber 23 = .ok (.return_, 1) := by decide +kernel
set_option maxRecDepth 20000 in
theorem ggX1_init_X7_init : GoodIn wsX1_init wsX7_init := goodIn_r _ [4, 5, 6, 7, 8, 9, 10, 11, 12, 13, 14, 15, 16, 17, 18] (by decide +kernel) (by decide +kernel)
set_option maxRecDepth 20000 in
theorem gX1_init_X7_init : GoodIn wsX1_init (wsX7_init) := ggX1_init_X7_init
theorem dX1_init_0 : decode cX1_init 0 = .ok (.aload_n 0, 1) := by decide +kernel
theorem dX1_init_1 : decode cX1_init 1 = .ok (.iload_n 1, 1) := by decide +kernel
theorem dX1_init_2 : decode cX1_init 2 = .ok (.invokespecial 1, 3) := by decide +kernel
theorem dX1_init_5 : decode cX1_init 5 = .ok (.return_, 1) := by decide +kernel
set_option maxRecDepth 20000 in
theorem ggX1_measure_X3_lineUpFalling : GoodIn wsX1_measure wsX3_lineUpFalling := goodIn_r _ [5, 6, 7, 8, 4, 9, 10, 11, 12, 53, 54, 55, 56, 57] (by decide +kernel) (by decide +kernel)
set_option maxRecDepth 20000 in
theorem gX1_measure_X3_lineUpFalling : GoodIn wsX1_measure (wsV RX1 7 RX3 yX3_lineUpFalling wsX3_lineUpFalling) := goodIn_app (goodIn_of _ (by decide +kernel)) ggX1_measure_X3_lineUpFalling
set_option maxRecDepth 20000 in
theorem ggX1_measure_X7_partAll : GoodIn wsX1_measure wsX7_partAll := goodIn_r _ [18, 19, 20, 21, 22, 23, 24, 25, 26, 27, 28, 29, 17, 30, 31, 32, 33, 34, 35, 36, 37, 38, 39, 40, 41, 42, 43, 44, 45, 46, 47, 48, 49, 50, 51, 52, 53, 54, 55, 56, 57, 58, 59, 60, 61, 62, 63, 64, 65] (by decide +kernel) (by decide +kernel)
set_option maxRecDepth 20000 in
theorem gX1_measure_X7_partAll_u13X1 : GoodIn wsX1_measure (va_wsU RX1 13 RX1 "PrefixSmith$Parting" ⟨"PrefixSmith$Halves", "partAll", "(LPrefixSmith$Leaves;)V"⟩ yX7_partAll wsX7_partAll) := goodIn_app (goodIn_of _ (by decide +kernel)) ggX1_measure_X7_partAll
theorem dX1_measure_0 : decode cX1_measure 0 = .ok (.aload_n 1, 1) := by decide +kernel
theorem dX1_measure_1 : decode cX1_measure 1 = .ok (.invokevirtual 7, 3) := by decide +kernel
theorem dX1_measure_4 : decode cX1_measure 4 = .ok (.aload_n 0, 1) := by decide +kernel
theorem dX1_measure_5 : decode cX1_measure 5 = .ok (.aload_n 1, 1) := by decide +kernel
theorem dX1_measure_6 : decode cX1_measure 6 = .ok (.invokevirtual 13, 3) := by decide +kernel
theorem dX1_measure_9 : decode cX1_measure 9 = .ok (.return_, 1) := by decide +kernel
theorem dX1_middle_0 : decode cX1_middle 0 = .ok (.iconst 0, 1) := by decide +kernel
theorem dX1_middle_1 : decode cX1_middle 1 = .ok (.istore 4, 2) := by decide +kernel
theorem dX1_middle_3 : decode cX1_middle 3 = .ok (.iload_n 2, 1) := by decide +kernel
theorem dX1_middle_4 : decode cX1_middle 4 = .ok (.istore 5, 2) := by decide +kernel
theorem dX1_middle_6 : decode cX1_middle 6 = .ok (.iload 5, 2) := by decide +kernel
theorem dX1_middle_8 : decode cX1_middle 8 = .ok (.iload_n 3, 1) := by decide +kernel
theorem dX1_middle_9 : decode cX1_middle 9 = .ok (.if_icmp .ge 26, 3) := by decide +kernel
theorem dX1_middle_12 : decode cX1_middle 12 = .ok (.iload 4, 2) := by decide +kernel
theorem dX1_middle_14 : decode cX1_middle 14 = .ok (.aload_n 1, 1) := by decide +kernel
theorem dX1_middle_15 : decode cX1_middle 15 = .ok (.getfield 19, 3) := by decide +kernel
theorem dX1_middle_18 : decode cX1_middle 18 = .ok (.aload_n 1, 1) := by decide +kernel
theorem dX1_middle_19 : decode cX1_middle 19 = .ok (.getfield 23, 3) := by decide +kernel
theorem dX1_middle_22 : decode cX1_middle 22 = .ok (.iload 5, 2) := by decide +kernel
theorem dX1_middle_24 : decode cX1_middle 24 = .ok (.iaload, 1) := by decide +kernel
theorem dX1_middle_25 : decode cX1_middle 25 = .ok (.iaload, 1) := by decide +kernel
theorem dX1_middle_26 : decode cX1_middle 26 = .ok (.iadd, 1) := by decide +kernel
theorem dX1_middle_27 : decode cX1_middle 27 = .ok (.istore 4, 2) := by decide +kernel
theorem dX1_middle_29 : decode cX1_middle 29 = .ok (.iinc 5 1, 3) := by decide +kernel
theorem dX1_middle_32 : decode cX1_middle 32 = .ok (.goto (-26), 3) := by decide +kernel
theorem dX1_middle_35 : decode cX1_middle 35 = .ok (.iload_n 2, 1) := by decide +kernel
theorem dX1_middle_36 : decode cX1_middle 36 = .ok (.iconst 1, 1) := by decide +kernel
theorem dX1_middle_37 : decode cX1_middle 37 = .ok (.iadd, 1) := by decide +kernel
theorem dX1_middle_38 : decode cX1_middle 38 = .ok (.istore 5, 2) := by decide +kernel
theorem dX1_middle_40 : decode cX1_middle 40 = .ok (.aload_n 1, 1) := by decide +kernel
theorem dX1_middle_41 : decode cX1_middle 41 = .ok (.getfield 19, 3) := by decide +kernel
theorem dX1_middle_44 : decode cX1_middle 44 = .ok (.aload_n 1, 1) := by decide +kernel
theorem dX1_middle_45 : decode cX1_middle 45 = .ok (.getfield 23, 3) := by decide +kernel
theorem dX1_middle_48 : decode cX1_middle 48 = .ok (.iload_n 2, 1) := by decide +kernel
theorem dX1_middle_49 : decode cX1_middle 49 = .ok (.iaload, 1) := by decide +kernel
theorem dX1_middle_50 : decode cX1_middle 50 = .ok (.iaload, 1) := by decide +kernel
theorem dX1_middle_51 : decode cX1_middle 51 = .ok (.istore 6, 2) := by decide +kernel
theorem dX1_middle_53 : decode cX1_middle 53 = .ok (.iconst 2, 1) := by decide +kernel
theorem dX1_middle_54 : decode cX1_middle 54 = .ok (.iload 6, 2) := by decide +kernel
theorem dX1_middle_56 : decode cX1_middle 56 = .ok (.imul, 1) := by decide +kernel
theorem dX1_middle_57 : decode cX1_middle 57 = .ok (.iload 4, 2) := by decide +kernel
theorem dX1_middle_59 : decode cX1_middle 59 = .ok (.if_icmp .ge 34, 3) := by decide +kernel
theorem dX1_middle_62 : decode cX1_middle 62 = .ok (.iload 5, 2) := by decide +kernel
theorem dX1_middle_64 : decode cX1_middle 64 = .ok (.iload_n 3, 1) := by decide +kernel
theorem dX1_middle_65 : decode cX1_middle 65 = .ok (.iconst 1, 1) := by decide +kernel
theorem dX1_middle_66 : decode cX1_middle 66 = .ok (.isub, 1) := by decide +kernel
theorem dX1_middle_67 : decode cX1_middle 67 = .ok (.if_icmp .ge 26, 3) := by decide +kernel
theorem dX1_middle_70 : decode cX1_middle 70 = .ok (.iload 6, 2) := by decide +kernel
theorem dX1_middle_72 : decode cX1_middle 72 = .ok (.aload_n 1, 1) := by decide +kernel
theorem dX1_middle_73 : decode cX1_middle 73 = .ok (.getfield 19, 3) := by decide +kernel
theorem dX1_middle_76 : decode cX1_middle 76 = .ok (.aload_n 1, 1) := by decide +kernel
theorem dX1_middle_77 : decode cX1_middle 77 = .ok (.getfield 23, 3) := by decide +kernel
theorem dX1_middle_80 : decode cX1_middle 80 = .ok (.iload 5, 2) := by decide +kernel
theorem dX1_middle_82 : decode cX1_middle 82 = .ok (.iaload, 1) := by decide +kernel
theorem dX1_middle_83 : decode cX1_middle 83 = .ok (.iaload, 1) := by decide +kernel
theorem dX1_middle_84 : decode cX1_middle 84 = .ok (.iadd, 1) := by decide +kernel
theorem dX1_middle_85 : decode cX1_middle 85 = .ok (.istore 6, 2) := by decide +kernel
theorem dX1_middle_87 : decode cX1_middle 87 = .ok (.iinc 5 1, 3) := by decide +kernel
theorem dX1_middle_90 : decode cX1_middle 90 = .ok (.goto (-37), 3) := by decide +kernel
theorem dX1_middle_93 : decode cX1_middle 93 = .ok (.iload 5, 2) := by decide +kernel
theorem dX1_middle_95 : decode cX1_middle 95 = .ok (.ireturn, 1) := by decide +kernel
set_option maxRecDepth 20000 in
theorem ggX2_init_X0_init : GoodIn wsX2_init wsX0_init := goodIn_r _ [13, 14, 2, 3, 15, 4, 16, 20, 21, 22, 23] (by decide +kernel) (by decide +kernel)
set_option maxRecDepth 20000 in
theorem gX2_init_X0_init : GoodIn wsX2_init (wsX0_init) := ggX2_init_X0_init
theorem dX2_init_0 : decode cX2_init 0 = .ok (.aload_n 0, 1) := by decide +kernel
theorem dX2_init_1 : decode cX2_init 1 = .ok (.invokespecial 3, 3) := by decide +kernel
theorem dX2_init_4 : decode cX2_init 4 = .ok (.aload_n 0, 1) := by decide +kernel
theorem dX2_init_5 : decode cX2_init 5 = .ok (.sipush 1024, 3) := by decide +kernel
theorem dX2_init_8 : decode cX2_init 8 = .ok (.newarray .int, 2) := by decide +kernel
theorem dX2_init_10 : decode cX2_init 10 = .ok (.putfield 11, 3) := by decide +kernel
theorem dX2_init_13 : decode cX2_init 13 = .ok (.aload_n 0, 1) := by decide +kernel
theorem dX2_init_14 : decode cX2_init 14 = .ok (.sipush 1024, 3) := by decide +kernel
theorem dX2_init_17 : decode cX2_init 17 = .ok (.newarray .int, 2) := by decide +kernel
theorem dX2_init_19 : decode cX2_init 19 = .ok (.putfield 15, 3) := by decide +kernel
theorem dX2_init_22 : decode cX2_init 22 = .ok (.aload_n 0, 1) := by decide +kernel
theorem dX2_init_23 : decode cX2_init 23 = .ok (.new 18, 3) := by decide +kernel
theorem dX2_init_26 : decode cX2_init 26 = .ok (.dup, 1) := by decide +kernel
theorem dX2_init_27 : decode cX2_init 27 = .ok (.sipush 1024, 3) := by decide +kernel
theorem dX2_init_30 : decode cX2_init 30 = .ok (.invokespecial 20, 3) := by decide +kernel
theorem dX2_init_33 : decode cX2_init 33 = .ok (.putfield 23, 3) := by decide +kernel
theorem dX2_init_36 : decode cX2_init 36 = .ok (.return_, 1) := by decide +kernel
set_option maxRecDepth 20000 in
theorem ggX2_forget_X0_restart : GoodIn wsX2_forget wsX0_restart := goodIn_r _ [6, 7, 8, 12, 13, 14, 15] (by decide +kernel) (by decide +kernel)
set_option maxRecDepth 20000 in
theorem gX2_forget_X0_restart : GoodIn wsX2_forget (wsV RX2 27 RX0 yX0_restart wsX0_restart) := goodIn_app (goodIn_of _ (by decide +kernel)) ggX2_forget_X0_restart
theorem dX2_forget_0 : decode cX2_forget 0 = .ok (.aload_n 0, 1) := by decide +kernel
theorem dX2_forget_1 : decode cX2_forget 1 = .ok (.getfield 23, 3) := by decide +kernel
theorem dX2_forget_4 : decode cX2_forget 4 = .ok (.invokevirtual 27, 3) := by decide +kernel
theorem dX2_forget_7 : decode cX2_forget 7 = .ok (.return_, 1) := by decide +kernel
set_option maxRecDepth 20000 in
theorem ggX2_search_J7_fill_53178 : GoodIn wsX2_search wsJ7_fill_53178 := goodIn_r _ [6] (by decide +kernel) (by decide +kernel)
set_option maxRecDepth 20000 in
theorem gX2_search_J7_fill_53178 : GoodIn wsX2_search (va_wsS RX2 36 yJ7_fill_53178 wsJ7_fill_53178) := goodIn_app (goodIn_of _ (by decide +kernel)) ggX2_search_J7_fill_53178
set_option maxRecDepth 20000 in
theorem ggX2_search_X2_move : GoodIn wsX2_search wsX2_move := goodIn_r _ [10, 11, 12, 13, 14, 15, 16, 17, 18, 19, 20, 40, 41, 42, 43, 44, 45, 46, 47, 48] (by decide +kernel) (by decide +kernel)
set_option maxRecDepth 20000 in
theorem gX2_search_X2_move : GoodIn wsX2_search (va_wsS RX2 42 yX2_move wsX2_move) := goodIn_app (goodIn_of _ (by decide +kernel)) ggX2_search_X2_move
set_option maxRecDepth 20000 in
theorem ggX2_search_X2_keep : GoodIn wsX2_search wsX2_keep := goodIn_r _ [24, 25, 1, 26, 27, 28, 29, 30, 31, 32, 33, 34, 35, 36, 37, 38, 39, 49, 50, 51, 52, 53, 54, 55] (by decide +kernel) (by decide +kernel)
set_option maxRecDepth 20000 in
theorem gX2_search_X2_keep : GoodIn wsX2_search (wsV RX2 46 RX2 yX2_keep wsX2_keep) := goodIn_app (goodIn_of _ (by decide +kernel)) ggX2_search_X2_keep
theorem dX2_search_0 : decode cX2_search 0 = .ok (.aload_n 1, 1) := by decide +kernel
theorem dX2_search_1 : decode cX2_search 1 = .ok (.getfield 30, 3) := by decide +kernel
theorem dX2_search_4 : decode cX2_search 4 = .ok (.bipush 10, 2) := by decide +kernel
theorem dX2_search_6 : decode cX2_search 6 = .ok (.if_icmp .le 5, 3) := by decide +kernel
theorem dX2_search_9 : decode cX2_search 9 = .ok (.iconst 0, 1) := by decide +kernel
theorem dX2_search_10 : decode cX2_search 10 = .ok (.ireturn, 1) := by decide +kernel
theorem dX2_search_11 : decode cX2_search 11 = .ok (.iconst 1, 1) := by decide +kernel
theorem dX2_search_12 : decode cX2_search 12 = .ok (.aload_n 1, 1) := by decide +kernel
theorem dX2_search_13 : decode cX2_search 13 = .ok (.getfield 30, 3) := by decide +kernel
theorem dX2_search_16 : decode cX2_search 16 = .ok (.ishl, 1) := by decide +kernel
theorem dX2_search_17 : decode cX2_search 17 = .ok (.iconst 1, 1) := by decide +kernel
theorem dX2_search_18 : decode cX2_search 18 = .ok (.isub, 1) := by decide +kernel
theorem dX2_search_19 : decode cX2_search 19 = .ok (.istore_n 2, 1) := by decide +kernel
theorem dX2_search_20 : decode cX2_search 20 = .ok (.aload_n 0, 1) := by decide +kernel
theorem dX2_search_21 : decode cX2_search 21 = .ok (.getfield 11, 3) := by decide +kernel
theorem dX2_search_24 : decode cX2_search 24 = .ok (.iconst (-1), 1) := by decide +kernel
theorem dX2_search_25 : decode cX2_search 25 = .ok (.invokestatic 36, 3) := by decide +kernel
theorem dX2_search_28 : decode cX2_search 28 = .ok (.aload_n 0, 1) := by decide +kernel
theorem dX2_search_29 : decode cX2_search 29 = .ok (.getfield 15, 3) := by decide +kernel
theorem dX2_search_32 : decode cX2_search 32 = .ok (.iconst 0, 1) := by decide +kernel
theorem dX2_search_33 : decode cX2_search 33 = .ok (.iload_n 2, 1) := by decide +kernel
theorem dX2_search_34 : decode cX2_search 34 = .ok (.iastore, 1) := by decide +kernel
theorem dX2_search_35 : decode cX2_search 35 = .ok (.iconst 1, 1) := by decide +kernel
theorem dX2_search_36 : decode cX2_search 36 = .ok (.istore_n 3, 1) := by decide +kernel
theorem dX2_search_37 : decode cX2_search 37 = .ok (.iconst 0, 1) := by decide +kernel
theorem dX2_search_38 : decode cX2_search 38 = .ok (.istore 4, 2) := by decide +kernel
theorem dX2_search_40 : decode cX2_search 40 = .ok (.iload 4, 2) := by decide +kernel
theorem dX2_search_42 : decode cX2_search 42 = .ok (.iload_n 3, 1) := by decide +kernel
theorem dX2_search_43 : decode cX2_search 43 = .ok (.if_icmp .ge 112, 3) := by decide +kernel
theorem dX2_search_46 : decode cX2_search 46 = .ok (.iconst 0, 1) := by decide +kernel
theorem dX2_search_47 : decode cX2_search 47 = .ok (.istore 5, 2) := by decide +kernel
theorem dX2_search_49 : decode cX2_search 49 = .ok (.iload 5, 2) := by decide +kernel
theorem dX2_search_51 : decode cX2_search 51 = .ok (.iconst 1, 1) := by decide +kernel
theorem dX2_search_52 : decode cX2_search 52 = .ok (.if_icmp .gt 97, 3) := by decide +kernel
theorem dX2_search_55 : decode cX2_search 55 = .ok (.aload_n 0, 1) := by decide +kernel
theorem dX2_search_56 : decode cX2_search 56 = .ok (.getfield 15, 3) := by decide +kernel
theorem dX2_search_59 : decode cX2_search 59 = .ok (.iload 4, 2) := by decide +kernel
theorem dX2_search_61 : decode cX2_search 61 = .ok (.iaload, 1) := by decide +kernel
theorem dX2_search_62 : decode cX2_search 62 = .ok (.istore 6, 2) := by decide +kernel
theorem dX2_search_64 : decode cX2_search 64 = .ok (.aload_n 1, 1) := by decide +kernel
theorem dX2_search_65 : decode cX2_search 65 = .ok (.iload 6, 2) := by decide +kernel
theorem dX2_search_67 : decode cX2_search 67 = .ok (.iload 5, 2) := by decide +kernel
theorem dX2_search_69 : decode cX2_search 69 = .ok (.invokestatic 42, 3) := by decide +kernel
theorem dX2_search_72 : decode cX2_search 72 = .ok (.istore 7, 2) := by decide +kernel
theorem dX2_search_74 : decode cX2_search 74 = .ok (.iload 7, 2) := by decide +kernel
theorem dX2_search_76 : decode cX2_search 76 = .ok (.iconst 1, 1) := by decide +kernel
theorem dX2_search_77 : decode cX2_search 77 = .ok (.if_icmp .ne 15, 3) := by decide +kernel
theorem dX2_search_80 : decode cX2_search 80 = .ok (.aload_n 0, 1) := by decide +kernel
theorem dX2_search_81 : decode cX2_search 81 = .ok (.iconst 2, 1) := by decide +kernel
theorem dX2_search_82 : decode cX2_search 82 = .ok (.iload 6, 2) := by decide +kernel
theorem dX2_search_84 : decode cX2_search 84 = .ok (.imul, 1) := by decide +kernel
theorem dX2_search_85 : decode cX2_search 85 = .ok (.iload 5, 2) := by decide +kernel
theorem dX2_search_87 : decode cX2_search 87 = .ok (.iadd, 1) := by decide +kernel
theorem dX2_search_88 : decode cX2_search 88 = .ok (.invokevirtual 46, 3) := by decide +kernel
theorem dX2_search_91 : decode cX2_search 91 = .ok (.ireturn, 1) := by decide +kernel
theorem dX2_search_92 : decode cX2_search 92 = .ok (.iload 7, 2) := by decide +kernel
theorem dX2_search_94 : decode cX2_search 94 = .ok (.iload_n 2, 1) := by decide +kernel
theorem dX2_search_95 : decode cX2_search 95 = .ok (.if_icmp .eq 48, 3) := by decide +kernel
theorem dX2_search_98 : decode cX2_search 98 = .ok (.aload_n 0, 1) := by decide +kernel
theorem dX2_search_99 : decode cX2_search 99 = .ok (.getfield 11, 3) := by decide +kernel
theorem dX2_search_102 : decode cX2_search 102 = .ok (.iload 7, 2) := by decide +kernel
theorem dX2_search_104 : decode cX2_search 104 = .ok (.iaload, 1) := by decide +kernel
theorem dX2_search_105 : decode cX2_search 105 = .ok (.iconst (-1), 1) := by decide +kernel
theorem dX2_search_106 : decode cX2_search 106 = .ok (.if_icmp .ne 37, 3) := by decide +kernel
theorem dX2_search_109 : decode cX2_search 109 = .ok (.iload_n 3, 1) := by decide +kernel
theorem dX2_search_110 : decode cX2_search 110 = .ok (.aload_n 0, 1) := by decide +kernel
theorem dX2_search_111 : decode cX2_search 111 = .ok (.getfield 15, 3) := by decide +kernel
theorem dX2_search_114 : decode cX2_search 114 = .ok (.arraylength, 1) := by decide +kernel
theorem dX2_search_115 : decode cX2_search 115 = .ok (.if_icmp .ge 28, 3) := by decide +kernel
theorem dX2_search_118 : decode cX2_search 118 = .ok (.aload_n 0, 1) := by decide +kernel
theorem dX2_search_119 : decode cX2_search 119 = .ok (.getfield 11, 3) := by decide +kernel
theorem dX2_search_122 : decode cX2_search 122 = .ok (.iload 7, 2) := by decide +kernel
theorem dX2_search_124 : decode cX2_search 124 = .ok (.iconst 2, 1) := by decide +kernel
theorem dX2_search_125 : decode cX2_search 125 = .ok (.iload 6, 2) := by decide +kernel
theorem dX2_search_127 : decode cX2_search 127 = .ok (.imul, 1) := by decide +kernel
theorem dX2_search_128 : decode cX2_search 128 = .ok (.iload 5, 2) := by decide +kernel
theorem dX2_search_130 : decode cX2_search 130 = .ok (.iadd, 1) := by decide +kernel
theorem dX2_search_131 : decode cX2_search 131 = .ok (.iastore, 1) := by decide +kernel
theorem dX2_search_132 : decode cX2_search 132 = .ok (.aload_n 0, 1) := by decide +kernel
theorem dX2_search_133 : decode cX2_search 133 = .ok (.getfield 15, 3) := by decide +kernel
theorem dX2_search_136 : decode cX2_search 136 = .ok (.iload_n 3, 1) := by decide +kernel
theorem dX2_search_137 : decode cX2_search 137 = .ok (.iload 7, 2) := by decide +kernel
theorem dX2_search_139 : decode cX2_search 139 = .ok (.iastore, 1) := by decide +kernel
theorem dX2_search_140 : decode cX2_search 140 = .ok (.iinc 3 1, 3) := by decide +kernel
theorem dX2_search_143 : decode cX2_search 143 = .ok (.iinc 5 1, 3) := by decide +kernel
theorem dX2_search_146 : decode cX2_search 146 = .ok (.goto (-97), 3) := by decide +kernel
theorem dX2_search_149 : decode cX2_search 149 = .ok (.iinc 4 1, 3) := by decide +kernel
theorem dX2_search_152 : decode cX2_search 152 = .ok (.goto (-112), 3) := by decide +kernel
theorem dX2_search_155 : decode cX2_search 155 = .ok (.iconst 0, 1) := by decide +kernel
theorem dX2_search_156 : decode cX2_search 156 = .ok (.ireturn, 1) := by decide +kernel
set_option maxRecDepth 20000 in
theorem ggX2_move_X10_step : GoodIn wsX2_move wsX10_step := goodIn_r _ [9, 10, 11, 12, 13, 14, 15, 16, 17, 18, 19] (by decide +kernel) (by decide +kernel)
set_option maxRecDepth 20000 in
theorem gX2_move_X10_step : GoodIn wsX2_move (wsV RX2 50 RX10 yX10_step wsX10_step) := goodIn_app (goodIn_of _ (by decide +kernel)) ggX2_move_X10_step
theorem dX2_move_0 : decode cX2_move 0 = .ok (.iconst 0, 1) := by decide +kernel
theorem dX2_move_1 : decode cX2_move 1 = .ok (.istore_n 3, 1) := by decide +kernel
theorem dX2_move_2 : decode cX2_move 2 = .ok (.iconst 0, 1) := by decide +kernel
theorem dX2_move_3 : decode cX2_move 3 = .ok (.istore 4, 2) := by decide +kernel
theorem dX2_move_5 : decode cX2_move 5 = .ok (.iload 4, 2) := by decide +kernel
theorem dX2_move_7 : decode cX2_move 7 = .ok (.aload_n 0, 1) := by decide +kernel
theorem dX2_move_8 : decode cX2_move 8 = .ok (.getfield 30, 3) := by decide +kernel
theorem dX2_move_11 : decode cX2_move 11 = .ok (.if_icmp .ge 35, 3) := by decide +kernel
theorem dX2_move_14 : decode cX2_move 14 = .ok (.iload_n 1, 1) := by decide +kernel
theorem dX2_move_15 : decode cX2_move 15 = .ok (.iload 4, 2) := by decide +kernel
theorem dX2_move_17 : decode cX2_move 17 = .ok (.ishr, 1) := by decide +kernel
theorem dX2_move_18 : decode cX2_move 18 = .ok (.iconst 1, 1) := by decide +kernel
theorem dX2_move_19 : decode cX2_move 19 = .ok (.iand, 1) := by decide +kernel
theorem dX2_move_20 : decode cX2_move 20 = .ok (.iconst 1, 1) := by decide +kernel
theorem dX2_move_21 : decode cX2_move 21 = .ok (.if_icmp .ne 19, 3) := by decide +kernel
theorem dX2_move_24 : decode cX2_move 24 = .ok (.iload_n 3, 1) := by decide +kernel
theorem dX2_move_25 : decode cX2_move 25 = .ok (.iconst 1, 1) := by decide +kernel
theorem dX2_move_26 : decode cX2_move 26 = .ok (.aload_n 0, 1) := by decide +kernel
theorem dX2_move_27 : decode cX2_move 27 = .ok (.iload 4, 2) := by decide +kernel
theorem dX2_move_29 : decode cX2_move 29 = .ok (.iload_n 2, 1) := by decide +kernel
theorem dX2_move_30 : decode cX2_move 30 = .ok (.invokevirtual 50, 3) := by decide +kernel
theorem dX2_move_33 : decode cX2_move 33 = .ok (.iconst 0, 1) := by decide +kernel
theorem dX2_move_34 : decode cX2_move 34 = .ok (.invokestatic 54, 3) := by decide +kernel
theorem dX2_move_37 : decode cX2_move 37 = .ok (.ishl, 1) := by decide +kernel
theorem dX2_move_38 : decode cX2_move 38 = .ok (.ior, 1) := by decide +kernel
theorem dX2_move_39 : decode cX2_move 39 = .ok (.istore_n 3, 1) := by decide +kernel
theorem dX2_move_40 : decode cX2_move 40 = .ok (.iinc 4 1, 3) := by decide +kernel
theorem dX2_move_43 : decode cX2_move 43 = .ok (.goto (-38), 3) := by decide +kernel
theorem dX2_move_46 : decode cX2_move 46 = .ok (.iload_n 3, 1) := by decide +kernel
theorem dX2_move_47 : decode cX2_move 47 = .ok (.ireturn, 1) := by decide +kernel
set_option maxRecDepth 20000 in
theorem ggX2_keep_X0_add : GoodIn wsX2_keep wsX0_add := goodIn_r _ [7, 8, 9, 10, 11, 12, 13, 6, 14, 15, 20, 21, 22, 23] (by decide +kernel) (by decide +kernel)
set_option maxRecDepth 20000 in
theorem gX2_keep_X0_add : GoodIn wsX2_keep (wsV RX2 62 RX0 yX0_add wsX0_add) := goodIn_app (goodIn_of _ (by decide +kernel)) ggX2_keep_X0_add
set_option maxRecDepth 20000 in
theorem ggX2_keep_X0_set : GoodIn wsX2_keep wsX0_set := goodIn_r _ [14, 8, 15, 20, 21, 22, 23] (by decide +kernel) (by decide +kernel)
set_option maxRecDepth 20000 in
theorem gX2_keep_X0_set : GoodIn wsX2_keep (wsV RX2 68 RX0 yX0_set wsX0_set) := goodIn_app (goodIn_of _ (by decide +kernel)) ggX2_keep_X0_set
theorem dX2_keep_0 : decode cX2_keep 0 = .ok (.iload_n 1, 1) := by decide +kernel
theorem dX2_keep_1 : decode cX2_keep 1 = .ok (.istore_n 2, 1) := by decide +kernel
theorem dX2_keep_2 : decode cX2_keep 2 = .ok (.iconst 0, 1) := by decide +kernel
theorem dX2_keep_3 : decode cX2_keep 3 = .ok (.istore_n 3, 1) := by decide +kernel
theorem dX2_keep_4 : decode cX2_keep 4 = .ok (.iload_n 3, 1) := by decide +kernel
theorem dX2_keep_5 : decode cX2_keep 5 = .ok (.aload_n 0, 1) := by decide +kernel
theorem dX2_keep_6 : decode cX2_keep 6 = .ok (.getfield 23, 3) := by decide +kernel
theorem dX2_keep_9 : decode cX2_keep 9 = .ok (.getfield 59, 3) := by decide +kernel
theorem dX2_keep_12 : decode cX2_keep 12 = .ok (.if_icmp .ge 31, 3) := by decide +kernel
theorem dX2_keep_15 : decode cX2_keep 15 = .ok (.iload_n 2, 1) := by decide +kernel
theorem dX2_keep_16 : decode cX2_keep 16 = .ok (.iconst (-1), 1) := by decide +kernel
theorem dX2_keep_17 : decode cX2_keep 17 = .ok (.if_icmp .eq 26, 3) := by decide +kernel
theorem dX2_keep_20 : decode cX2_keep 20 = .ok (.aload_n 0, 1) := by decide +kernel
theorem dX2_keep_21 : decode cX2_keep 21 = .ok (.getfield 23, 3) := by decide +kernel
theorem dX2_keep_24 : decode cX2_keep 24 = .ok (.iconst 0, 1) := by decide +kernel
theorem dX2_keep_25 : decode cX2_keep 25 = .ok (.invokevirtual 62, 3) := by decide +kernel
theorem dX2_keep_28 : decode cX2_keep 28 = .ok (.aload_n 0, 1) := by decide +kernel
theorem dX2_keep_29 : decode cX2_keep 29 = .ok (.getfield 11, 3) := by decide +kernel
theorem dX2_keep_32 : decode cX2_keep 32 = .ok (.iload_n 2, 1) := by decide +kernel
theorem dX2_keep_33 : decode cX2_keep 33 = .ok (.iconst 1, 1) := by decide +kernel
theorem dX2_keep_34 : decode cX2_keep 34 = .ok (.ishr, 1) := by decide +kernel
theorem dX2_keep_35 : decode cX2_keep 35 = .ok (.iaload, 1) := by decide +kernel
theorem dX2_keep_36 : decode cX2_keep 36 = .ok (.istore_n 2, 1) := by decide +kernel
theorem dX2_keep_37 : decode cX2_keep 37 = .ok (.iinc 3 1, 3) := by decide +kernel
theorem dX2_keep_40 : decode cX2_keep 40 = .ok (.goto (-36), 3) := by decide +kernel
theorem dX2_keep_43 : decode cX2_keep 43 = .ok (.iload_n 1, 1) := by decide +kernel
theorem dX2_keep_44 : decode cX2_keep 44 = .ok (.istore_n 2, 1) := by decide +kernel
theorem dX2_keep_45 : decode cX2_keep 45 = .ok (.aload_n 0, 1) := by decide +kernel
theorem dX2_keep_46 : decode cX2_keep 46 = .ok (.getfield 23, 3) := by decide +kernel
theorem dX2_keep_49 : decode cX2_keep 49 = .ok (.getfield 65, 3) := by decide +kernel
theorem dX2_keep_52 : decode cX2_keep 52 = .ok (.iconst 1, 1) := by decide +kernel
theorem dX2_keep_53 : decode cX2_keep 53 = .ok (.isub, 1) := by decide +kernel
theorem dX2_keep_54 : decode cX2_keep 54 = .ok (.istore_n 3, 1) := by decide +kernel
theorem dX2_keep_55 : decode cX2_keep 55 = .ok (.iload_n 3, 1) := by decide +kernel
theorem dX2_keep_56 : decode cX2_keep 56 = .ok (.ifCond .lt 29, 3) := by decide +kernel
theorem dX2_keep_59 : decode cX2_keep 59 = .ok (.aload_n 0, 1) := by decide +kernel
theorem dX2_keep_60 : decode cX2_keep 60 = .ok (.getfield 23, 3) := by decide +kernel
theorem dX2_keep_63 : decode cX2_keep 63 = .ok (.iload_n 3, 1) := by decide +kernel
theorem dX2_keep_64 : decode cX2_keep 64 = .ok (.iload_n 2, 1) := by decide +kernel
theorem dX2_keep_65 : decode cX2_keep 65 = .ok (.iconst 1, 1) := by decide +kernel
theorem dX2_keep_66 : decode cX2_keep 66 = .ok (.iand, 1) := by decide +kernel
theorem dX2_keep_67 : decode cX2_keep 67 = .ok (.invokevirtual 68, 3) := by decide +kernel
theorem dX2_keep_70 : decode cX2_keep 70 = .ok (.aload_n 0, 1) := by decide +kernel
theorem dX2_keep_71 : decode cX2_keep 71 = .ok (.getfield 11, 3) := by decide +kernel
theorem dX2_keep_74 : decode cX2_keep 74 = .ok (.iload_n 2, 1) := by decide +kernel
theorem dX2_keep_75 : decode cX2_keep 75 = .ok (.iconst 1, 1) := by decide +kernel
theorem dX2_keep_76 : decode cX2_keep 76 = .ok (.ishr, 1) := by decide +kernel
theorem dX2_keep_77 : decode cX2_keep 77 = .ok (.iaload, 1) := by decide +kernel
theorem dX2_keep_78 : decode cX2_keep 78 = .ok (.istore_n 2, 1) := by decide +kernel
theorem dX2_keep_79 : decode cX2_keep 79 = .ok (.iinc 3 (-1), 3) := by decide +kernel
theorem dX2_keep_82 : decode cX2_keep 82 = .ok (.goto (-27), 3) := by decide +kernel
theorem dX2_keep_85 : decode cX2_keep 85 = .ok (.aload_n 0, 1) := by decide +kernel
theorem dX2_keep_86 : decode cX2_keep 86 = .ok (.getfield 23, 3) := by decide +kernel
theorem dX2_keep_89 : decode cX2_keep 89 = .ok (.getfield 65, 3) := by decide +kernel
theorem dX2_keep_92 : decode cX2_keep 92 = .ok (.ireturn, 1) := by decide +kernel
theorem dX3_init_0 : decode cX3_init 0 = .ok (.aload_n 0, 1) := by decide +kernel
theorem dX3_init_1 : decode cX3_init 1 = .ok (.invokespecial 1, 3) := by decide +kernel
theorem dX3_init_4 : decode cX3_init 4 = .ok (.aload_n 0, 1) := by decide +kernel
theorem dX3_init_5 : decode cX3_init 5 = .ok (.iload_n 1, 1) := by decide +kernel
theorem dX3_init_6 : decode cX3_init 6 = .ok (.newarray .int, 2) := by decide +kernel
theorem dX3_init_8 : decode cX3_init 8 = .ok (.putfield 7, 3) := by decide +kernel
theorem dX3_init_11 : decode cX3_init 11 = .ok (.aload_n 0, 1) := by decide +kernel
theorem dX3_init_12 : decode cX3_init 12 = .ok (.iload_n 1, 1) := by decide +kernel
theorem dX3_init_13 : decode cX3_init 13 = .ok (.newarray .int, 2) := by decide +kernel
theorem dX3_init_15 : decode cX3_init 15 = .ok (.putfield 13, 3) := by decide +kernel
theorem dX3_init_18 : decode cX3_init 18 = .ok (.aload_n 0, 1) := by decide +kernel
theorem dX3_init_19 : decode cX3_init 19 = .ok (.iload_n 1, 1) := by decide +kernel
theorem dX3_init_20 : decode cX3_init 20 = .ok (.newarray .int, 2) := by decide +kernel
theorem dX3_init_22 : decode cX3_init 22 = .ok (.putfield 16, 3) := by decide +kernel
theorem dX3_init_25 : decode cX3_init 25 = .ok (.aload_n 0, 1) := by decide +kernel
theorem dX3_init_26 : decode cX3_init 26 = .ok (.iload_n 1, 1) := by decide +kernel
theorem dX3_init_27 : decode cX3_init 27 = .ok (.newarray .int, 2) := by decide +kernel
theorem dX3_init_29 : decode cX3_init 29 = .ok (.putfield 19, 3) := by decide +kernel
theorem dX3_init_32 : decode cX3_init 32 = .ok (.return_, 1) := by decide +kernel
theorem dX3_gather_0 : decode cX3_gather 0 = .ok (.aload_n 0, 1) := by decide +kernel
theorem dX3_gather_1 : decode cX3_gather 1 = .ok (.iconst 0, 1) := by decide +kernel
theorem dX3_gather_2 : decode cX3_gather 2 = .ok (.putfield 22, 3) := by decide +kernel
theorem dX3_gather_5 : decode cX3_gather 5 = .ok (.iconst 0, 1) := by decide +kernel
theorem dX3_gather_6 : decode cX3_gather 6 = .ok (.istore_n 2, 1) := by decide +kernel
theorem dX3_gather_7 : decode cX3_gather 7 = .ok (.iload_n 2, 1) := by decide +kernel
theorem dX3_gather_8 : decode cX3_gather 8 = .ok (.aload_n 1, 1) := by decide +kernel
theorem dX3_gather_9 : decode cX3_gather 9 = .ok (.arraylength, 1) := by decide +kernel
theorem dX3_gather_10 : decode cX3_gather 10 = .ok (.if_icmp .ge 56, 3) := by decide +kernel
theorem dX3_gather_13 : decode cX3_gather 13 = .ok (.iload_n 2, 1) := by decide +kernel
theorem dX3_gather_14 : decode cX3_gather 14 = .ok (.aload_n 0, 1) := by decide +kernel
theorem dX3_gather_15 : decode cX3_gather 15 = .ok (.getfield 7, 3) := by decide +kernel
theorem dX3_gather_18 : decode cX3_gather 18 = .ok (.arraylength, 1) := by decide +kernel
theorem dX3_gather_19 : decode cX3_gather 19 = .ok (.if_icmp .ge 47, 3) := by decide +kernel
theorem dX3_gather_22 : decode cX3_gather 22 = .ok (.aload_n 1, 1) := by decide +kernel
theorem dX3_gather_23 : decode cX3_gather 23 = .ok (.iload_n 2, 1) := by decide +kernel
theorem dX3_gather_24 : decode cX3_gather 24 = .ok (.iaload, 1) := by decide +kernel
theorem dX3_gather_25 : decode cX3_gather 25 = .ok (.ifCond .le 35, 3) := by decide +kernel
theorem dX3_gather_28 : decode cX3_gather 28 = .ok (.aload_n 0, 1) := by decide +kernel
theorem dX3_gather_29 : decode cX3_gather 29 = .ok (.getfield 7, 3) := by decide +kernel
theorem dX3_gather_32 : decode cX3_gather 32 = .ok (.aload_n 0, 1) := by decide +kernel
theorem dX3_gather_33 : decode cX3_gather 33 = .ok (.getfield 22, 3) := by decide +kernel
theorem dX3_gather_36 : decode cX3_gather 36 = .ok (.iload_n 2, 1) := by decide +kernel
theorem dX3_gather_37 : decode cX3_gather 37 = .ok (.iastore, 1) := by decide +kernel
theorem dX3_gather_38 : decode cX3_gather 38 = .ok (.aload_n 0, 1) := by decide +kernel
theorem dX3_gather_39 : decode cX3_gather 39 = .ok (.getfield 13, 3) := by decide +kernel
theorem dX3_gather_42 : decode cX3_gather 42 = .ok (.aload_n 0, 1) := by decide +kernel
theorem dX3_gather_43 : decode cX3_gather 43 = .ok (.getfield 22, 3) := by decide +kernel
theorem dX3_gather_46 : decode cX3_gather 46 = .ok (.aload_n 1, 1) := by decide +kernel
theorem dX3_gather_47 : decode cX3_gather 47 = .ok (.iload_n 2, 1) := by decide +kernel
theorem dX3_gather_48 : decode cX3_gather 48 = .ok (.iaload, 1) := by decide +kernel
theorem dX3_gather_49 : decode cX3_gather 49 = .ok (.iastore, 1) := by decide +kernel
theorem dX3_gather_50 : decode cX3_gather 50 = .ok (.aload_n 0, 1) := by decide +kernel
theorem dX3_gather_51 : decode cX3_gather 51 = .ok (.dup, 1) := by decide +kernel
theorem dX3_gather_52 : decode cX3_gather 52 = .ok (.getfield 22, 3) := by decide +kernel
theorem dX3_gather_55 : decode cX3_gather 55 = .ok (.iconst 1, 1) := by decide +kernel
theorem dX3_gather_56 : decode cX3_gather 56 = .ok (.iadd, 1) := by decide +kernel
theorem dX3_gather_57 : decode cX3_gather 57 = .ok (.putfield 22, 3) := by decide +kernel
theorem dX3_gather_60 : decode cX3_gather 60 = .ok (.iinc 2 1, 3) := by decide +kernel
theorem dX3_gather_63 : decode cX3_gather 63 = .ok (.goto (-56), 3) := by decide +kernel
theorem dX3_gather_66 : decode cX3_gather 66 = .ok (.return_, 1) := by decide +kernel
theorem dX3_lineUpBySymbols_0 : decode cX3_lineUpBySymbols 0 = .ok (.iconst 0, 1) := by decide +kernel
theorem dX3_lineUpBySymbols_1 : decode cX3_lineUpBySymbols 1 = .ok (.istore_n 1, 1) := by decide +kernel
theorem dX3_lineUpBySymbols_2 : decode cX3_lineUpBySymbols 2 = .ok (.iload_n 1, 1) := by decide +kernel
theorem dX3_lineUpBySymbols_3 : decode cX3_lineUpBySymbols 3 = .ok (.aload_n 0, 1) := by decide +kernel
theorem dX3_lineUpBySymbols_4 : decode cX3_lineUpBySymbols 4 = .ok (.getfield 22, 3) := by decide +kernel
theorem dX3_lineUpBySymbols_7 : decode cX3_lineUpBySymbols 7 = .ok (.if_icmp .ge 16, 3) := by decide +kernel
theorem dX3_lineUpBySymbols_10 : decode cX3_lineUpBySymbols 10 = .ok (.aload_n 0, 1) := by decide +kernel
theorem dX3_lineUpBySymbols_11 : decode cX3_lineUpBySymbols 11 = .ok (.getfield 19, 3) := by decide +kernel
theorem dX3_lineUpBySymbols_14 : decode cX3_lineUpBySymbols 14 = .ok (.iload_n 1, 1) := by decide +kernel
theorem dX3_lineUpBySymbols_15 : decode cX3_lineUpBySymbols 15 = .ok (.iload_n 1, 1) := by decide +kernel
theorem dX3_lineUpBySymbols_16 : decode cX3_lineUpBySymbols 16 = .ok (.iastore, 1) := by decide +kernel
theorem dX3_lineUpBySymbols_17 : decode cX3_lineUpBySymbols 17 = .ok (.iinc 1 1, 3) := by decide +kernel
theorem dX3_lineUpBySymbols_20 : decode cX3_lineUpBySymbols 20 = .ok (.goto (-18), 3) := by decide +kernel
theorem dX3_lineUpBySymbols_23 : decode cX3_lineUpBySymbols 23 = .ok (.return_, 1) := by decide +kernel
set_option maxRecDepth 20000 in
theorem ggX3_lineUpRising_X3_lineUp : GoodIn wsX3_lineUpRising wsX3_lineUp := goodIn_r _ [5, 6, 7, 8, 9, 10, 11, 12, 13] (by decide +kernel) (by decide +kernel)
set_option maxRecDepth 20000 in
theorem gX3_lineUpRising_X3_lineUp : GoodIn wsX3_lineUpRising (wsV RX3 26 RX3 yX3_lineUp wsX3_lineUp) := goodIn_app (goodIn_of _ (by decide +kernel)) ggX3_lineUpRising_X3_lineUp
theorem dX3_lineUpRising_0 : decode cX3_lineUpRising 0 = .ok (.aload_n 0, 1) := by decide +kernel
theorem dX3_lineUpRising_1 : decode cX3_lineUpRising 1 = .ok (.iconst 1, 1) := by decide +kernel
theorem dX3_lineUpRising_2 : decode cX3_lineUpRising 2 = .ok (.invokevirtual 26, 3) := by decide +kernel
theorem dX3_lineUpRising_5 : decode cX3_lineUpRising 5 = .ok (.return_, 1) := by decide +kernel
set_option maxRecDepth 20000 in
theorem ggX3_lineUpFalling_X3_lineUp : GoodIn wsX3_lineUpFalling wsX3_lineUp := goodIn_r _ [5, 6, 7, 8, 9, 10, 11, 12, 13] (by decide +kernel) (by decide +kernel)
set_option maxRecDepth 20000 in
theorem gX3_lineUpFalling_X3_lineUp : GoodIn wsX3_lineUpFalling (wsV RX3 26 RX3 yX3_lineUp wsX3_lineUp) := goodIn_app (goodIn_of _ (by decide +kernel)) ggX3_lineUpFalling_X3_lineUp
theorem dX3_lineUpFalling_0 : decode cX3_lineUpFalling 0 = .ok (.aload_n 0, 1) := by decide +kernel
theorem dX3_lineUpFalling_1 : decode cX3_lineUpFalling 1 = .ok (.iconst (-1), 1) := by decide +kernel
theorem dX3_lineUpFalling_2 : decode cX3_lineUpFalling 2 = .ok (.invokevirtual 26, 3) := by decide +kernel
theorem dX3_lineUpFalling_5 : decode cX3_lineUpFalling 5 = .ok (.return_, 1) := by decide +kernel
theorem dX3_lineUp_0 : decode cX3_lineUp 0 = .ok (.iconst 0, 1) := by decide +kernel
theorem dX3_lineUp_1 : decode cX3_lineUp 1 = .ok (.istore_n 2, 1) := by decide +kernel
theorem dX3_lineUp_2 : decode cX3_lineUp 2 = .ok (.iload_n 2, 1) := by decide +kernel
theorem dX3_lineUp_3 : decode cX3_lineUp 3 = .ok (.aload_n 0, 1) := by decide +kernel
theorem dX3_lineUp_4 : decode cX3_lineUp 4 = .ok (.getfield 22, 3) := by decide +kernel
theorem dX3_lineUp_7 : decode cX3_lineUp 7 = .ok (.if_icmp .ge 68, 3) := by decide +kernel
theorem dX3_lineUp_10 : decode cX3_lineUp 10 = .ok (.iload_n 2, 1) := by decide +kernel
theorem dX3_lineUp_11 : decode cX3_lineUp 11 = .ok (.istore_n 3, 1) := by decide +kernel
theorem dX3_lineUp_12 : decode cX3_lineUp 12 = .ok (.iload_n 3, 1) := by decide +kernel
theorem dX3_lineUp_13 : decode cX3_lineUp 13 = .ok (.ifCond .le 49, 3) := by decide +kernel
theorem dX3_lineUp_16 : decode cX3_lineUp 16 = .ok (.iload_n 1, 1) := by decide +kernel
theorem dX3_lineUp_17 : decode cX3_lineUp 17 = .ok (.aload_n 0, 1) := by decide +kernel
theorem dX3_lineUp_18 : decode cX3_lineUp 18 = .ok (.getfield 13, 3) := by decide +kernel
theorem dX3_lineUp_21 : decode cX3_lineUp 21 = .ok (.aload_n 0, 1) := by decide +kernel
theorem dX3_lineUp_22 : decode cX3_lineUp 22 = .ok (.getfield 19, 3) := by decide +kernel
theorem dX3_lineUp_25 : decode cX3_lineUp 25 = .ok (.iload_n 3, 1) := by decide +kernel
theorem dX3_lineUp_26 : decode cX3_lineUp 26 = .ok (.iconst 1, 1) := by decide +kernel
theorem dX3_lineUp_27 : decode cX3_lineUp 27 = .ok (.isub, 1) := by decide +kernel
theorem dX3_lineUp_28 : decode cX3_lineUp 28 = .ok (.iaload, 1) := by decide +kernel
theorem dX3_lineUp_29 : decode cX3_lineUp 29 = .ok (.iaload, 1) := by decide +kernel
theorem dX3_lineUp_30 : decode cX3_lineUp 30 = .ok (.imul, 1) := by decide +kernel
theorem dX3_lineUp_31 : decode cX3_lineUp 31 = .ok (.iload_n 1, 1) := by decide +kernel
theorem dX3_lineUp_32 : decode cX3_lineUp 32 = .ok (.aload_n 0, 1) := by decide +kernel
theorem dX3_lineUp_33 : decode cX3_lineUp 33 = .ok (.getfield 13, 3) := by decide +kernel
theorem dX3_lineUp_36 : decode cX3_lineUp 36 = .ok (.iload_n 2, 1) := by decide +kernel
theorem dX3_lineUp_37 : decode cX3_lineUp 37 = .ok (.iaload, 1) := by decide +kernel
theorem dX3_lineUp_38 : decode cX3_lineUp 38 = .ok (.imul, 1) := by decide +kernel
theorem dX3_lineUp_39 : decode cX3_lineUp 39 = .ok (.if_icmp .le 23, 3) := by decide +kernel
theorem dX3_lineUp_42 : decode cX3_lineUp 42 = .ok (.aload_n 0, 1) := by decide +kernel
theorem dX3_lineUp_43 : decode cX3_lineUp 43 = .ok (.getfield 19, 3) := by decide +kernel
theorem dX3_lineUp_46 : decode cX3_lineUp 46 = .ok (.iload_n 3, 1) := by decide +kernel
theorem dX3_lineUp_47 : decode cX3_lineUp 47 = .ok (.aload_n 0, 1) := by decide +kernel
theorem dX3_lineUp_48 : decode cX3_lineUp 48 = .ok (.getfield 19, 3) := by decide +kernel
theorem dX3_lineUp_51 : decode cX3_lineUp 51 = .ok (.iload_n 3, 1) := by decide +kernel
theorem dX3_lineUp_52 : decode cX3_lineUp 52 = .ok (.iconst 1, 1) := by decide +kernel
theorem dX3_lineUp_53 : decode cX3_lineUp 53 = .ok (.isub, 1) := by decide +kernel
theorem dX3_lineUp_54 : decode cX3_lineUp 54 = .ok (.iaload, 1) := by decide +kernel
theorem dX3_lineUp_55 : decode cX3_lineUp 55 = .ok (.iastore, 1) := by decide +kernel
theorem dX3_lineUp_56 : decode cX3_lineUp 56 = .ok (.iinc 3 (-1), 3) := by decide +kernel
theorem dX3_lineUp_59 : decode cX3_lineUp 59 = .ok (.goto (-47), 3) := by decide +kernel
theorem dX3_lineUp_62 : decode cX3_lineUp 62 = .ok (.aload_n 0, 1) := by decide +kernel
theorem dX3_lineUp_63 : decode cX3_lineUp 63 = .ok (.getfield 19, 3) := by decide +kernel
theorem dX3_lineUp_66 : decode cX3_lineUp 66 = .ok (.iload_n 3, 1) := by decide +kernel
theorem dX3_lineUp_67 : decode cX3_lineUp 67 = .ok (.iload_n 2, 1) := by decide +kernel
theorem dX3_lineUp_68 : decode cX3_lineUp 68 = .ok (.iastore, 1) := by decide +kernel
theorem dX3_lineUp_69 : decode cX3_lineUp 69 = .ok (.iinc 2 1, 3) := by decide +kernel
theorem dX3_lineUp_72 : decode cX3_lineUp 72 = .ok (.goto (-70), 3) := by decide +kernel
theorem dX3_lineUp_75 : decode cX3_lineUp 75 = .ok (.return_, 1) := by decide +kernel
theorem dX3_deepest_0 : decode cX3_deepest 0 = .ok (.iconst 0, 1) := by decide +kernel
theorem dX3_deepest_1 : decode cX3_deepest 1 = .ok (.istore_n 1, 1) := by decide +kernel
theorem dX3_deepest_2 : decode cX3_deepest 2 = .ok (.iconst 0, 1) := by decide +kernel
theorem dX3_deepest_3 : decode cX3_deepest 3 = .ok (.istore_n 2, 1) := by decide +kernel
theorem dX3_deepest_4 : decode cX3_deepest 4 = .ok (.iload_n 2, 1) := by decide +kernel
theorem dX3_deepest_5 : decode cX3_deepest 5 = .ok (.aload_n 0, 1) := by decide +kernel
theorem dX3_deepest_6 : decode cX3_deepest 6 = .ok (.getfield 22, 3) := by decide +kernel
theorem dX3_deepest_9 : decode cX3_deepest 9 = .ok (.if_icmp .ge 20, 3) := by decide +kernel
theorem dX3_deepest_12 : decode cX3_deepest 12 = .ok (.iload_n 1, 1) := by decide +kernel
theorem dX3_deepest_13 : decode cX3_deepest 13 = .ok (.aload_n 0, 1) := by decide +kernel
theorem dX3_deepest_14 : decode cX3_deepest 14 = .ok (.getfield 16, 3) := by decide +kernel
theorem dX3_deepest_17 : decode cX3_deepest 17 = .ok (.iload_n 2, 1) := by decide +kernel
theorem dX3_deepest_18 : decode cX3_deepest 18 = .ok (.iaload, 1) := by decide +kernel
theorem dX3_deepest_19 : decode cX3_deepest 19 = .ok (.invokestatic 30, 3) := by decide +kernel
theorem dX3_deepest_22 : decode cX3_deepest 22 = .ok (.istore_n 1, 1) := by decide +kernel
theorem dX3_deepest_23 : decode cX3_deepest 23 = .ok (.iinc 2 1, 3) := by decide +kernel
theorem dX3_deepest_26 : decode cX3_deepest 26 = .ok (.goto (-22), 3) := by decide +kernel
theorem dX3_deepest_29 : decode cX3_deepest 29 = .ok (.iload_n 1, 1) := by decide +kernel
theorem dX3_deepest_30 : decode cX3_deepest 30 = .ok (.ireturn, 1) := by decide +kernel
theorem dX3_cost_0 : decode cX3_cost 0 = .ok (.lconst 0, 1) := by decide +kernel
theorem dX3_cost_1 : decode cX3_cost 1 = .ok (.lstore_n 1, 1) := by decide +kernel
theorem dX3_cost_2 : decode cX3_cost 2 = .ok (.iconst 0, 1) := by decide +kernel
theorem dX3_cost_3 : decode cX3_cost 3 = .ok (.istore_n 3, 1) := by decide +kernel
theorem dX3_cost_4 : decode cX3_cost 4 = .ok (.iload_n 3, 1) := by decide +kernel
theorem dX3_cost_5 : decode cX3_cost 5 = .ok (.aload_n 0, 1) := by decide +kernel
theorem dX3_cost_6 : decode cX3_cost 6 = .ok (.getfield 22, 3) := by decide +kernel
theorem dX3_cost_9 : decode cX3_cost 9 = .ok (.if_icmp .ge 27, 3) := by decide +kernel
theorem dX3_cost_12 : decode cX3_cost 12 = .ok (.lload_n 1, 1) := by decide +kernel
theorem dX3_cost_13 : decode cX3_cost 13 = .ok (.aload_n 0, 1) := by decide +kernel
theorem dX3_cost_14 : decode cX3_cost 14 = .ok (.getfield 13, 3) := by decide +kernel
theorem dX3_cost_17 : decode cX3_cost 17 = .ok (.iload_n 3, 1) := by decide +kernel
theorem dX3_cost_18 : decode cX3_cost 18 = .ok (.iaload, 1) := by decide +kernel
theorem dX3_cost_19 : decode cX3_cost 19 = .ok (.i2l, 1) := by decide +kernel
theorem dX3_cost_20 : decode cX3_cost 20 = .ok (.aload_n 0, 1) := by decide +kernel
theorem dX3_cost_21 : decode cX3_cost 21 = .ok (.getfield 16, 3) := by decide +kernel
theorem dX3_cost_24 : decode cX3_cost 24 = .ok (.iload_n 3, 1) := by decide +kernel
theorem dX3_cost_25 : decode cX3_cost 25 = .ok (.iaload, 1) := by decide +kernel
theorem dX3_cost_26 : decode cX3_cost 26 = .ok (.i2l, 1) := by decide +kernel
theorem dX3_cost_27 : decode cX3_cost 27 = .ok (.lmul, 1) := by decide +kernel
theorem dX3_cost_28 : decode cX3_cost 28 = .ok (.ladd, 1) := by decide +kernel
theorem dX3_cost_29 : decode cX3_cost 29 = .ok (.lstore_n 1, 1) := by decide +kernel
theorem dX3_cost_30 : decode cX3_cost 30 = .ok (.iinc 3 1, 3) := by decide +kernel
theorem dX3_cost_33 : decode cX3_cost 33 = .ok (.goto (-29), 3) := by decide +kernel
theorem dX3_cost_36 : decode cX3_cost 36 = .ok (.lload_n 1, 1) := by decide +kernel
theorem dX3_cost_37 : decode cX3_cost 37 = .ok (.lreturn, 1) := by decide +kernel
theorem dX4_init_0 : decode cX4_init 0 = .ok (.aload_n 0, 1) := by decide +kernel
theorem dX4_init_1 : decode cX4_init 1 = .ok (.invokespecial 1, 3) := by decide +kernel
theorem dX4_init_4 : decode cX4_init 4 = .ok (.aload_n 0, 1) := by decide +kernel
theorem dX4_init_5 : decode cX4_init 5 = .ok (.iconst 2, 1) := by decide +kernel
theorem dX4_init_6 : decode cX4_init 6 = .ok (.iload_n 1, 1) := by decide +kernel
theorem dX4_init_7 : decode cX4_init 7 = .ok (.imul, 1) := by decide +kernel
theorem dX4_init_8 : decode cX4_init 8 = .ok (.newarray .int, 2) := by decide +kernel
theorem dX4_init_10 : decode cX4_init 10 = .ok (.putfield 7, 3) := by decide +kernel
theorem dX4_init_13 : decode cX4_init 13 = .ok (.aload_n 0, 1) := by decide +kernel
theorem dX4_init_14 : decode cX4_init 14 = .ok (.iconst 2, 1) := by decide +kernel
theorem dX4_init_15 : decode cX4_init 15 = .ok (.iload_n 1, 1) := by decide +kernel
theorem dX4_init_16 : decode cX4_init 16 = .ok (.imul, 1) := by decide +kernel
theorem dX4_init_17 : decode cX4_init 17 = .ok (.newarray .int, 2) := by decide +kernel
theorem dX4_init_19 : decode cX4_init 19 = .ok (.putfield 13, 3) := by decide +kernel
theorem dX4_init_22 : decode cX4_init 22 = .ok (.aload_n 0, 1) := by decide +kernel
theorem dX4_init_23 : decode cX4_init 23 = .ok (.iconst 2, 1) := by decide +kernel
theorem dX4_init_24 : decode cX4_init 24 = .ok (.iload_n 1, 1) := by decide +kernel
theorem dX4_init_25 : decode cX4_init 25 = .ok (.imul, 1) := by decide +kernel
theorem dX4_init_26 : decode cX4_init 26 = .ok (.newarray .int, 2) := by decide +kernel
theorem dX4_init_28 : decode cX4_init 28 = .ok (.putfield 16, 3) := by decide +kernel
theorem dX4_init_31 : decode cX4_init 31 = .ok (.aload_n 0, 1) := by decide +kernel
theorem dX4_init_32 : decode cX4_init 32 = .ok (.iload_n 1, 1) := by decide +kernel
theorem dX4_init_33 : decode cX4_init 33 = .ok (.newarray .int, 2) := by decide +kernel
theorem dX4_init_35 : decode cX4_init 35 = .ok (.putfield 19, 3) := by decide +kernel
theorem dX4_init_38 : decode cX4_init 38 = .ok (.return_, 1) := by decide +kernel
set_option maxRecDepth 20000 in
theorem ggX4_measureByHeap_X4_takeLeast : GoodIn wsX4_measureByHeap wsX4_takeLeast := goodIn_r _ [12, 7, 6, 13, 14, 15, 11, 16, 1, 32, 33, 34, 35, 36, 37, 38] (by decide +kernel) (by decide +kernel)
set_option maxRecDepth 20000 in
theorem gX4_measureByHeap_X4_takeLeast : GoodIn wsX4_measureByHeap (wsV RX4 38 RX4 yX4_takeLeast wsX4_takeLeast) := goodIn_app (goodIn_of _ (by decide +kernel)) ggX4_measureByHeap_X4_takeLeast
set_option maxRecDepth 20000 in
theorem ggX4_measureByHeap_X4_join : GoodIn wsX4_measureByHeap wsX4_join := goodIn_r _ [20, 1, 21, 32, 33, 34, 35, 36, 37, 38] (by decide +kernel) (by decide +kernel)
set_option maxRecDepth 20000 in
theorem gX4_measureByHeap_X4_join : GoodIn wsX4_measureByHeap (wsV RX4 42 RX4 yX4_join wsX4_join) := goodIn_app (goodIn_of _ (by decide +kernel)) ggX4_measureByHeap_X4_join
set_option maxRecDepth 20000 in
theorem ggX4_measureByHeap_X4_findDepths : GoodIn wsX4_measureByHeap wsX4_findDepths := goodIn_r _ [25, 26, 21, 2, 3, 4, 5, 27, 28, 29, 30, 31, 32, 33, 34, 35, 36, 37, 38] (by decide +kernel) (by decide +kernel)
set_option maxRecDepth 20000 in
theorem gX4_measureByHeap_X4_findDepths : GoodIn wsX4_measureByHeap (wsV RX4 46 RX4 yX4_findDepths wsX4_findDepths) := goodIn_app (goodIn_of _ (by decide +kernel)) ggX4_measureByHeap_X4_findDepths
theorem dX4_measureByHeap_0 : decode cX4_measureByHeap 0 = .ok (.aload_n 1, 1) := by decide +kernel
theorem dX4_measureByHeap_1 : decode cX4_measureByHeap 1 = .ok (.getfield 22, 3) := by decide +kernel
theorem dX4_measureByHeap_4 : decode cX4_measureByHeap 4 = .ok (.iconst 0, 1) := by decide +kernel
theorem dX4_measureByHeap_5 : decode cX4_measureByHeap 5 = .ok (.aload_n 0, 1) := by decide +kernel
theorem dX4_measureByHeap_6 : decode cX4_measureByHeap 6 = .ok (.getfield 7, 3) := by decide +kernel
theorem dX4_measureByHeap_9 : decode cX4_measureByHeap 9 = .ok (.iconst 0, 1) := by decide +kernel
theorem dX4_measureByHeap_10 : decode cX4_measureByHeap 10 = .ok (.aload_n 1, 1) := by decide +kernel
theorem dX4_measureByHeap_11 : decode cX4_measureByHeap 11 = .ok (.getfield 25, 3) := by decide +kernel
theorem dX4_measureByHeap_14 : decode cX4_measureByHeap 14 = .ok (.invokestatic 29, 3) := by decide +kernel
theorem dX4_measureByHeap_17 : decode cX4_measureByHeap 17 = .ok (.iconst 0, 1) := by decide +kernel
theorem dX4_measureByHeap_18 : decode cX4_measureByHeap 18 = .ok (.istore_n 2, 1) := by decide +kernel
theorem dX4_measureByHeap_19 : decode cX4_measureByHeap 19 = .ok (.iload_n 2, 1) := by decide +kernel
theorem dX4_measureByHeap_20 : decode cX4_measureByHeap 20 = .ok (.aload_n 1, 1) := by decide +kernel
theorem dX4_measureByHeap_21 : decode cX4_measureByHeap 21 = .ok (.getfield 25, 3) := by decide +kernel
theorem dX4_measureByHeap_24 : decode cX4_measureByHeap 24 = .ok (.if_icmp .ge 16, 3) := by decide +kernel
theorem dX4_measureByHeap_27 : decode cX4_measureByHeap 27 = .ok (.aload_n 0, 1) := by decide +kernel
theorem dX4_measureByHeap_28 : decode cX4_measureByHeap 28 = .ok (.getfield 19, 3) := by decide +kernel
theorem dX4_measureByHeap_31 : decode cX4_measureByHeap 31 = .ok (.iload_n 2, 1) := by decide +kernel
theorem dX4_measureByHeap_32 : decode cX4_measureByHeap 32 = .ok (.iload_n 2, 1) := by decide +kernel
theorem dX4_measureByHeap_33 : decode cX4_measureByHeap 33 = .ok (.iastore, 1) := by decide +kernel
theorem dX4_measureByHeap_34 : decode cX4_measureByHeap 34 = .ok (.iinc 2 1, 3) := by decide +kernel
theorem dX4_measureByHeap_37 : decode cX4_measureByHeap 37 = .ok (.goto (-18), 3) := by decide +kernel
theorem dX4_measureByHeap_40 : decode cX4_measureByHeap 40 = .ok (.aload_n 0, 1) := by decide +kernel
theorem dX4_measureByHeap_41 : decode cX4_measureByHeap 41 = .ok (.aload_n 1, 1) := by decide +kernel
theorem dX4_measureByHeap_42 : decode cX4_measureByHeap 42 = .ok (.getfield 25, 3) := by decide +kernel
theorem dX4_measureByHeap_45 : decode cX4_measureByHeap 45 = .ok (.putfield 35, 3) := by decide +kernel
theorem dX4_measureByHeap_48 : decode cX4_measureByHeap 48 = .ok (.aload_n 1, 1) := by decide +kernel
theorem dX4_measureByHeap_49 : decode cX4_measureByHeap 49 = .ok (.getfield 25, 3) := by decide +kernel
theorem dX4_measureByHeap_52 : decode cX4_measureByHeap 52 = .ok (.istore_n 2, 1) := by decide +kernel
theorem dX4_measureByHeap_53 : decode cX4_measureByHeap 53 = .ok (.iload_n 2, 1) := by decide +kernel
theorem dX4_measureByHeap_54 : decode cX4_measureByHeap 54 = .ok (.iconst 2, 1) := by decide +kernel
theorem dX4_measureByHeap_55 : decode cX4_measureByHeap 55 = .ok (.aload_n 1, 1) := by decide +kernel
theorem dX4_measureByHeap_56 : decode cX4_measureByHeap 56 = .ok (.getfield 25, 3) := by decide +kernel
theorem dX4_measureByHeap_59 : decode cX4_measureByHeap 59 = .ok (.imul, 1) := by decide +kernel
theorem dX4_measureByHeap_60 : decode cX4_measureByHeap 60 = .ok (.iconst 1, 1) := by decide +kernel
theorem dX4_measureByHeap_61 : decode cX4_measureByHeap 61 = .ok (.isub, 1) := by decide +kernel
theorem dX4_measureByHeap_62 : decode cX4_measureByHeap 62 = .ok (.if_icmp .ge 42, 3) := by decide +kernel
theorem dX4_measureByHeap_65 : decode cX4_measureByHeap 65 = .ok (.aload_n 0, 1) := by decide +kernel
theorem dX4_measureByHeap_66 : decode cX4_measureByHeap 66 = .ok (.aload_n 0, 1) := by decide +kernel
theorem dX4_measureByHeap_67 : decode cX4_measureByHeap 67 = .ok (.invokevirtual 38, 3) := by decide +kernel
theorem dX4_measureByHeap_70 : decode cX4_measureByHeap 70 = .ok (.aload_n 0, 1) := by decide +kernel
theorem dX4_measureByHeap_71 : decode cX4_measureByHeap 71 = .ok (.invokevirtual 38, 3) := by decide +kernel
theorem dX4_measureByHeap_74 : decode cX4_measureByHeap 74 = .ok (.iload_n 2, 1) := by decide +kernel
theorem dX4_measureByHeap_75 : decode cX4_measureByHeap 75 = .ok (.invokevirtual 42, 3) := by decide +kernel
theorem dX4_measureByHeap_78 : decode cX4_measureByHeap 78 = .ok (.aload_n 0, 1) := by decide +kernel
theorem dX4_measureByHeap_79 : decode cX4_measureByHeap 79 = .ok (.getfield 19, 3) := by decide +kernel
theorem dX4_measureByHeap_82 : decode cX4_measureByHeap 82 = .ok (.aload_n 0, 1) := by decide +kernel
theorem dX4_measureByHeap_83 : decode cX4_measureByHeap 83 = .ok (.getfield 35, 3) := by decide +kernel
theorem dX4_measureByHeap_86 : decode cX4_measureByHeap 86 = .ok (.iload_n 2, 1) := by decide +kernel
theorem dX4_measureByHeap_87 : decode cX4_measureByHeap 87 = .ok (.iastore, 1) := by decide +kernel
theorem dX4_measureByHeap_88 : decode cX4_measureByHeap 88 = .ok (.aload_n 0, 1) := by decide +kernel
theorem dX4_measureByHeap_89 : decode cX4_measureByHeap 89 = .ok (.dup, 1) := by decide +kernel
theorem dX4_measureByHeap_90 : decode cX4_measureByHeap 90 = .ok (.getfield 35, 3) := by decide +kernel
theorem dX4_measureByHeap_93 : decode cX4_measureByHeap 93 = .ok (.iconst 1, 1) := by decide +kernel
theorem dX4_measureByHeap_94 : decode cX4_measureByHeap 94 = .ok (.iadd, 1) := by decide +kernel
theorem dX4_measureByHeap_95 : decode cX4_measureByHeap 95 = .ok (.putfield 35, 3) := by decide +kernel
theorem dX4_measureByHeap_98 : decode cX4_measureByHeap 98 = .ok (.iinc 2 1, 3) := by decide +kernel
theorem dX4_measureByHeap_101 : decode cX4_measureByHeap 101 = .ok (.goto (-48), 3) := by decide +kernel
theorem dX4_measureByHeap_104 : decode cX4_measureByHeap 104 = .ok (.aload_n 0, 1) := by decide +kernel
theorem dX4_measureByHeap_105 : decode cX4_measureByHeap 105 = .ok (.aload_n 1, 1) := by decide +kernel
theorem dX4_measureByHeap_106 : decode cX4_measureByHeap 106 = .ok (.invokevirtual 46, 3) := by decide +kernel
theorem dX4_measureByHeap_109 : decode cX4_measureByHeap 109 = .ok (.return_, 1) := by decide +kernel
set_option maxRecDepth 20000 in
theorem ggX4_takeLeast_X4_isBefore : GoodIn wsX4_takeLeast wsX4_isBefore := goodIn_r _ [7, 8, 9, 10, 11, 12, 13, 14, 15] (by decide +kernel) (by decide +kernel)
set_option maxRecDepth 20000 in
theorem gX4_takeLeast_X4_isBefore : GoodIn wsX4_takeLeast (wsV RX4 50 RX4 yX4_isBefore wsX4_isBefore) := goodIn_app (goodIn_of _ (by decide +kernel)) ggX4_takeLeast_X4_isBefore
theorem dX4_takeLeast_0 : decode cX4_takeLeast 0 = .ok (.iconst 0, 1) := by decide +kernel
theorem dX4_takeLeast_1 : decode cX4_takeLeast 1 = .ok (.istore_n 1, 1) := by decide +kernel
theorem dX4_takeLeast_2 : decode cX4_takeLeast 2 = .ok (.iconst 1, 1) := by decide +kernel
theorem dX4_takeLeast_3 : decode cX4_takeLeast 3 = .ok (.istore_n 2, 1) := by decide +kernel
theorem dX4_takeLeast_4 : decode cX4_takeLeast 4 = .ok (.iload_n 2, 1) := by decide +kernel
theorem dX4_takeLeast_5 : decode cX4_takeLeast 5 = .ok (.aload_n 0, 1) := by decide +kernel
theorem dX4_takeLeast_6 : decode cX4_takeLeast 6 = .ok (.getfield 35, 3) := by decide +kernel
theorem dX4_takeLeast_9 : decode cX4_takeLeast 9 = .ok (.if_icmp .ge 30, 3) := by decide +kernel
theorem dX4_takeLeast_12 : decode cX4_takeLeast 12 = .ok (.aload_n 0, 1) := by decide +kernel
theorem dX4_takeLeast_13 : decode cX4_takeLeast 13 = .ok (.aload_n 0, 1) := by decide +kernel
theorem dX4_takeLeast_14 : decode cX4_takeLeast 14 = .ok (.getfield 19, 3) := by decide +kernel
theorem dX4_takeLeast_17 : decode cX4_takeLeast 17 = .ok (.iload_n 2, 1) := by decide +kernel
theorem dX4_takeLeast_18 : decode cX4_takeLeast 18 = .ok (.iaload, 1) := by decide +kernel
theorem dX4_takeLeast_19 : decode cX4_takeLeast 19 = .ok (.aload_n 0, 1) := by decide +kernel
theorem dX4_takeLeast_20 : decode cX4_takeLeast 20 = .ok (.getfield 19, 3) := by decide +kernel
theorem dX4_takeLeast_23 : decode cX4_takeLeast 23 = .ok (.iload_n 1, 1) := by decide +kernel
theorem dX4_takeLeast_24 : decode cX4_takeLeast 24 = .ok (.iaload, 1) := by decide +kernel
theorem dX4_takeLeast_25 : decode cX4_takeLeast 25 = .ok (.invokevirtual 50, 3) := by decide +kernel
theorem dX4_takeLeast_28 : decode cX4_takeLeast 28 = .ok (.ifCond .eq 5, 3) := by decide +kernel
theorem dX4_takeLeast_31 : decode cX4_takeLeast 31 = .ok (.iload_n 2, 1) := by decide +kernel
theorem dX4_takeLeast_32 : decode cX4_takeLeast 32 = .ok (.istore_n 1, 1) := by decide +kernel
theorem dX4_takeLeast_33 : decode cX4_takeLeast 33 = .ok (.iinc 2 1, 3) := by decide +kernel
theorem dX4_takeLeast_36 : decode cX4_takeLeast 36 = .ok (.goto (-32), 3) := by decide +kernel
theorem dX4_takeLeast_39 : decode cX4_takeLeast 39 = .ok (.aload_n 0, 1) := by decide +kernel
theorem dX4_takeLeast_40 : decode cX4_takeLeast 40 = .ok (.getfield 19, 3) := by decide +kernel
theorem dX4_takeLeast_43 : decode cX4_takeLeast 43 = .ok (.iload_n 1, 1) := by decide +kernel
theorem dX4_takeLeast_44 : decode cX4_takeLeast 44 = .ok (.iaload, 1) := by decide +kernel
theorem dX4_takeLeast_45 : decode cX4_takeLeast 45 = .ok (.istore_n 2, 1) := by decide +kernel
theorem dX4_takeLeast_46 : decode cX4_takeLeast 46 = .ok (.aload_n 0, 1) := by decide +kernel
theorem dX4_takeLeast_47 : decode cX4_takeLeast 47 = .ok (.dup, 1) := by decide +kernel
theorem dX4_takeLeast_48 : decode cX4_takeLeast 48 = .ok (.getfield 35, 3) := by decide +kernel
theorem dX4_takeLeast_51 : decode cX4_takeLeast 51 = .ok (.iconst 1, 1) := by decide +kernel
theorem dX4_takeLeast_52 : decode cX4_takeLeast 52 = .ok (.isub, 1) := by decide +kernel
theorem dX4_takeLeast_53 : decode cX4_takeLeast 53 = .ok (.putfield 35, 3) := by decide +kernel
theorem dX4_takeLeast_56 : decode cX4_takeLeast 56 = .ok (.aload_n 0, 1) := by decide +kernel
theorem dX4_takeLeast_57 : decode cX4_takeLeast 57 = .ok (.getfield 19, 3) := by decide +kernel
theorem dX4_takeLeast_60 : decode cX4_takeLeast 60 = .ok (.iload_n 1, 1) := by decide +kernel
theorem dX4_takeLeast_61 : decode cX4_takeLeast 61 = .ok (.aload_n 0, 1) := by decide +kernel
theorem dX4_takeLeast_62 : decode cX4_takeLeast 62 = .ok (.getfield 19, 3) := by decide +kernel
theorem dX4_takeLeast_65 : decode cX4_takeLeast 65 = .ok (.aload_n 0, 1) := by decide +kernel
theorem dX4_takeLeast_66 : decode cX4_takeLeast 66 = .ok (.getfield 35, 3) := by decide +kernel
theorem dX4_takeLeast_69 : decode cX4_takeLeast 69 = .ok (.iaload, 1) := by decide +kernel
theorem dX4_takeLeast_70 : decode cX4_takeLeast 70 = .ok (.iastore, 1) := by decide +kernel
theorem dX4_takeLeast_71 : decode cX4_takeLeast 71 = .ok (.iload_n 2, 1) := by decide +kernel
theorem dX4_takeLeast_72 : decode cX4_takeLeast 72 = .ok (.ireturn, 1) := by decide +kernel
theorem dX4_isBefore_0 : decode cX4_isBefore 0 = .ok (.aload_n 0, 1) := by decide +kernel
theorem dX4_isBefore_1 : decode cX4_isBefore 1 = .ok (.getfield 7, 3) := by decide +kernel
theorem dX4_isBefore_4 : decode cX4_isBefore 4 = .ok (.iload_n 1, 1) := by decide +kernel
theorem dX4_isBefore_5 : decode cX4_isBefore 5 = .ok (.iaload, 1) := by decide +kernel
theorem dX4_isBefore_6 : decode cX4_isBefore 6 = .ok (.aload_n 0, 1) := by decide +kernel
theorem dX4_isBefore_7 : decode cX4_isBefore 7 = .ok (.getfield 7, 3) := by decide +kernel
theorem dX4_isBefore_10 : decode cX4_isBefore 10 = .ok (.iload_n 2, 1) := by decide +kernel
theorem dX4_isBefore_11 : decode cX4_isBefore 11 = .ok (.iaload, 1) := by decide +kernel
theorem dX4_isBefore_12 : decode cX4_isBefore 12 = .ok (.if_icmp .lt 23, 3) := by decide +kernel
theorem dX4_isBefore_15 : decode cX4_isBefore 15 = .ok (.aload_n 0, 1) := by decide +kernel
theorem dX4_isBefore_16 : decode cX4_isBefore 16 = .ok (.getfield 7, 3) := by decide +kernel
theorem dX4_isBefore_19 : decode cX4_isBefore 19 = .ok (.iload_n 1, 1) := by decide +kernel
theorem dX4_isBefore_20 : decode cX4_isBefore 20 = .ok (.iaload, 1) := by decide +kernel
theorem dX4_isBefore_21 : decode cX4_isBefore 21 = .ok (.aload_n 0, 1) := by decide +kernel
theorem dX4_isBefore_22 : decode cX4_isBefore 22 = .ok (.getfield 7, 3) := by decide +kernel
theorem dX4_isBefore_25 : decode cX4_isBefore 25 = .ok (.iload_n 2, 1) := by decide +kernel
theorem dX4_isBefore_26 : decode cX4_isBefore 26 = .ok (.iaload, 1) := by decide +kernel
theorem dX4_isBefore_27 : decode cX4_isBefore 27 = .ok (.if_icmp .ne 12, 3) := by decide +kernel
theorem dX4_isBefore_30 : decode cX4_isBefore 30 = .ok (.iload_n 1, 1) := by decide +kernel
theorem dX4_isBefore_31 : decode cX4_isBefore 31 = .ok (.iload_n 2, 1) := by decide +kernel
theorem dX4_isBefore_32 : decode cX4_isBefore 32 = .ok (.if_icmp .le 7, 3) := by decide +kernel
theorem dX4_isBefore_35 : decode cX4_isBefore 35 = .ok (.iconst 1, 1) := by decide +kernel
theorem dX4_isBefore_36 : decode cX4_isBefore 36 = .ok (.goto 4, 3) := by decide +kernel
theorem dX4_isBefore_39 : decode cX4_isBefore 39 = .ok (.iconst 0, 1) := by decide +kernel
theorem dX4_isBefore_40 : decode cX4_isBefore 40 = .ok (.ireturn, 1) := by decide +kernel
set_option maxRecDepth 20000 in
theorem ggX4_measureByQueues_X3_lineUpRising : GoodIn wsX4_measureByQueues wsX3_lineUpRising := goodIn_r _ [12, 13, 14, 15, 11, 16, 17, 18, 19, 35, 36, 37, 38, 39] (by decide +kernel) (by decide +kernel)
set_option maxRecDepth 20000 in
theorem gX4_measureByQueues_X3_lineUpRising : GoodIn wsX4_measureByQueues (wsV RX4 54 RX3 yX3_lineUpRising wsX3_lineUpRising) := goodIn_app (goodIn_of _ (by decide +kernel)) ggX4_measureByQueues_X3_lineUpRising
set_option maxRecDepth 20000 in
theorem ggX4_measureByQueues_X4_takeFront : GoodIn wsX4_measureByQueues wsX4_takeFront := goodIn_r _ [24, 6, 7, 1, 40, 41, 42, 43, 44, 45, 46, 35, 36, 37, 38, 39] (by decide +kernel) (by decide +kernel)
set_option maxRecDepth 20000 in
theorem gX4_measureByQueues_X4_takeFront : GoodIn wsX4_measureByQueues (wsV RX4 63 RX4 yX4_takeFront wsX4_takeFront) := goodIn_app (goodIn_of _ (by decide +kernel)) ggX4_measureByQueues_X4_takeFront
set_option maxRecDepth 20000 in
theorem ggX4_measureByQueues_X4_join : GoodIn wsX4_measureByQueues wsX4_join := goodIn_r _ [28, 1, 29, 40, 41, 42, 43, 44, 45, 46] (by decide +kernel) (by decide +kernel)
set_option maxRecDepth 20000 in
theorem gX4_measureByQueues_X4_join : GoodIn wsX4_measureByQueues (wsV RX4 42 RX4 yX4_join wsX4_join) := goodIn_app (goodIn_of _ (by decide +kernel)) ggX4_measureByQueues_X4_join
set_option maxRecDepth 20000 in
theorem ggX4_measureByQueues_X4_findDepths : GoodIn wsX4_measureByQueues wsX4_findDepths := goodIn_r _ [33, 34, 29, 2, 3, 4, 5, 35, 36, 37, 38, 39, 40, 41, 42, 43, 44, 45, 46] (by decide +kernel) (by decide +kernel)
set_option maxRecDepth 20000 in
theorem gX4_measureByQueues_X4_findDepths : GoodIn wsX4_measureByQueues (wsV RX4 46 RX4 yX4_findDepths wsX4_findDepths) := goodIn_app (goodIn_of _ (by decide +kernel)) ggX4_measureByQueues_X4_findDepths
theorem dX4_measureByQueues_0 : decode cX4_measureByQueues 0 = .ok (.aload_n 1, 1) := by decide +kernel
theorem dX4_measureByQueues_1 : decode cX4_measureByQueues 1 = .ok (.getfield 22, 3) := by decide +kernel
theorem dX4_measureByQueues_4 : decode cX4_measureByQueues 4 = .ok (.iconst 0, 1) := by decide +kernel
theorem dX4_measureByQueues_5 : decode cX4_measureByQueues 5 = .ok (.aload_n 0, 1) := by decide +kernel
theorem dX4_measureByQueues_6 : decode cX4_measureByQueues 6 = .ok (.getfield 7, 3) := by decide +kernel
theorem dX4_measureByQueues_9 : decode cX4_measureByQueues 9 = .ok (.iconst 0, 1) := by decide +kernel
theorem dX4_measureByQueues_10 : decode cX4_measureByQueues 10 = .ok (.aload_n 1, 1) := by decide +kernel
theorem dX4_measureByQueues_11 : decode cX4_measureByQueues 11 = .ok (.getfield 25, 3) := by decide +kernel
theorem dX4_measureByQueues_14 : decode cX4_measureByQueues 14 = .ok (.invokestatic 29, 3) := by decide +kernel
theorem dX4_measureByQueues_17 : decode cX4_measureByQueues 17 = .ok (.aload_n 1, 1) := by decide +kernel
theorem dX4_measureByQueues_18 : decode cX4_measureByQueues 18 = .ok (.invokevirtual 54, 3) := by decide +kernel
theorem dX4_measureByQueues_21 : decode cX4_measureByQueues 21 = .ok (.aload_n 0, 1) := by decide +kernel
theorem dX4_measureByQueues_22 : decode cX4_measureByQueues 22 = .ok (.iconst 0, 1) := by decide +kernel
theorem dX4_measureByQueues_23 : decode cX4_measureByQueues 23 = .ok (.putfield 57, 3) := by decide +kernel
theorem dX4_measureByQueues_26 : decode cX4_measureByQueues 26 = .ok (.aload_n 0, 1) := by decide +kernel
theorem dX4_measureByQueues_27 : decode cX4_measureByQueues 27 = .ok (.aload_n 1, 1) := by decide +kernel
theorem dX4_measureByQueues_28 : decode cX4_measureByQueues 28 = .ok (.getfield 25, 3) := by decide +kernel
theorem dX4_measureByQueues_31 : decode cX4_measureByQueues 31 = .ok (.putfield 60, 3) := by decide +kernel
theorem dX4_measureByQueues_34 : decode cX4_measureByQueues 34 = .ok (.aload_n 1, 1) := by decide +kernel
theorem dX4_measureByQueues_35 : decode cX4_measureByQueues 35 = .ok (.getfield 25, 3) := by decide +kernel
theorem dX4_measureByQueues_38 : decode cX4_measureByQueues 38 = .ok (.istore_n 2, 1) := by decide +kernel
theorem dX4_measureByQueues_39 : decode cX4_measureByQueues 39 = .ok (.iload_n 2, 1) := by decide +kernel
theorem dX4_measureByQueues_40 : decode cX4_measureByQueues 40 = .ok (.iconst 2, 1) := by decide +kernel
theorem dX4_measureByQueues_41 : decode cX4_measureByQueues 41 = .ok (.aload_n 1, 1) := by decide +kernel
theorem dX4_measureByQueues_42 : decode cX4_measureByQueues 42 = .ok (.getfield 25, 3) := by decide +kernel
theorem dX4_measureByQueues_45 : decode cX4_measureByQueues 45 = .ok (.imul, 1) := by decide +kernel
theorem dX4_measureByQueues_46 : decode cX4_measureByQueues 46 = .ok (.iconst 1, 1) := by decide +kernel
theorem dX4_measureByQueues_47 : decode cX4_measureByQueues 47 = .ok (.isub, 1) := by decide +kernel
theorem dX4_measureByQueues_48 : decode cX4_measureByQueues 48 = .ok (.if_icmp .ge 32, 3) := by decide +kernel
theorem dX4_measureByQueues_51 : decode cX4_measureByQueues 51 = .ok (.aload_n 0, 1) := by decide +kernel
theorem dX4_measureByQueues_52 : decode cX4_measureByQueues 52 = .ok (.aload_n 1, 1) := by decide +kernel
theorem dX4_measureByQueues_53 : decode cX4_measureByQueues 53 = .ok (.iload_n 2, 1) := by decide +kernel
theorem dX4_measureByQueues_54 : decode cX4_measureByQueues 54 = .ok (.invokevirtual 63, 3) := by decide +kernel
theorem dX4_measureByQueues_57 : decode cX4_measureByQueues 57 = .ok (.istore_n 3, 1) := by decide +kernel
theorem dX4_measureByQueues_58 : decode cX4_measureByQueues 58 = .ok (.aload_n 0, 1) := by decide +kernel
theorem dX4_measureByQueues_59 : decode cX4_measureByQueues 59 = .ok (.aload_n 1, 1) := by decide +kernel
theorem dX4_measureByQueues_60 : decode cX4_measureByQueues 60 = .ok (.iload_n 2, 1) := by decide +kernel
theorem dX4_measureByQueues_61 : decode cX4_measureByQueues 61 = .ok (.invokevirtual 63, 3) := by decide +kernel
theorem dX4_measureByQueues_64 : decode cX4_measureByQueues 64 = .ok (.istore 4, 2) := by decide +kernel
theorem dX4_measureByQueues_66 : decode cX4_measureByQueues 66 = .ok (.aload_n 0, 1) := by decide +kernel
theorem dX4_measureByQueues_67 : decode cX4_measureByQueues 67 = .ok (.iload_n 3, 1) := by decide +kernel
theorem dX4_measureByQueues_68 : decode cX4_measureByQueues 68 = .ok (.iload 4, 2) := by decide +kernel
theorem dX4_measureByQueues_70 : decode cX4_measureByQueues 70 = .ok (.iload_n 2, 1) := by decide +kernel
theorem dX4_measureByQueues_71 : decode cX4_measureByQueues 71 = .ok (.invokevirtual 42, 3) := by decide +kernel
theorem dX4_measureByQueues_74 : decode cX4_measureByQueues 74 = .ok (.iinc 2 1, 3) := by decide +kernel
theorem dX4_measureByQueues_77 : decode cX4_measureByQueues 77 = .ok (.goto (-38), 3) := by decide +kernel
theorem dX4_measureByQueues_80 : decode cX4_measureByQueues 80 = .ok (.aload_n 0, 1) := by decide +kernel
theorem dX4_measureByQueues_81 : decode cX4_measureByQueues 81 = .ok (.aload_n 1, 1) := by decide +kernel
theorem dX4_measureByQueues_82 : decode cX4_measureByQueues 82 = .ok (.invokevirtual 46, 3) := by decide +kernel
theorem dX4_measureByQueues_85 : decode cX4_measureByQueues 85 = .ok (.return_, 1) := by decide +kernel
theorem dX4_takeFront_0 : decode cX4_takeFront 0 = .ok (.aload_n 0, 1) := by decide +kernel
theorem dX4_takeFront_1 : decode cX4_takeFront 1 = .ok (.getfield 57, 3) := by decide +kernel
theorem dX4_takeFront_4 : decode cX4_takeFront 4 = .ok (.aload_n 1, 1) := by decide +kernel
theorem dX4_takeFront_5 : decode cX4_takeFront 5 = .ok (.getfield 25, 3) := by decide +kernel
theorem dX4_takeFront_8 : decode cX4_takeFront 8 = .ok (.if_icmp .ge 41, 3) := by decide +kernel
theorem dX4_takeFront_11 : decode cX4_takeFront 11 = .ok (.aload_n 0, 1) := by decide +kernel
theorem dX4_takeFront_12 : decode cX4_takeFront 12 = .ok (.getfield 60, 3) := by decide +kernel
theorem dX4_takeFront_15 : decode cX4_takeFront 15 = .ok (.iload_n 2, 1) := by decide +kernel
theorem dX4_takeFront_16 : decode cX4_takeFront 16 = .ok (.if_icmp .ge 29, 3) := by decide +kernel
theorem dX4_takeFront_19 : decode cX4_takeFront 19 = .ok (.aload_n 0, 1) := by decide +kernel
theorem dX4_takeFront_20 : decode cX4_takeFront 20 = .ok (.getfield 7, 3) := by decide +kernel
theorem dX4_takeFront_23 : decode cX4_takeFront 23 = .ok (.aload_n 1, 1) := by decide +kernel
theorem dX4_takeFront_24 : decode cX4_takeFront 24 = .ok (.getfield 67, 3) := by decide +kernel
theorem dX4_takeFront_27 : decode cX4_takeFront 27 = .ok (.aload_n 0, 1) := by decide +kernel
theorem dX4_takeFront_28 : decode cX4_takeFront 28 = .ok (.getfield 57, 3) := by decide +kernel
theorem dX4_takeFront_31 : decode cX4_takeFront 31 = .ok (.iaload, 1) := by decide +kernel
theorem dX4_takeFront_32 : decode cX4_takeFront 32 = .ok (.iaload, 1) := by decide +kernel
theorem dX4_takeFront_33 : decode cX4_takeFront 33 = .ok (.aload_n 0, 1) := by decide +kernel
theorem dX4_takeFront_34 : decode cX4_takeFront 34 = .ok (.getfield 7, 3) := by decide +kernel
theorem dX4_takeFront_37 : decode cX4_takeFront 37 = .ok (.aload_n 0, 1) := by decide +kernel
theorem dX4_takeFront_38 : decode cX4_takeFront 38 = .ok (.getfield 60, 3) := by decide +kernel
theorem dX4_takeFront_41 : decode cX4_takeFront 41 = .ok (.iaload, 1) := by decide +kernel
theorem dX4_takeFront_42 : decode cX4_takeFront 42 = .ok (.if_icmp .gt 7, 3) := by decide +kernel
theorem dX4_takeFront_45 : decode cX4_takeFront 45 = .ok (.iconst 1, 1) := by decide +kernel
theorem dX4_takeFront_46 : decode cX4_takeFront 46 = .ok (.goto 4, 3) := by decide +kernel
theorem dX4_takeFront_49 : decode cX4_takeFront 49 = .ok (.iconst 0, 1) := by decide +kernel
theorem dX4_takeFront_50 : decode cX4_takeFront 50 = .ok (.istore_n 3, 1) := by decide +kernel
theorem dX4_takeFront_51 : decode cX4_takeFront 51 = .ok (.iload_n 3, 1) := by decide +kernel
theorem dX4_takeFront_52 : decode cX4_takeFront 52 = .ok (.ifCond .eq 25, 3) := by decide +kernel
theorem dX4_takeFront_55 : decode cX4_takeFront 55 = .ok (.aload_n 0, 1) := by decide +kernel
theorem dX4_takeFront_56 : decode cX4_takeFront 56 = .ok (.dup, 1) := by decide +kernel
theorem dX4_takeFront_57 : decode cX4_takeFront 57 = .ok (.getfield 57, 3) := by decide +kernel
theorem dX4_takeFront_60 : decode cX4_takeFront 60 = .ok (.iconst 1, 1) := by decide +kernel
theorem dX4_takeFront_61 : decode cX4_takeFront 61 = .ok (.iadd, 1) := by decide +kernel
theorem dX4_takeFront_62 : decode cX4_takeFront 62 = .ok (.putfield 57, 3) := by decide +kernel
theorem dX4_takeFront_65 : decode cX4_takeFront 65 = .ok (.aload_n 1, 1) := by decide +kernel
theorem dX4_takeFront_66 : decode cX4_takeFront 66 = .ok (.getfield 67, 3) := by decide +kernel
theorem dX4_takeFront_69 : decode cX4_takeFront 69 = .ok (.aload_n 0, 1) := by decide +kernel
theorem dX4_takeFront_70 : decode cX4_takeFront 70 = .ok (.getfield 57, 3) := by decide +kernel
theorem dX4_takeFront_73 : decode cX4_takeFront 73 = .ok (.iconst 1, 1) := by decide +kernel
theorem dX4_takeFront_74 : decode cX4_takeFront 74 = .ok (.isub, 1) := by decide +kernel
theorem dX4_takeFront_75 : decode cX4_takeFront 75 = .ok (.iaload, 1) := by decide +kernel
theorem dX4_takeFront_76 : decode cX4_takeFront 76 = .ok (.ireturn, 1) := by decide +kernel
theorem dX4_takeFront_77 : decode cX4_takeFront 77 = .ok (.aload_n 0, 1) := by decide +kernel
theorem dX4_takeFront_78 : decode cX4_takeFront 78 = .ok (.dup, 1) := by decide +kernel
theorem dX4_takeFront_79 : decode cX4_takeFront 79 = .ok (.getfield 60, 3) := by decide +kernel
theorem dX4_takeFront_82 : decode cX4_takeFront 82 = .ok (.iconst 1, 1) := by decide +kernel
theorem dX4_takeFront_83 : decode cX4_takeFront 83 = .ok (.iadd, 1) := by decide +kernel
theorem dX4_takeFront_84 : decode cX4_takeFront 84 = .ok (.putfield 60, 3) := by decide +kernel
theorem dX4_takeFront_87 : decode cX4_takeFront 87 = .ok (.aload_n 0, 1) := by decide +kernel
theorem dX4_takeFront_88 : decode cX4_takeFront 88 = .ok (.getfield 60, 3) := by decide +kernel
theorem dX4_takeFront_91 : decode cX4_takeFront 91 = .ok (.iconst 1, 1) := by decide +kernel
theorem dX4_takeFront_92 : decode cX4_takeFront 92 = .ok (.isub, 1) := by decide +kernel
theorem dX4_takeFront_93 : decode cX4_takeFront 93 = .ok (.ireturn, 1) := by decide +kernel
theorem dX4_join_0 : decode cX4_join 0 = .ok (.aload_n 0, 1) := by decide +kernel
theorem dX4_join_1 : decode cX4_join 1 = .ok (.getfield 7, 3) := by decide +kernel
theorem dX4_join_4 : decode cX4_join 4 = .ok (.iload_n 3, 1) := by decide +kernel
theorem dX4_join_5 : decode cX4_join 5 = .ok (.aload_n 0, 1) := by decide +kernel
theorem dX4_join_6 : decode cX4_join 6 = .ok (.getfield 7, 3) := by decide +kernel
theorem dX4_join_9 : decode cX4_join 9 = .ok (.iload_n 1, 1) := by decide +kernel
theorem dX4_join_10 : decode cX4_join 10 = .ok (.iaload, 1) := by decide +kernel
theorem dX4_join_11 : decode cX4_join 11 = .ok (.aload_n 0, 1) := by decide +kernel
theorem dX4_join_12 : decode cX4_join 12 = .ok (.getfield 7, 3) := by decide +kernel
theorem dX4_join_15 : decode cX4_join 15 = .ok (.iload_n 2, 1) := by decide +kernel
theorem dX4_join_16 : decode cX4_join 16 = .ok (.iaload, 1) := by decide +kernel
theorem dX4_join_17 : decode cX4_join 17 = .ok (.iadd, 1) := by decide +kernel
theorem dX4_join_18 : decode cX4_join 18 = .ok (.iastore, 1) := by decide +kernel
theorem dX4_join_19 : decode cX4_join 19 = .ok (.aload_n 0, 1) := by decide +kernel
theorem dX4_join_20 : decode cX4_join 20 = .ok (.getfield 13, 3) := by decide +kernel
theorem dX4_join_23 : decode cX4_join 23 = .ok (.iload_n 1, 1) := by decide +kernel
theorem dX4_join_24 : decode cX4_join 24 = .ok (.iload_n 3, 1) := by decide +kernel
theorem dX4_join_25 : decode cX4_join 25 = .ok (.iastore, 1) := by decide +kernel
theorem dX4_join_26 : decode cX4_join 26 = .ok (.aload_n 0, 1) := by decide +kernel
theorem dX4_join_27 : decode cX4_join 27 = .ok (.getfield 13, 3) := by decide +kernel
theorem dX4_join_30 : decode cX4_join 30 = .ok (.iload_n 2, 1) := by decide +kernel
theorem dX4_join_31 : decode cX4_join 31 = .ok (.iload_n 3, 1) := by decide +kernel
theorem dX4_join_32 : decode cX4_join 32 = .ok (.iastore, 1) := by decide +kernel
theorem dX4_join_33 : decode cX4_join 33 = .ok (.return_, 1) := by decide +kernel
theorem dX4_findDepths_0 : decode cX4_findDepths 0 = .ok (.iconst 2, 1) := by decide +kernel
theorem dX4_findDepths_1 : decode cX4_findDepths 1 = .ok (.aload_n 1, 1) := by decide +kernel
theorem dX4_findDepths_2 : decode cX4_findDepths 2 = .ok (.getfield 25, 3) := by decide +kernel
theorem dX4_findDepths_5 : decode cX4_findDepths 5 = .ok (.imul, 1) := by decide +kernel
theorem dX4_findDepths_6 : decode cX4_findDepths 6 = .ok (.iconst 2, 1) := by decide +kernel
theorem dX4_findDepths_7 : decode cX4_findDepths 7 = .ok (.isub, 1) := by decide +kernel
theorem dX4_findDepths_8 : decode cX4_findDepths 8 = .ok (.istore_n 2, 1) := by decide +kernel
theorem dX4_findDepths_9 : decode cX4_findDepths 9 = .ok (.aload_n 0, 1) := by decide +kernel
theorem dX4_findDepths_10 : decode cX4_findDepths 10 = .ok (.getfield 16, 3) := by decide +kernel
theorem dX4_findDepths_13 : decode cX4_findDepths 13 = .ok (.iload_n 2, 1) := by decide +kernel
theorem dX4_findDepths_14 : decode cX4_findDepths 14 = .ok (.iconst 0, 1) := by decide +kernel
theorem dX4_findDepths_15 : decode cX4_findDepths 15 = .ok (.iastore, 1) := by decide +kernel
theorem dX4_findDepths_16 : decode cX4_findDepths 16 = .ok (.iload_n 2, 1) := by decide +kernel
theorem dX4_findDepths_17 : decode cX4_findDepths 17 = .ok (.iconst 1, 1) := by decide +kernel
theorem dX4_findDepths_18 : decode cX4_findDepths 18 = .ok (.isub, 1) := by decide +kernel
theorem dX4_findDepths_19 : decode cX4_findDepths 19 = .ok (.istore_n 3, 1) := by decide +kernel
theorem dX4_findDepths_20 : decode cX4_findDepths 20 = .ok (.iload_n 3, 1) := by decide +kernel
theorem dX4_findDepths_21 : decode cX4_findDepths 21 = .ok (.ifCond .lt 28, 3) := by decide +kernel
theorem dX4_findDepths_24 : decode cX4_findDepths 24 = .ok (.aload_n 0, 1) := by decide +kernel
theorem dX4_findDepths_25 : decode cX4_findDepths 25 = .ok (.getfield 16, 3) := by decide +kernel
theorem dX4_findDepths_28 : decode cX4_findDepths 28 = .ok (.iload_n 3, 1) := by decide +kernel
theorem dX4_findDepths_29 : decode cX4_findDepths 29 = .ok (.aload_n 0, 1) := by decide +kernel
theorem dX4_findDepths_30 : decode cX4_findDepths 30 = .ok (.getfield 16, 3) := by decide +kernel
theorem dX4_findDepths_33 : decode cX4_findDepths 33 = .ok (.aload_n 0, 1) := by decide +kernel
theorem dX4_findDepths_34 : decode cX4_findDepths 34 = .ok (.getfield 13, 3) := by decide +kernel
theorem dX4_findDepths_37 : decode cX4_findDepths 37 = .ok (.iload_n 3, 1) := by decide +kernel
theorem dX4_findDepths_38 : decode cX4_findDepths 38 = .ok (.iaload, 1) := by decide +kernel
theorem dX4_findDepths_39 : decode cX4_findDepths 39 = .ok (.iaload, 1) := by decide +kernel
theorem dX4_findDepths_40 : decode cX4_findDepths 40 = .ok (.iconst 1, 1) := by decide +kernel
theorem dX4_findDepths_41 : decode cX4_findDepths 41 = .ok (.iadd, 1) := by decide +kernel
theorem dX4_findDepths_42 : decode cX4_findDepths 42 = .ok (.iastore, 1) := by decide +kernel
theorem dX4_findDepths_43 : decode cX4_findDepths 43 = .ok (.iinc 3 (-1), 3) := by decide +kernel
theorem dX4_findDepths_46 : decode cX4_findDepths 46 = .ok (.goto (-26), 3) := by decide +kernel
theorem dX4_findDepths_49 : decode cX4_findDepths 49 = .ok (.aload_n 0, 1) := by decide +kernel
theorem dX4_findDepths_50 : decode cX4_findDepths 50 = .ok (.getfield 16, 3) := by decide +kernel
theorem dX4_findDepths_53 : decode cX4_findDepths 53 = .ok (.iconst 0, 1) := by decide +kernel
theorem dX4_findDepths_54 : decode cX4_findDepths 54 = .ok (.aload_n 1, 1) := by decide +kernel
theorem dX4_findDepths_55 : decode cX4_findDepths 55 = .ok (.getfield 70, 3) := by decide +kernel
theorem dX4_findDepths_58 : decode cX4_findDepths 58 = .ok (.iconst 0, 1) := by decide +kernel
theorem dX4_findDepths_59 : decode cX4_findDepths 59 = .ok (.aload_n 1, 1) := by decide +kernel
theorem dX4_findDepths_60 : decode cX4_findDepths 60 = .ok (.getfield 25, 3) := by decide +kernel
theorem dX4_findDepths_63 : decode cX4_findDepths 63 = .ok (.invokestatic 29, 3) := by decide +kernel
theorem dX4_findDepths_66 : decode cX4_findDepths 66 = .ok (.return_, 1) := by decide +kernel
set_option maxRecDepth 20000 in
theorem ggX5_init_X7_init : GoodIn wsX5_init wsX7_init := goodIn_r _ [7, 8, 9, 10, 1, 11, 12, 18, 19, 20, 13, 14, 15, 16, 17] (by decide +kernel) (by decide +kernel)
set_option maxRecDepth 20000 in
theorem gX5_init_X7_init : GoodIn wsX5_init (wsX7_init) := ggX5_init_X7_init
theorem dX5_init_0 : decode cX5_init 0 = .ok (.aload_n 0, 1) := by decide +kernel
theorem dX5_init_1 : decode cX5_init 1 = .ok (.iload_n 1, 1) := by decide +kernel
theorem dX5_init_2 : decode cX5_init 2 = .ok (.invokespecial 1, 3) := by decide +kernel
theorem dX5_init_5 : decode cX5_init 5 = .ok (.aload_n 0, 1) := by decide +kernel
theorem dX5_init_6 : decode cX5_init 6 = .ok (.iload_n 1, 1) := by decide +kernel
theorem dX5_init_7 : decode cX5_init 7 = .ok (.iload_n 1, 1) := by decide +kernel
theorem dX5_init_8 : decode cX5_init 8 = .ok (.iconst 1, 1) := by decide +kernel
theorem dX5_init_9 : decode cX5_init 9 = .ok (.iadd, 1) := by decide +kernel
theorem dX5_init_10 : decode cX5_init 10 = .ok (.imul, 1) := by decide +kernel
theorem dX5_init_11 : decode cX5_init 11 = .ok (.iconst 2, 1) := by decide +kernel
theorem dX5_init_12 : decode cX5_init 12 = .ok (.idiv, 1) := by decide +kernel
theorem dX5_init_13 : decode cX5_init 13 = .ok (.newarray .int, 2) := by decide +kernel
theorem dX5_init_15 : decode cX5_init 15 = .ok (.putfield 7, 3) := by decide +kernel
theorem dX5_init_18 : decode cX5_init 18 = .ok (.aload_n 0, 1) := by decide +kernel
theorem dX5_init_19 : decode cX5_init 19 = .ok (.iload_n 1, 1) := by decide +kernel
theorem dX5_init_20 : decode cX5_init 20 = .ok (.iconst 1, 1) := by decide +kernel
theorem dX5_init_21 : decode cX5_init 21 = .ok (.iadd, 1) := by decide +kernel
theorem dX5_init_22 : decode cX5_init 22 = .ok (.newarray .int, 2) := by decide +kernel
theorem dX5_init_24 : decode cX5_init 24 = .ok (.putfield 13, 3) := by decide +kernel
theorem dX5_init_27 : decode cX5_init 27 = .ok (.return_, 1) := by decide +kernel
set_option maxRecDepth 20000 in
theorem ggX5_measure_X3_lineUpBySymbols : GoodIn wsX5_measure wsX3_lineUpBySymbols := goodIn_r _ [7, 8, 9, 66, 67, 68, 69, 70] (by decide +kernel) (by decide +kernel)
set_option maxRecDepth 20000 in
theorem gX5_measure_X3_lineUpBySymbols : GoodIn wsX5_measure (wsV RX5 16 RX3 yX3_lineUpBySymbols wsX3_lineUpBySymbols) := goodIn_app (goodIn_of _ (by decide +kernel)) ggX5_measure_X3_lineUpBySymbols
set_option maxRecDepth 20000 in
theorem ggX5_measure_X5_spot : GoodIn wsX5_measure wsX5_spot := goodIn_r _ [13] (by decide +kernel) (by decide +kernel)
set_option maxRecDepth 20000 in
theorem gX5_measure_X5_spot : GoodIn wsX5_measure (va_wsS RX5 29 yX5_spot wsX5_spot) := goodIn_app (goodIn_of _ (by decide +kernel)) ggX5_measure_X5_spot
set_option maxRecDepth 20000 in
theorem ggX5_measure_X5_leastOf : GoodIn wsX5_measure wsX5_leastOf := goodIn_r _ [17, 18, 19, 20, 21, 1, 22, 23, 24, 12, 25, 2, 10, 11, 13, 26, 27, 28, 29, 61, 62, 63, 64, 65] (by decide +kernel) (by decide +kernel)
set_option maxRecDepth 20000 in
theorem gX5_measure_X5_leastOf : GoodIn wsX5_measure (wsV RX5 33 RX5 yX5_leastOf wsX5_leastOf) := goodIn_app (goodIn_of _ (by decide +kernel)) ggX5_measure_X5_leastOf
set_option maxRecDepth 20000 in
theorem ggX5_measure_X7_partAll : GoodIn wsX5_measure wsX7_partAll := goodIn_r _ [35, 36, 37, 38, 39, 40, 41, 42, 43, 44, 45, 46, 34, 47, 48, 49, 50, 51, 52, 53, 54, 55, 56, 57, 58, 59, 12, 60, 22, 23, 24, 25, 2, 10, 11, 13, 66, 67, 68, 69, 70, 71, 72, 73, 61, 62, 63, 64, 65] (by decide +kernel) (by decide +kernel)
set_option maxRecDepth 20000 in
theorem gX5_measure_X7_partAll_u36X5 : GoodIn wsX5_measure (va_wsU RX5 36 RX5 "PrefixSmith$Parting" ⟨"PrefixSmith$Ordered", "partAll", "(LPrefixSmith$Leaves;)V"⟩ yX7_partAll wsX7_partAll) := goodIn_app (goodIn_of _ (by decide +kernel)) ggX5_measure_X7_partAll
