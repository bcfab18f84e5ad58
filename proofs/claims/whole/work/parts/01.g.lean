theorem dX12_codesThere_0 : decode cX12_codesThere 0 = .ok (.iconst 0, 1) := by decide +kernel
theorem dX12_codesThere_1 : decode cX12_codesThere 1 = .ok (.istore_n 1, 1) := by decide +kernel
theorem dX12_codesThere_2 : decode cX12_codesThere 2 = .ok (.iconst 0, 1) := by decide +kernel
theorem dX12_codesThere_3 : decode cX12_codesThere 3 = .ok (.istore_n 2, 1) := by decide +kernel
theorem dX12_codesThere_4 : decode cX12_codesThere 4 = .ok (.iload_n 2, 1) := by decide +kernel
theorem dX12_codesThere_5 : decode cX12_codesThere 5 = .ok (.aload_n 0, 1) := by decide +kernel
theorem dX12_codesThere_6 : decode cX12_codesThere 6 = .ok (.getfield 93, 3) := by decide +kernel
theorem dX12_codesThere_9 : decode cX12_codesThere 9 = .ok (.if_icmp .ge 26, 3) := by decide +kernel
theorem dX12_codesThere_12 : decode cX12_codesThere 12 = .ok (.iload_n 1, 1) := by decide +kernel
theorem dX12_codesThere_13 : decode cX12_codesThere 13 = .ok (.aload_n 0, 1) := by decide +kernel
theorem dX12_codesThere_14 : decode cX12_codesThere 14 = .ok (.getfield 13, 3) := by decide +kernel
theorem dX12_codesThere_17 : decode cX12_codesThere 17 = .ok (.iload_n 2, 1) := by decide +kernel
theorem dX12_codesThere_18 : decode cX12_codesThere 18 = .ok (.iaload, 1) := by decide +kernel
theorem dX12_codesThere_19 : decode cX12_codesThere 19 = .ok (.ifCond .le 7, 3) := by decide +kernel
theorem dX12_codesThere_22 : decode cX12_codesThere 22 = .ok (.iconst 1, 1) := by decide +kernel
theorem dX12_codesThere_23 : decode cX12_codesThere 23 = .ok (.goto 4, 3) := by decide +kernel
theorem dX12_codesThere_26 : decode cX12_codesThere 26 = .ok (.iconst 0, 1) := by decide +kernel
theorem dX12_codesThere_27 : decode cX12_codesThere 27 = .ok (.iadd, 1) := by decide +kernel
theorem dX12_codesThere_28 : decode cX12_codesThere 28 = .ok (.istore_n 1, 1) := by decide +kernel
theorem dX12_codesThere_29 : decode cX12_codesThere 29 = .ok (.iinc 2 1, 3) := by decide +kernel
theorem dX12_codesThere_32 : decode cX12_codesThere 32 = .ok (.goto (-28), 3) := by decide +kernel
theorem dX12_codesThere_35 : decode cX12_codesThere 35 = .ok (.iload_n 1, 1) := by decide +kernel
theorem dX12_codesThere_36 : decode cX12_codesThere 36 = .ok (.ireturn, 1) := by decide +kernel
set_option maxRecDepth 20000 in
theorem ggX12_makeCodes_X12_codesThere : GoodIn wsX12_makeCodes wsX12_codesThere := goodIn_r _ [10, 3, 4, 15, 16, 17, 18, 19, 20, 21, 22, 23, 24, 25, 26, 27, 28, 29, 30, 31, 32, 33, 34, 35, 36, 37, 38, 39, 40, 41, 42, 43, 44, 45, 46, 47, 48, 49, 50, 51, 52, 53] (by decide +kernel) (by decide +kernel)
set_option maxRecDepth 20000 in
theorem gX12_makeCodes_X12_codesThere : GoodIn wsX12_makeCodes (wsV RX12 172 RX12 yX12_codesThere wsX12_codesThere) := goodIn_app (goodIn_of _ (by decide +kernel)) ggX12_makeCodes_X12_codesThere
set_option maxRecDepth 20000 in
theorem ggX12_makeCodes_X12_sumOf : GoodIn wsX12_makeCodes wsX12_sumOf := goodIn_r _ [14, 3, 1, 4, 15, 16, 17, 18, 19, 20, 21, 22, 23, 24, 25, 26, 27, 28, 29, 30, 31, 32, 33, 34, 35, 36, 37, 38, 39, 40, 41, 42, 43, 44, 45, 46, 47, 48, 49, 50, 51, 52, 53] (by decide +kernel) (by decide +kernel)
set_option maxRecDepth 20000 in
theorem gX12_makeCodes_X12_sumOf : GoodIn wsX12_makeCodes (wsV RX12 175 RX12 yX12_sumOf wsX12_sumOf) := goodIn_app (goodIn_of _ (by decide +kernel)) ggX12_makeCodes_X12_sumOf
theorem dX12_makeCodes_0 : decode cX12_makeCodes 0 = .ok (.aload_n 0, 1) := by decide +kernel
theorem dX12_makeCodes_1 : decode cX12_makeCodes 1 = .ok (.invokevirtual 172, 3) := by decide +kernel
theorem dX12_makeCodes_4 : decode cX12_makeCodes 4 = .ok (.ifCond .eq 12, 3) := by decide +kernel
theorem dX12_makeCodes_7 : decode cX12_makeCodes 7 = .ok (.aload_n 0, 1) := by decide +kernel
theorem dX12_makeCodes_8 : decode cX12_makeCodes 8 = .ok (.invokevirtual 175, 3) := by decide +kernel
theorem dX12_makeCodes_11 : decode cX12_makeCodes 11 = .ok (.ldc 171, 2) := by decide +kernel
theorem dX12_makeCodes_13 : decode cX12_makeCodes 13 = .ok (.if_icmp .le 5, 3) := by decide +kernel
theorem dX12_makeCodes_16 : decode cX12_makeCodes 16 = .ok (.iconst 0, 1) := by decide +kernel
theorem dX12_makeCodes_17 : decode cX12_makeCodes 17 = .ok (.ireturn, 1) := by decide +kernel
theorem dX12_makeCodes_18 : decode cX12_makeCodes 18 = .ok (.iconst 0, 1) := by decide +kernel
theorem dX12_makeCodes_19 : decode cX12_makeCodes 19 = .ok (.istore_n 1, 1) := by decide +kernel
theorem dX12_makeCodes_20 : decode cX12_makeCodes 20 = .ok (.iconst 1, 1) := by decide +kernel
theorem dX12_makeCodes_21 : decode cX12_makeCodes 21 = .ok (.istore_n 2, 1) := by decide +kernel
theorem dX12_makeCodes_22 : decode cX12_makeCodes 22 = .ok (.aload_n 0, 1) := by decide +kernel
theorem dX12_makeCodes_23 : decode cX12_makeCodes 23 = .ok (.getfield 160, 3) := by decide +kernel
theorem dX12_makeCodes_26 : decode cX12_makeCodes 26 = .ok (.ifCond .eq 8, 3) := by decide +kernel
theorem dX12_makeCodes_29 : decode cX12_makeCodes 29 = .ok (.bipush 24, 2) := by decide +kernel
theorem dX12_makeCodes_31 : decode cX12_makeCodes 31 = .ok (.goto 4, 3) := by decide +kernel
theorem dX12_makeCodes_34 : decode cX12_makeCodes 34 = .ok (.iconst 1, 1) := by decide +kernel
theorem dX12_makeCodes_35 : decode cX12_makeCodes 35 = .ok (.istore_n 3, 1) := by decide +kernel
theorem dX12_makeCodes_36 : decode cX12_makeCodes 36 = .ok (.iload_n 3, 1) := by decide +kernel
theorem dX12_makeCodes_37 : decode cX12_makeCodes 37 = .ok (.bipush 24, 2) := by decide +kernel
theorem dX12_makeCodes_39 : decode cX12_makeCodes 39 = .ok (.if_icmp .gt 105, 3) := by decide +kernel
theorem dX12_makeCodes_42 : decode cX12_makeCodes 42 = .ok (.iconst 0, 1) := by decide +kernel
theorem dX12_makeCodes_43 : decode cX12_makeCodes 43 = .ok (.istore 4, 2) := by decide +kernel
theorem dX12_makeCodes_45 : decode cX12_makeCodes 45 = .ok (.iload 4, 2) := by decide +kernel
theorem dX12_makeCodes_47 : decode cX12_makeCodes 47 = .ok (.aload_n 0, 1) := by decide +kernel
theorem dX12_makeCodes_48 : decode cX12_makeCodes 48 = .ok (.getfield 93, 3) := by decide +kernel
theorem dX12_makeCodes_51 : decode cX12_makeCodes 51 = .ok (.if_icmp .ge 87, 3) := by decide +kernel
theorem dX12_makeCodes_54 : decode cX12_makeCodes 54 = .ok (.aload_n 0, 1) := by decide +kernel
theorem dX12_makeCodes_55 : decode cX12_makeCodes 55 = .ok (.getfield 13, 3) := by decide +kernel
theorem dX12_makeCodes_58 : decode cX12_makeCodes 58 = .ok (.iload 4, 2) := by decide +kernel
theorem dX12_makeCodes_60 : decode cX12_makeCodes 60 = .ok (.iaload, 1) := by decide +kernel
theorem dX12_makeCodes_61 : decode cX12_makeCodes 61 = .ok (.ifCond .eq 71, 3) := by decide +kernel
theorem dX12_makeCodes_64 : decode cX12_makeCodes 64 = .ok (.aload_n 0, 1) := by decide +kernel
theorem dX12_makeCodes_65 : decode cX12_makeCodes 65 = .ok (.getfield 160, 3) := by decide +kernel
theorem dX12_makeCodes_68 : decode cX12_makeCodes 68 = .ok (.ifCond .ne 17, 3) := by decide +kernel
theorem dX12_makeCodes_71 : decode cX12_makeCodes 71 = .ok (.aload_n 0, 1) := by decide +kernel
theorem dX12_makeCodes_72 : decode cX12_makeCodes 72 = .ok (.getfield 13, 3) := by decide +kernel
theorem dX12_makeCodes_75 : decode cX12_makeCodes 75 = .ok (.iload 4, 2) := by decide +kernel
theorem dX12_makeCodes_77 : decode cX12_makeCodes 77 = .ok (.iaload, 1) := by decide +kernel
theorem dX12_makeCodes_78 : decode cX12_makeCodes 78 = .ok (.iload_n 3, 1) := by decide +kernel
theorem dX12_makeCodes_79 : decode cX12_makeCodes 79 = .ok (.if_icmp .eq 6, 3) := by decide +kernel
theorem dX12_makeCodes_82 : decode cX12_makeCodes 82 = .ok (.goto 50, 3) := by decide +kernel
theorem dX12_makeCodes_85 : decode cX12_makeCodes 85 = .ok (.iconst 1, 1) := by decide +kernel
theorem dX12_makeCodes_86 : decode cX12_makeCodes 86 = .ok (.bipush 24, 2) := by decide +kernel
theorem dX12_makeCodes_88 : decode cX12_makeCodes 88 = .ok (.aload_n 0, 1) := by decide +kernel
theorem dX12_makeCodes_89 : decode cX12_makeCodes 89 = .ok (.getfield 13, 3) := by decide +kernel
theorem dX12_makeCodes_92 : decode cX12_makeCodes 92 = .ok (.iload 4, 2) := by decide +kernel
theorem dX12_makeCodes_94 : decode cX12_makeCodes 94 = .ok (.iaload, 1) := by decide +kernel
theorem dX12_makeCodes_95 : decode cX12_makeCodes 95 = .ok (.isub, 1) := by decide +kernel
theorem dX12_makeCodes_96 : decode cX12_makeCodes 96 = .ok (.ishl, 1) := by decide +kernel
theorem dX12_makeCodes_97 : decode cX12_makeCodes 97 = .ok (.istore 5, 2) := by decide +kernel
theorem dX12_makeCodes_99 : decode cX12_makeCodes 99 = .ok (.iload_n 2, 1) := by decide +kernel
theorem dX12_makeCodes_100 : decode cX12_makeCodes 100 = .ok (.ifCond .eq 14, 3) := by decide +kernel
theorem dX12_makeCodes_103 : decode cX12_makeCodes 103 = .ok (.iload_n 1, 1) := by decide +kernel
theorem dX12_makeCodes_104 : decode cX12_makeCodes 104 = .ok (.iload 5, 2) := by decide +kernel
theorem dX12_makeCodes_106 : decode cX12_makeCodes 106 = .ok (.irem, 1) := by decide +kernel
theorem dX12_makeCodes_107 : decode cX12_makeCodes 107 = .ok (.ifCond .ne 7, 3) := by decide +kernel
theorem dX12_makeCodes_110 : decode cX12_makeCodes 110 = .ok (.iconst 1, 1) := by decide +kernel
theorem dX12_makeCodes_111 : decode cX12_makeCodes 111 = .ok (.goto 4, 3) := by decide +kernel
theorem dX12_makeCodes_114 : decode cX12_makeCodes 114 = .ok (.iconst 0, 1) := by decide +kernel
theorem dX12_makeCodes_115 : decode cX12_makeCodes 115 = .ok (.istore_n 2, 1) := by decide +kernel
theorem dX12_makeCodes_116 : decode cX12_makeCodes 116 = .ok (.aload_n 0, 1) := by decide +kernel
theorem dX12_makeCodes_117 : decode cX12_makeCodes 117 = .ok (.getfield 16, 3) := by decide +kernel
theorem dX12_makeCodes_120 : decode cX12_makeCodes 120 = .ok (.iload 4, 2) := by decide +kernel
theorem dX12_makeCodes_122 : decode cX12_makeCodes 122 = .ok (.iload_n 1, 1) := by decide +kernel
theorem dX12_makeCodes_123 : decode cX12_makeCodes 123 = .ok (.iload 5, 2) := by decide +kernel
theorem dX12_makeCodes_125 : decode cX12_makeCodes 125 = .ok (.idiv, 1) := by decide +kernel
theorem dX12_makeCodes_126 : decode cX12_makeCodes 126 = .ok (.iastore, 1) := by decide +kernel
theorem dX12_makeCodes_127 : decode cX12_makeCodes 127 = .ok (.iload_n 1, 1) := by decide +kernel
theorem dX12_makeCodes_128 : decode cX12_makeCodes 128 = .ok (.iload 5, 2) := by decide +kernel
theorem dX12_makeCodes_130 : decode cX12_makeCodes 130 = .ok (.iadd, 1) := by decide +kernel
theorem dX12_makeCodes_131 : decode cX12_makeCodes 131 = .ok (.istore_n 1, 1) := by decide +kernel
theorem dX12_makeCodes_132 : decode cX12_makeCodes 132 = .ok (.iinc 4 1, 3) := by decide +kernel
theorem dX12_makeCodes_135 : decode cX12_makeCodes 135 = .ok (.goto (-90), 3) := by decide +kernel
theorem dX12_makeCodes_138 : decode cX12_makeCodes 138 = .ok (.iinc 3 1, 3) := by decide +kernel
theorem dX12_makeCodes_141 : decode cX12_makeCodes 141 = .ok (.goto (-105), 3) := by decide +kernel
theorem dX12_makeCodes_144 : decode cX12_makeCodes 144 = .ok (.iload_n 2, 1) := by decide +kernel
theorem dX12_makeCodes_145 : decode cX12_makeCodes 145 = .ok (.ireturn, 1) := by decide +kernel
set_option maxRecDepth 20000 in
theorem ggX12_length_X12_isSymbol : GoodIn wsX12_length wsX12_isSymbol := goodIn_r _ [6, 7, 8, 9, 5, 10, 11, 12, 13, 14, 15, 16, 17, 18, 19, 20, 21, 22, 23, 24, 25, 26, 27, 28, 29, 30, 31, 32, 33, 34, 35, 36, 37, 38, 39, 40, 41, 42, 43, 44, 45, 46, 47, 48, 49] (by decide +kernel) (by decide +kernel)
set_option maxRecDepth 20000 in
theorem gX12_length_X12_isSymbol : GoodIn wsX12_length (wsV RX12 103 RX12 yX12_isSymbol wsX12_isSymbol) := goodIn_app (goodIn_of _ (by decide +kernel)) ggX12_length_X12_isSymbol
theorem dX12_length_0 : decode cX12_length 0 = .ok (.aload_n 0, 1) := by decide +kernel
theorem dX12_length_1 : decode cX12_length 1 = .ok (.iload_n 1, 1) := by decide +kernel
theorem dX12_length_2 : decode cX12_length 2 = .ok (.invokevirtual 103, 3) := by decide +kernel
theorem dX12_length_5 : decode cX12_length 5 = .ok (.ifCond .eq 12, 3) := by decide +kernel
theorem dX12_length_8 : decode cX12_length 8 = .ok (.aload_n 0, 1) := by decide +kernel
theorem dX12_length_9 : decode cX12_length 9 = .ok (.getfield 13, 3) := by decide +kernel
theorem dX12_length_12 : decode cX12_length 12 = .ok (.iload_n 1, 1) := by decide +kernel
theorem dX12_length_13 : decode cX12_length 13 = .ok (.iaload, 1) := by decide +kernel
theorem dX12_length_14 : decode cX12_length 14 = .ok (.goto 4, 3) := by decide +kernel
theorem dX12_length_17 : decode cX12_length 17 = .ok (.iconst (-1), 1) := by decide +kernel
theorem dX12_length_18 : decode cX12_length 18 = .ok (.ireturn, 1) := by decide +kernel
set_option maxRecDepth 20000 in
theorem ggX12_poke_X12_isSymbol : GoodIn wsX12_poke wsX12_isSymbol := goodIn_r _ [9, 10, 11, 12, 8, 13, 14, 15, 16, 17, 18, 19, 20, 21, 22, 23, 24, 25, 26, 27, 28, 29, 30, 31, 32, 33, 34, 35, 36, 37, 38, 39, 40, 41, 42, 43, 44, 45, 46, 47, 48, 49, 50, 51, 52] (by decide +kernel) (by decide +kernel)
set_option maxRecDepth 20000 in
theorem gX12_poke_X12_isSymbol : GoodIn wsX12_poke (wsV RX12 103 RX12 yX12_isSymbol wsX12_isSymbol) := goodIn_app (goodIn_of _ (by decide +kernel)) ggX12_poke_X12_isSymbol
set_option maxRecDepth 20000 in
theorem ggX12_poke_X12_within : GoodIn wsX12_poke wsX12_within := goodIn_r _ [13] (by decide +kernel) (by decide +kernel)
set_option maxRecDepth 20000 in
theorem gX12_poke_X12_within : GoodIn wsX12_poke (va_wsS RX12 99 yX12_within wsX12_within) := goodIn_app (goodIn_of _ (by decide +kernel)) ggX12_poke_X12_within
theorem dX12_poke_0 : decode cX12_poke 0 = .ok (.aload_n 0, 1) := by decide +kernel
theorem dX12_poke_1 : decode cX12_poke 1 = .ok (.iload_n 1, 1) := by decide +kernel
theorem dX12_poke_2 : decode cX12_poke 2 = .ok (.invokevirtual 103, 3) := by decide +kernel
theorem dX12_poke_5 : decode cX12_poke 5 = .ok (.ifCond .eq 15, 3) := by decide +kernel
theorem dX12_poke_8 : decode cX12_poke 8 = .ok (.iload_n 2, 1) := by decide +kernel
theorem dX12_poke_9 : decode cX12_poke 9 = .ok (.iconst 0, 1) := by decide +kernel
theorem dX12_poke_10 : decode cX12_poke 10 = .ok (.aload_n 0, 1) := by decide +kernel
theorem dX12_poke_11 : decode cX12_poke 11 = .ok (.getfield 96, 3) := by decide +kernel
theorem dX12_poke_14 : decode cX12_poke 14 = .ok (.invokestatic 99, 3) := by decide +kernel
theorem dX12_poke_17 : decode cX12_poke 17 = .ok (.ifCond .ne 5, 3) := by decide +kernel
theorem dX12_poke_20 : decode cX12_poke 20 = .ok (.iconst (-1), 1) := by decide +kernel
theorem dX12_poke_21 : decode cX12_poke 21 = .ok (.ireturn, 1) := by decide +kernel
theorem dX12_poke_22 : decode cX12_poke 22 = .ok (.aload_n 0, 1) := by decide +kernel
theorem dX12_poke_23 : decode cX12_poke 23 = .ok (.getfield 13, 3) := by decide +kernel
theorem dX12_poke_26 : decode cX12_poke 26 = .ok (.iload_n 1, 1) := by decide +kernel
theorem dX12_poke_27 : decode cX12_poke 27 = .ok (.iaload, 1) := by decide +kernel
theorem dX12_poke_28 : decode cX12_poke 28 = .ok (.istore_n 3, 1) := by decide +kernel
theorem dX12_poke_29 : decode cX12_poke 29 = .ok (.aload_n 0, 1) := by decide +kernel
theorem dX12_poke_30 : decode cX12_poke 30 = .ok (.getfield 13, 3) := by decide +kernel
theorem dX12_poke_33 : decode cX12_poke 33 = .ok (.iload_n 1, 1) := by decide +kernel
theorem dX12_poke_34 : decode cX12_poke 34 = .ok (.iload_n 2, 1) := by decide +kernel
theorem dX12_poke_35 : decode cX12_poke 35 = .ok (.iastore, 1) := by decide +kernel
theorem dX12_poke_36 : decode cX12_poke 36 = .ok (.aload_n 0, 1) := by decide +kernel
theorem dX12_poke_37 : decode cX12_poke 37 = .ok (.iconst 0, 1) := by decide +kernel
theorem dX12_poke_38 : decode cX12_poke 38 = .ok (.putfield 160, 3) := by decide +kernel
theorem dX12_poke_41 : decode cX12_poke 41 = .ok (.aload_n 0, 1) := by decide +kernel
theorem dX12_poke_42 : decode cX12_poke 42 = .ok (.iconst 0, 1) := by decide +kernel
theorem dX12_poke_43 : decode cX12_poke 43 = .ok (.putfield 164, 3) := by decide +kernel
theorem dX12_poke_46 : decode cX12_poke 46 = .ok (.iload_n 3, 1) := by decide +kernel
theorem dX12_poke_47 : decode cX12_poke 47 = .ok (.ireturn, 1) := by decide +kernel
set_option maxRecDepth 20000 in
theorem ggX12_load_X12_codesThere : GoodIn wsX12_load wsX12_codesThere := goodIn_r _ [6, 7, 8, 20, 21, 22, 23, 24, 25, 26, 27, 28, 29, 30, 31, 32, 33, 34, 35, 36, 37, 38, 39, 40, 41, 42, 43, 44, 45, 46, 47, 48, 49, 50, 51, 52, 53, 54, 55, 56, 57, 58] (by decide +kernel) (by decide +kernel)
set_option maxRecDepth 20000 in
theorem gX12_load_X12_codesThere : GoodIn wsX12_load (wsV RX12 172 RX12 yX12_codesThere wsX12_codesThere) := goodIn_app (goodIn_of _ (by decide +kernel)) ggX12_load_X12_codesThere
set_option maxRecDepth 20000 in
theorem ggX12_load_X12_makeCodes : GoodIn wsX12_load wsX12_makeCodes := goodIn_r _ [12, 13, 14, 7, 8, 15, 2, 3, 4, 5, 6, 16, 17, 18, 19, 20, 21, 22, 23, 24, 25, 26, 27, 28, 29, 30, 31, 32, 33, 34, 35, 36, 37, 38, 39, 40, 41, 42, 43, 44, 45, 46, 47, 48, 49, 50, 51, 52, 53, 54, 55, 56, 57, 58] (by decide +kernel) (by decide +kernel)
set_option maxRecDepth 20000 in
theorem gX12_load_X12_makeCodes : GoodIn wsX12_load (wsV RX12 167 RX12 yX12_makeCodes wsX12_makeCodes) := goodIn_app (goodIn_of _ (by decide +kernel)) ggX12_load_X12_makeCodes
theorem dX12_load_0 : decode cX12_load 0 = .ok (.aload_n 0, 1) := by decide +kernel
theorem dX12_load_1 : decode cX12_load 1 = .ok (.iconst 0, 1) := by decide +kernel
theorem dX12_load_2 : decode cX12_load 2 = .ok (.putfield 164, 3) := by decide +kernel
theorem dX12_load_5 : decode cX12_load 5 = .ok (.aload_n 0, 1) := by decide +kernel
theorem dX12_load_6 : decode cX12_load 6 = .ok (.invokevirtual 172, 3) := by decide +kernel
theorem dX12_load_9 : decode cX12_load 9 = .ok (.ifCond .ne 6, 3) := by decide +kernel
theorem dX12_load_12 : decode cX12_load 12 = .ok (.bipush (-2), 2) := by decide +kernel
theorem dX12_load_14 : decode cX12_load 14 = .ok (.ireturn, 1) := by decide +kernel
theorem dX12_load_15 : decode cX12_load 15 = .ok (.aload_n 0, 1) := by decide +kernel
theorem dX12_load_16 : decode cX12_load 16 = .ok (.aload_n 0, 1) := by decide +kernel
theorem dX12_load_17 : decode cX12_load 17 = .ok (.invokevirtual 167, 3) := by decide +kernel
theorem dX12_load_20 : decode cX12_load 20 = .ok (.putfield 164, 3) := by decide +kernel
theorem dX12_load_23 : decode cX12_load 23 = .ok (.aload_n 0, 1) := by decide +kernel
theorem dX12_load_24 : decode cX12_load 24 = .ok (.getfield 164, 3) := by decide +kernel
theorem dX12_load_27 : decode cX12_load 27 = .ok (.ifCond .eq 7, 3) := by decide +kernel
theorem dX12_load_30 : decode cX12_load 30 = .ok (.iconst 0, 1) := by decide +kernel
theorem dX12_load_31 : decode cX12_load 31 = .ok (.goto 5, 3) := by decide +kernel
theorem dX12_load_34 : decode cX12_load 34 = .ok (.bipush (-3), 2) := by decide +kernel
theorem dX12_load_36 : decode cX12_load 36 = .ok (.ireturn, 1) := by decide +kernel
set_option maxRecDepth 20000 in
theorem ggX12_code_X12_isSymbol : GoodIn wsX12_code wsX12_isSymbol := goodIn_r _ [8, 9, 10, 11, 7, 12, 13, 14, 15, 16, 17, 18, 19, 20, 21, 22, 23, 24, 25, 26, 27, 28, 29, 30, 31, 32, 33, 34, 35, 36, 37, 38, 39, 40, 41, 42, 43, 44, 45, 46, 47, 48, 49, 50, 51] (by decide +kernel) (by decide +kernel)
set_option maxRecDepth 20000 in
theorem gX12_code_X12_isSymbol : GoodIn wsX12_code (wsV RX12 103 RX12 yX12_isSymbol wsX12_isSymbol) := goodIn_app (goodIn_of _ (by decide +kernel)) ggX12_code_X12_isSymbol
theorem dX12_code_0 : decode cX12_code 0 = .ok (.aload_n 0, 1) := by decide +kernel
theorem dX12_code_1 : decode cX12_code 1 = .ok (.iload_n 1, 1) := by decide +kernel
theorem dX12_code_2 : decode cX12_code 2 = .ok (.invokevirtual 103, 3) := by decide +kernel
theorem dX12_code_5 : decode cX12_code 5 = .ok (.ifCond .eq 28, 3) := by decide +kernel
theorem dX12_code_8 : decode cX12_code 8 = .ok (.aload_n 0, 1) := by decide +kernel
theorem dX12_code_9 : decode cX12_code 9 = .ok (.getfield 164, 3) := by decide +kernel
theorem dX12_code_12 : decode cX12_code 12 = .ok (.ifCond .eq 21, 3) := by decide +kernel
theorem dX12_code_15 : decode cX12_code 15 = .ok (.aload_n 0, 1) := by decide +kernel
theorem dX12_code_16 : decode cX12_code 16 = .ok (.getfield 13, 3) := by decide +kernel
theorem dX12_code_19 : decode cX12_code 19 = .ok (.iload_n 1, 1) := by decide +kernel
theorem dX12_code_20 : decode cX12_code 20 = .ok (.iaload, 1) := by decide +kernel
theorem dX12_code_21 : decode cX12_code 21 = .ok (.ifCond .le 12, 3) := by decide +kernel
theorem dX12_code_24 : decode cX12_code 24 = .ok (.aload_n 0, 1) := by decide +kernel
theorem dX12_code_25 : decode cX12_code 25 = .ok (.getfield 16, 3) := by decide +kernel
theorem dX12_code_28 : decode cX12_code 28 = .ok (.iload_n 1, 1) := by decide +kernel
theorem dX12_code_29 : decode cX12_code 29 = .ok (.iaload, 1) := by decide +kernel
theorem dX12_code_30 : decode cX12_code 30 = .ok (.goto 4, 3) := by decide +kernel
theorem dX12_code_33 : decode cX12_code 33 = .ok (.iconst (-1), 1) := by decide +kernel
theorem dX12_code_34 : decode cX12_code 34 = .ok (.ireturn, 1) := by decide +kernel
theorem dX12_lay_0 : decode cX12_lay 0 = .ok (.iload_n 2, 1) := by decide +kernel
theorem dX12_lay_1 : decode cX12_lay 1 = .ok (.iconst 1, 1) := by decide +kernel
theorem dX12_lay_2 : decode cX12_lay 2 = .ok (.isub, 1) := by decide +kernel
theorem dX12_lay_3 : decode cX12_lay 3 = .ok (.istore_n 3, 1) := by decide +kernel
theorem dX12_lay_4 : decode cX12_lay 4 = .ok (.iload_n 3, 1) := by decide +kernel
theorem dX12_lay_5 : decode cX12_lay 5 = .ok (.ifCond .lt 42, 3) := by decide +kernel
theorem dX12_lay_8 : decode cX12_lay 8 = .ok (.aload_n 0, 1) := by decide +kernel
theorem dX12_lay_9 : decode cX12_lay 9 = .ok (.getfield 19, 3) := by decide +kernel
theorem dX12_lay_12 : decode cX12_lay 12 = .ok (.aload_n 0, 1) := by decide +kernel
theorem dX12_lay_13 : decode cX12_lay 13 = .ok (.getfield 178, 3) := by decide +kernel
theorem dX12_lay_16 : decode cX12_lay 16 = .ok (.iload_n 1, 1) := by decide +kernel
theorem dX12_lay_17 : decode cX12_lay 17 = .ok (.iload_n 3, 1) := by decide +kernel
theorem dX12_lay_18 : decode cX12_lay 18 = .ok (.ishr, 1) := by decide +kernel
theorem dX12_lay_19 : decode cX12_lay 19 = .ok (.iconst 1, 1) := by decide +kernel
theorem dX12_lay_20 : decode cX12_lay 20 = .ok (.iand, 1) := by decide +kernel
theorem dX12_lay_21 : decode cX12_lay 21 = .ok (.iconst 1, 1) := by decide +kernel
theorem dX12_lay_22 : decode cX12_lay 22 = .ok (.if_icmp .ne 7, 3) := by decide +kernel
theorem dX12_lay_25 : decode cX12_lay 25 = .ok (.iconst 1, 1) := by decide +kernel
theorem dX12_lay_26 : decode cX12_lay 26 = .ok (.goto 4, 3) := by decide +kernel
theorem dX12_lay_29 : decode cX12_lay 29 = .ok (.iconst 0, 1) := by decide +kernel
theorem dX12_lay_30 : decode cX12_lay 30 = .ok (.bastore, 1) := by decide +kernel
theorem dX12_lay_31 : decode cX12_lay 31 = .ok (.aload_n 0, 1) := by decide +kernel
theorem dX12_lay_32 : decode cX12_lay 32 = .ok (.dup, 1) := by decide +kernel
theorem dX12_lay_33 : decode cX12_lay 33 = .ok (.getfield 178, 3) := by decide +kernel
theorem dX12_lay_36 : decode cX12_lay 36 = .ok (.iconst 1, 1) := by decide +kernel
theorem dX12_lay_37 : decode cX12_lay 37 = .ok (.iadd, 1) := by decide +kernel
theorem dX12_lay_38 : decode cX12_lay 38 = .ok (.putfield 178, 3) := by decide +kernel
theorem dX12_lay_41 : decode cX12_lay 41 = .ok (.iinc 3 (-1), 3) := by decide +kernel
theorem dX12_lay_44 : decode cX12_lay 44 = .ok (.goto (-40), 3) := by decide +kernel
theorem dX12_lay_47 : decode cX12_lay 47 = .ok (.return_, 1) := by decide +kernel
theorem dX12_textBits_0 : decode cX12_textBits 0 = .ok (.iconst 0, 1) := by decide +kernel
theorem dX12_textBits_1 : decode cX12_textBits 1 = .ok (.istore_n 1, 1) := by decide +kernel
theorem dX12_textBits_2 : decode cX12_textBits 2 = .ok (.iconst 0, 1) := by decide +kernel
theorem dX12_textBits_3 : decode cX12_textBits 3 = .ok (.istore_n 2, 1) := by decide +kernel
theorem dX12_textBits_4 : decode cX12_textBits 4 = .ok (.iload_n 2, 1) := by decide +kernel
theorem dX12_textBits_5 : decode cX12_textBits 5 = .ok (.aload_n 0, 1) := by decide +kernel
theorem dX12_textBits_6 : decode cX12_textBits 6 = .ok (.getfield 107, 3) := by decide +kernel
theorem dX12_textBits_9 : decode cX12_textBits 9 = .ok (.if_icmp .ge 39, 3) := by decide +kernel
theorem dX12_textBits_12 : decode cX12_textBits 12 = .ok (.aload_n 0, 1) := by decide +kernel
theorem dX12_textBits_13 : decode cX12_textBits 13 = .ok (.getfield 13, 3) := by decide +kernel
theorem dX12_textBits_16 : decode cX12_textBits 16 = .ok (.aload_n 0, 1) := by decide +kernel
theorem dX12_textBits_17 : decode cX12_textBits 17 = .ok (.getfield 7, 3) := by decide +kernel
theorem dX12_textBits_20 : decode cX12_textBits 20 = .ok (.iload_n 2, 1) := by decide +kernel
theorem dX12_textBits_21 : decode cX12_textBits 21 = .ok (.iaload, 1) := by decide +kernel
theorem dX12_textBits_22 : decode cX12_textBits 22 = .ok (.iaload, 1) := by decide +kernel
theorem dX12_textBits_23 : decode cX12_textBits 23 = .ok (.ifCond .ne 5, 3) := by decide +kernel
theorem dX12_textBits_26 : decode cX12_textBits 26 = .ok (.iconst (-1), 1) := by decide +kernel
theorem dX12_textBits_27 : decode cX12_textBits 27 = .ok (.ireturn, 1) := by decide +kernel
theorem dX12_textBits_28 : decode cX12_textBits 28 = .ok (.iload_n 1, 1) := by decide +kernel
theorem dX12_textBits_29 : decode cX12_textBits 29 = .ok (.aload_n 0, 1) := by decide +kernel
theorem dX12_textBits_30 : decode cX12_textBits 30 = .ok (.getfield 13, 3) := by decide +kernel
theorem dX12_textBits_33 : decode cX12_textBits 33 = .ok (.aload_n 0, 1) := by decide +kernel
theorem dX12_textBits_34 : decode cX12_textBits 34 = .ok (.getfield 7, 3) := by decide +kernel
theorem dX12_textBits_37 : decode cX12_textBits 37 = .ok (.iload_n 2, 1) := by decide +kernel
theorem dX12_textBits_38 : decode cX12_textBits 38 = .ok (.iaload, 1) := by decide +kernel
theorem dX12_textBits_39 : decode cX12_textBits 39 = .ok (.iaload, 1) := by decide +kernel
theorem dX12_textBits_40 : decode cX12_textBits 40 = .ok (.iadd, 1) := by decide +kernel
theorem dX12_textBits_41 : decode cX12_textBits 41 = .ok (.istore_n 1, 1) := by decide +kernel
theorem dX12_textBits_42 : decode cX12_textBits 42 = .ok (.iinc 2 1, 3) := by decide +kernel
theorem dX12_textBits_45 : decode cX12_textBits 45 = .ok (.goto (-41), 3) := by decide +kernel
theorem dX12_textBits_48 : decode cX12_textBits 48 = .ok (.iload_n 1, 1) := by decide +kernel
theorem dX12_textBits_49 : decode cX12_textBits 49 = .ok (.ireturn, 1) := by decide +kernel
set_option maxRecDepth 20000 in
theorem ggX12_layText_X12_lay : GoodIn wsX12_layText wsX12_lay := goodIn_r _ [9, 10, 11, 12, 13, 14, 15, 16, 17, 18, 19, 20, 21, 22, 23, 24, 25, 26, 27, 28, 29, 30, 31, 32, 33, 34, 35, 36, 37, 38, 39, 40, 41, 42, 43, 44, 45, 46, 47, 48, 49, 50] (by decide +kernel) (by decide +kernel)
set_option maxRecDepth 20000 in
theorem gX12_layText_X12_lay : GoodIn wsX12_layText (wsV RX12 181 RX12 yX12_lay wsX12_lay) := goodIn_app (goodIn_of _ (by decide +kernel)) ggX12_layText_X12_lay
theorem dX12_layText_0 : decode cX12_layText 0 = .ok (.iconst 0, 1) := by decide +kernel
theorem dX12_layText_1 : decode cX12_layText 1 = .ok (.istore_n 1, 1) := by decide +kernel
theorem dX12_layText_2 : decode cX12_layText 2 = .ok (.iload_n 1, 1) := by decide +kernel
theorem dX12_layText_3 : decode cX12_layText 3 = .ok (.aload_n 0, 1) := by decide +kernel
theorem dX12_layText_4 : decode cX12_layText 4 = .ok (.getfield 107, 3) := by decide +kernel
theorem dX12_layText_7 : decode cX12_layText 7 = .ok (.if_icmp .ge 35, 3) := by decide +kernel
theorem dX12_layText_10 : decode cX12_layText 10 = .ok (.aload_n 0, 1) := by decide +kernel
theorem dX12_layText_11 : decode cX12_layText 11 = .ok (.aload_n 0, 1) := by decide +kernel
theorem dX12_layText_12 : decode cX12_layText 12 = .ok (.getfield 16, 3) := by decide +kernel
theorem dX12_layText_15 : decode cX12_layText 15 = .ok (.aload_n 0, 1) := by decide +kernel
theorem dX12_layText_16 : decode cX12_layText 16 = .ok (.getfield 7, 3) := by decide +kernel
theorem dX12_layText_19 : decode cX12_layText 19 = .ok (.iload_n 1, 1) := by decide +kernel
theorem dX12_layText_20 : decode cX12_layText 20 = .ok (.iaload, 1) := by decide +kernel
theorem dX12_layText_21 : decode cX12_layText 21 = .ok (.iaload, 1) := by decide +kernel
theorem dX12_layText_22 : decode cX12_layText 22 = .ok (.aload_n 0, 1) := by decide +kernel
theorem dX12_layText_23 : decode cX12_layText 23 = .ok (.getfield 13, 3) := by decide +kernel
theorem dX12_layText_26 : decode cX12_layText 26 = .ok (.aload_n 0, 1) := by decide +kernel
theorem dX12_layText_27 : decode cX12_layText 27 = .ok (.getfield 7, 3) := by decide +kernel
theorem dX12_layText_30 : decode cX12_layText 30 = .ok (.iload_n 1, 1) := by decide +kernel
theorem dX12_layText_31 : decode cX12_layText 31 = .ok (.iaload, 1) := by decide +kernel
theorem dX12_layText_32 : decode cX12_layText 32 = .ok (.iaload, 1) := by decide +kernel
theorem dX12_layText_33 : decode cX12_layText 33 = .ok (.invokevirtual 181, 3) := by decide +kernel
theorem dX12_layText_36 : decode cX12_layText 36 = .ok (.iinc 1 1, 3) := by decide +kernel
theorem dX12_layText_39 : decode cX12_layText 39 = .ok (.goto (-37), 3) := by decide +kernel
theorem dX12_layText_42 : decode cX12_layText 42 = .ok (.return_, 1) := by decide +kernel
set_option maxRecDepth 20000 in
theorem ggX12_encode_X12_textBits : GoodIn wsX12_encode wsX12_textBits := goodIn_r _ [7, 8, 9, 10, 21, 22, 23, 24, 25, 26, 27, 28, 29, 30, 31, 32, 33, 34, 35, 36, 37, 38, 39, 40, 41, 42, 43, 44, 45, 46, 47, 48, 49, 50, 51, 52, 53, 54, 55, 56, 57, 58, 59] (by decide +kernel) (by decide +kernel)
set_option maxRecDepth 20000 in
theorem gX12_encode_X12_textBits : GoodIn wsX12_encode (wsV RX12 185 RX12 yX12_textBits wsX12_textBits) := goodIn_app (goodIn_of _ (by decide +kernel)) ggX12_encode_X12_textBits
set_option maxRecDepth 20000 in
theorem ggX12_encode_X12_layText : GoodIn wsX12_encode wsX12_layText := goodIn_r _ [14, 8, 15, 10, 9, 16, 17, 18, 6, 19, 20, 2, 21, 22, 23, 24, 25, 26, 27, 28, 29, 30, 31, 32, 33, 34, 35, 36, 37, 38, 39, 40, 41, 42, 43, 44, 45, 46, 47, 48, 49, 50, 51, 52, 53, 54, 55, 56, 57, 58, 59] (by decide +kernel) (by decide +kernel)
set_option maxRecDepth 20000 in
theorem gX12_encode_X12_layText : GoodIn wsX12_encode (wsV RX12 188 RX12 yX12_layText wsX12_layText) := goodIn_app (goodIn_of _ (by decide +kernel)) ggX12_encode_X12_layText
theorem dX12_encode_0 : decode cX12_encode 0 = .ok (.aload_n 0, 1) := by decide +kernel
theorem dX12_encode_1 : decode cX12_encode 1 = .ok (.getfield 164, 3) := by decide +kernel
theorem dX12_encode_4 : decode cX12_encode 4 = .ok (.ifCond .ne 5, 3) := by decide +kernel
theorem dX12_encode_7 : decode cX12_encode 7 = .ok (.iconst (-1), 1) := by decide +kernel
theorem dX12_encode_8 : decode cX12_encode 8 = .ok (.ireturn, 1) := by decide +kernel
theorem dX12_encode_9 : decode cX12_encode 9 = .ok (.aload_n 0, 1) := by decide +kernel
theorem dX12_encode_10 : decode cX12_encode 10 = .ok (.invokevirtual 185, 3) := by decide +kernel
theorem dX12_encode_13 : decode cX12_encode 13 = .ok (.istore_n 1, 1) := by decide +kernel
theorem dX12_encode_14 : decode cX12_encode 14 = .ok (.iload_n 1, 1) := by decide +kernel
theorem dX12_encode_15 : decode cX12_encode 15 = .ok (.iconst (-1), 1) := by decide +kernel
theorem dX12_encode_16 : decode cX12_encode 16 = .ok (.if_icmp .eq 10, 3) := by decide +kernel
theorem dX12_encode_19 : decode cX12_encode 19 = .ok (.iload_n 1, 1) := by decide +kernel
theorem dX12_encode_20 : decode cX12_encode 20 = .ok (.sipush 6000, 3) := by decide +kernel
theorem dX12_encode_23 : decode cX12_encode 23 = .ok (.if_icmp .le 16, 3) := by decide +kernel
theorem dX12_encode_26 : decode cX12_encode 26 = .ok (.iload_n 1, 1) := by decide +kernel
theorem dX12_encode_27 : decode cX12_encode 27 = .ok (.iconst (-1), 1) := by decide +kernel
theorem dX12_encode_28 : decode cX12_encode 28 = .ok (.if_icmp .ne 8, 3) := by decide +kernel
theorem dX12_encode_31 : decode cX12_encode 31 = .ok (.bipush (-2), 2) := by decide +kernel
theorem dX12_encode_33 : decode cX12_encode 33 = .ok (.goto 5, 3) := by decide +kernel
theorem dX12_encode_36 : decode cX12_encode 36 = .ok (.bipush (-3), 2) := by decide +kernel
theorem dX12_encode_38 : decode cX12_encode 38 = .ok (.ireturn, 1) := by decide +kernel
theorem dX12_encode_39 : decode cX12_encode 39 = .ok (.aload_n 0, 1) := by decide +kernel
theorem dX12_encode_40 : decode cX12_encode 40 = .ok (.iconst 0, 1) := by decide +kernel
theorem dX12_encode_41 : decode cX12_encode 41 = .ok (.putfield 178, 3) := by decide +kernel
theorem dX12_encode_44 : decode cX12_encode 44 = .ok (.aload_n 0, 1) := by decide +kernel
theorem dX12_encode_45 : decode cX12_encode 45 = .ok (.invokevirtual 188, 3) := by decide +kernel
theorem dX12_encode_48 : decode cX12_encode 48 = .ok (.aload_n 0, 1) := by decide +kernel
theorem dX12_encode_49 : decode cX12_encode 49 = .ok (.getfield 178, 3) := by decide +kernel
theorem dX12_encode_52 : decode cX12_encode 52 = .ok (.ireturn, 1) := by decide +kernel
theorem dX12_readCode_0 : decode cX12_readCode 0 = .ok (.iconst 0, 1) := by decide +kernel
theorem dX12_readCode_1 : decode cX12_readCode 1 = .ok (.istore_n 1, 1) := by decide +kernel
theorem dX12_readCode_2 : decode cX12_readCode 2 = .ok (.iconst 0, 1) := by decide +kernel
theorem dX12_readCode_3 : decode cX12_readCode 3 = .ok (.istore_n 2, 1) := by decide +kernel
theorem dX12_readCode_4 : decode cX12_readCode 4 = .ok (.aload_n 0, 1) := by decide +kernel
theorem dX12_readCode_5 : decode cX12_readCode 5 = .ok (.getfield 191, 3) := by decide +kernel
theorem dX12_readCode_8 : decode cX12_readCode 8 = .ok (.aload_n 0, 1) := by decide +kernel
theorem dX12_readCode_9 : decode cX12_readCode 9 = .ok (.getfield 178, 3) := by decide +kernel
theorem dX12_readCode_12 : decode cX12_readCode 12 = .ok (.if_icmp .ge 157, 3) := by decide +kernel
theorem dX12_readCode_15 : decode cX12_readCode 15 = .ok (.iconst 2, 1) := by decide +kernel
theorem dX12_readCode_16 : decode cX12_readCode 16 = .ok (.iload_n 1, 1) := by decide +kernel
theorem dX12_readCode_17 : decode cX12_readCode 17 = .ok (.imul, 1) := by decide +kernel
theorem dX12_readCode_18 : decode cX12_readCode 18 = .ok (.aload_n 0, 1) := by decide +kernel
theorem dX12_readCode_19 : decode cX12_readCode 19 = .ok (.getfield 19, 3) := by decide +kernel
theorem dX12_readCode_22 : decode cX12_readCode 22 = .ok (.aload_n 0, 1) := by decide +kernel
theorem dX12_readCode_23 : decode cX12_readCode 23 = .ok (.getfield 191, 3) := by decide +kernel
theorem dX12_readCode_26 : decode cX12_readCode 26 = .ok (.baload, 1) := by decide +kernel
theorem dX12_readCode_27 : decode cX12_readCode 27 = .ok (.ifCond .eq 7, 3) := by decide +kernel
theorem dX12_readCode_30 : decode cX12_readCode 30 = .ok (.iconst 1, 1) := by decide +kernel
theorem dX12_readCode_31 : decode cX12_readCode 31 = .ok (.goto 4, 3) := by decide +kernel
theorem dX12_readCode_34 : decode cX12_readCode 34 = .ok (.iconst 0, 1) := by decide +kernel
theorem dX12_readCode_35 : decode cX12_readCode 35 = .ok (.iadd, 1) := by decide +kernel
theorem dX12_readCode_36 : decode cX12_readCode 36 = .ok (.istore_n 1, 1) := by decide +kernel
theorem dX12_readCode_37 : decode cX12_readCode 37 = .ok (.iinc 2 1, 3) := by decide +kernel
theorem dX12_readCode_40 : decode cX12_readCode 40 = .ok (.iconst 0, 1) := by decide +kernel
theorem dX12_readCode_41 : decode cX12_readCode 41 = .ok (.istore_n 3, 1) := by decide +kernel
theorem dX12_readCode_42 : decode cX12_readCode 42 = .ok (.iconst 0, 1) := by decide +kernel
theorem dX12_readCode_43 : decode cX12_readCode 43 = .ok (.istore 4, 2) := by decide +kernel
theorem dX12_readCode_45 : decode cX12_readCode 45 = .ok (.iload 4, 2) := by decide +kernel
theorem dX12_readCode_47 : decode cX12_readCode 47 = .ok (.aload_n 0, 1) := by decide +kernel
theorem dX12_readCode_48 : decode cX12_readCode 48 = .ok (.getfield 93, 3) := by decide +kernel
theorem dX12_readCode_51 : decode cX12_readCode 51 = .ok (.if_icmp .ge 91, 3) := by decide +kernel
theorem dX12_readCode_54 : decode cX12_readCode 54 = .ok (.aload_n 0, 1) := by decide +kernel
theorem dX12_readCode_55 : decode cX12_readCode 55 = .ok (.getfield 13, 3) := by decide +kernel
theorem dX12_readCode_58 : decode cX12_readCode 58 = .ok (.iload 4, 2) := by decide +kernel
theorem dX12_readCode_60 : decode cX12_readCode 60 = .ok (.iaload, 1) := by decide +kernel
theorem dX12_readCode_61 : decode cX12_readCode 61 = .ok (.iload_n 2, 1) := by decide +kernel
theorem dX12_readCode_62 : decode cX12_readCode 62 = .ok (.if_icmp .ne 32, 3) := by decide +kernel
theorem dX12_readCode_65 : decode cX12_readCode 65 = .ok (.aload_n 0, 1) := by decide +kernel
theorem dX12_readCode_66 : decode cX12_readCode 66 = .ok (.getfield 16, 3) := by decide +kernel
theorem dX12_readCode_69 : decode cX12_readCode 69 = .ok (.iload 4, 2) := by decide +kernel
theorem dX12_readCode_71 : decode cX12_readCode 71 = .ok (.iaload, 1) := by decide +kernel
theorem dX12_readCode_72 : decode cX12_readCode 72 = .ok (.iload_n 1, 1) := by decide +kernel
theorem dX12_readCode_73 : decode cX12_readCode 73 = .ok (.if_icmp .ne 21, 3) := by decide +kernel
theorem dX12_readCode_76 : decode cX12_readCode 76 = .ok (.aload_n 0, 1) := by decide +kernel
theorem dX12_readCode_77 : decode cX12_readCode 77 = .ok (.iload 4, 2) := by decide +kernel
theorem dX12_readCode_79 : decode cX12_readCode 79 = .ok (.putfield 194, 3) := by decide +kernel
theorem dX12_readCode_82 : decode cX12_readCode 82 = .ok (.aload_n 0, 1) := by decide +kernel
theorem dX12_readCode_83 : decode cX12_readCode 83 = .ok (.dup, 1) := by decide +kernel
theorem dX12_readCode_84 : decode cX12_readCode 84 = .ok (.getfield 191, 3) := by decide +kernel
theorem dX12_readCode_87 : decode cX12_readCode 87 = .ok (.iconst 1, 1) := by decide +kernel
theorem dX12_readCode_88 : decode cX12_readCode 88 = .ok (.iadd, 1) := by decide +kernel
theorem dX12_readCode_89 : decode cX12_readCode 89 = .ok (.putfield 191, 3) := by decide +kernel
theorem dX12_readCode_92 : decode cX12_readCode 92 = .ok (.iconst 0, 1) := by decide +kernel
theorem dX12_readCode_93 : decode cX12_readCode 93 = .ok (.ireturn, 1) := by decide +kernel
theorem dX12_readCode_94 : decode cX12_readCode 94 = .ok (.iload_n 3, 1) := by decide +kernel
theorem dX12_readCode_95 : decode cX12_readCode 95 = .ok (.ifCond .ne 35, 3) := by decide +kernel
theorem dX12_readCode_98 : decode cX12_readCode 98 = .ok (.aload_n 0, 1) := by decide +kernel
theorem dX12_readCode_99 : decode cX12_readCode 99 = .ok (.getfield 13, 3) := by decide +kernel
theorem dX12_readCode_102 : decode cX12_readCode 102 = .ok (.iload 4, 2) := by decide +kernel
theorem dX12_readCode_104 : decode cX12_readCode 104 = .ok (.iaload, 1) := by decide +kernel
theorem dX12_readCode_105 : decode cX12_readCode 105 = .ok (.iload_n 2, 1) := by decide +kernel
theorem dX12_readCode_106 : decode cX12_readCode 106 = .ok (.if_icmp .le 28, 3) := by decide +kernel
theorem dX12_readCode_109 : decode cX12_readCode 109 = .ok (.aload_n 0, 1) := by decide +kernel
theorem dX12_readCode_110 : decode cX12_readCode 110 = .ok (.getfield 16, 3) := by decide +kernel
theorem dX12_readCode_113 : decode cX12_readCode 113 = .ok (.iload 4, 2) := by decide +kernel
theorem dX12_readCode_115 : decode cX12_readCode 115 = .ok (.iaload, 1) := by decide +kernel
theorem dX12_readCode_116 : decode cX12_readCode 116 = .ok (.aload_n 0, 1) := by decide +kernel
theorem dX12_readCode_117 : decode cX12_readCode 117 = .ok (.getfield 13, 3) := by decide +kernel
theorem dX12_readCode_120 : decode cX12_readCode 120 = .ok (.iload 4, 2) := by decide +kernel
theorem dX12_readCode_122 : decode cX12_readCode 122 = .ok (.iaload, 1) := by decide +kernel
theorem dX12_readCode_123 : decode cX12_readCode 123 = .ok (.iload_n 2, 1) := by decide +kernel
theorem dX12_readCode_124 : decode cX12_readCode 124 = .ok (.isub, 1) := by decide +kernel
theorem dX12_readCode_125 : decode cX12_readCode 125 = .ok (.ishr, 1) := by decide +kernel
theorem dX12_readCode_126 : decode cX12_readCode 126 = .ok (.iload_n 1, 1) := by decide +kernel
theorem dX12_readCode_127 : decode cX12_readCode 127 = .ok (.if_icmp .ne 7, 3) := by decide +kernel
theorem dX12_readCode_130 : decode cX12_readCode 130 = .ok (.iconst 1, 1) := by decide +kernel
theorem dX12_readCode_131 : decode cX12_readCode 131 = .ok (.goto 4, 3) := by decide +kernel
theorem dX12_readCode_134 : decode cX12_readCode 134 = .ok (.iconst 0, 1) := by decide +kernel
theorem dX12_readCode_135 : decode cX12_readCode 135 = .ok (.istore_n 3, 1) := by decide +kernel
theorem dX12_readCode_136 : decode cX12_readCode 136 = .ok (.iinc 4 1, 3) := by decide +kernel
theorem dX12_readCode_139 : decode cX12_readCode 139 = .ok (.goto (-94), 3) := by decide +kernel
theorem dX12_readCode_142 : decode cX12_readCode 142 = .ok (.iload_n 3, 1) := by decide +kernel
theorem dX12_readCode_143 : decode cX12_readCode 143 = .ok (.ifCond .ne 13, 3) := by decide +kernel
theorem dX12_readCode_146 : decode cX12_readCode 146 = .ok (.aload_n 0, 1) := by decide +kernel
theorem dX12_readCode_147 : decode cX12_readCode 147 = .ok (.aload_n 0, 1) := by decide +kernel
theorem dX12_readCode_148 : decode cX12_readCode 148 = .ok (.getfield 191, 3) := by decide +kernel
theorem dX12_readCode_151 : decode cX12_readCode 151 = .ok (.putfield 26, 3) := by decide +kernel
theorem dX12_readCode_154 : decode cX12_readCode 154 = .ok (.iconst 3, 1) := by decide +kernel
theorem dX12_readCode_155 : decode cX12_readCode 155 = .ok (.ireturn, 1) := by decide +kernel
theorem dX12_readCode_156 : decode cX12_readCode 156 = .ok (.aload_n 0, 1) := by decide +kernel
theorem dX12_readCode_157 : decode cX12_readCode 157 = .ok (.dup, 1) := by decide +kernel
theorem dX12_readCode_158 : decode cX12_readCode 158 = .ok (.getfield 191, 3) := by decide +kernel
theorem dX12_readCode_161 : decode cX12_readCode 161 = .ok (.iconst 1, 1) := by decide +kernel
theorem dX12_readCode_162 : decode cX12_readCode 162 = .ok (.iadd, 1) := by decide +kernel
theorem dX12_readCode_163 : decode cX12_readCode 163 = .ok (.putfield 191, 3) := by decide +kernel
theorem dX12_readCode_166 : decode cX12_readCode 166 = .ok (.goto (-162), 3) := by decide +kernel
theorem dX12_readCode_169 : decode cX12_readCode 169 = .ok (.aload_n 0, 1) := by decide +kernel
theorem dX12_readCode_170 : decode cX12_readCode 170 = .ok (.aload_n 0, 1) := by decide +kernel
theorem dX12_readCode_171 : decode cX12_readCode 171 = .ok (.getfield 178, 3) := by decide +kernel
theorem dX12_readCode_174 : decode cX12_readCode 174 = .ok (.putfield 26, 3) := by decide +kernel
theorem dX12_readCode_177 : decode cX12_readCode 177 = .ok (.iconst 2, 1) := by decide +kernel
theorem dX12_readCode_178 : decode cX12_readCode 178 = .ok (.ireturn, 1) := by decide +kernel
set_option maxRecDepth 20000 in
theorem ggX12_decode_X12_readCode : GoodIn wsX12_decode wsX12_readCode := goodIn_r _ [12, 2, 4, 13, 14, 15, 16, 7, 5, 17, 18, 19, 20, 21, 22, 23, 24, 25, 26, 27, 28, 29, 30, 31, 32, 33, 34, 35, 36, 37, 38, 39, 40, 41, 42, 43, 44, 45, 46, 47, 48, 49, 50, 51, 52, 53, 54, 55] (by decide +kernel) (by decide +kernel)
set_option maxRecDepth 20000 in
theorem gX12_decode_X12_readCode : GoodIn wsX12_decode (wsV RX12 200 RX12 yX12_readCode wsX12_readCode) := goodIn_app (goodIn_of _ (by decide +kernel)) ggX12_decode_X12_readCode
theorem dX12_decode_0 : decode cX12_decode 0 = .ok (.aload_n 0, 1) := by decide +kernel
theorem dX12_decode_1 : decode cX12_decode 1 = .ok (.getfield 164, 3) := by decide +kernel
theorem dX12_decode_4 : decode cX12_decode 4 = .ok (.ifCond .ne 5, 3) := by decide +kernel
theorem dX12_decode_7 : decode cX12_decode 7 = .ok (.iconst (-1), 1) := by decide +kernel
theorem dX12_decode_8 : decode cX12_decode 8 = .ok (.ireturn, 1) := by decide +kernel
theorem dX12_decode_9 : decode cX12_decode 9 = .ok (.aload_n 0, 1) := by decide +kernel
theorem dX12_decode_10 : decode cX12_decode 10 = .ok (.iconst 0, 1) := by decide +kernel
theorem dX12_decode_11 : decode cX12_decode 11 = .ok (.putfield 191, 3) := by decide +kernel
theorem dX12_decode_14 : decode cX12_decode 14 = .ok (.aload_n 0, 1) := by decide +kernel
theorem dX12_decode_15 : decode cX12_decode 15 = .ok (.iconst 0, 1) := by decide +kernel
theorem dX12_decode_16 : decode cX12_decode 16 = .ok (.putfield 197, 3) := by decide +kernel
theorem dX12_decode_19 : decode cX12_decode 19 = .ok (.aload_n 0, 1) := by decide +kernel
theorem dX12_decode_20 : decode cX12_decode 20 = .ok (.getfield 191, 3) := by decide +kernel
theorem dX12_decode_23 : decode cX12_decode 23 = .ok (.aload_n 0, 1) := by decide +kernel
theorem dX12_decode_24 : decode cX12_decode 24 = .ok (.getfield 178, 3) := by decide +kernel
theorem dX12_decode_27 : decode cX12_decode 27 = .ok (.if_icmp .ge 64, 3) := by decide +kernel
theorem dX12_decode_30 : decode cX12_decode 30 = .ok (.aload_n 0, 1) := by decide +kernel
theorem dX12_decode_31 : decode cX12_decode 31 = .ok (.getfield 191, 3) := by decide +kernel
theorem dX12_decode_34 : decode cX12_decode 34 = .ok (.istore_n 1, 1) := by decide +kernel
theorem dX12_decode_35 : decode cX12_decode 35 = .ok (.aload_n 0, 1) := by decide +kernel
theorem dX12_decode_36 : decode cX12_decode 36 = .ok (.invokevirtual 200, 3) := by decide +kernel
theorem dX12_decode_39 : decode cX12_decode 39 = .ok (.istore_n 2, 1) := by decide +kernel
theorem dX12_decode_40 : decode cX12_decode 40 = .ok (.iload_n 2, 1) := by decide +kernel
theorem dX12_decode_41 : decode cX12_decode 41 = .ok (.ifCond .le 6, 3) := by decide +kernel
theorem dX12_decode_44 : decode cX12_decode 44 = .ok (.iload_n 2, 1) := by decide +kernel
theorem dX12_decode_45 : decode cX12_decode 45 = .ok (.ineg, 1) := by decide +kernel
theorem dX12_decode_46 : decode cX12_decode 46 = .ok (.ireturn, 1) := by decide +kernel
theorem dX12_decode_47 : decode cX12_decode 47 = .ok (.aload_n 0, 1) := by decide +kernel
theorem dX12_decode_48 : decode cX12_decode 48 = .ok (.getfield 197, 3) := by decide +kernel
theorem dX12_decode_51 : decode cX12_decode 51 = .ok (.sipush 600, 3) := by decide +kernel
theorem dX12_decode_54 : decode cX12_decode 54 = .ok (.if_icmp .ne 11, 3) := by decide +kernel
theorem dX12_decode_57 : decode cX12_decode 57 = .ok (.aload_n 0, 1) := by decide +kernel
theorem dX12_decode_58 : decode cX12_decode 58 = .ok (.iload_n 1, 1) := by decide +kernel
theorem dX12_decode_59 : decode cX12_decode 59 = .ok (.putfield 26, 3) := by decide +kernel
theorem dX12_decode_62 : decode cX12_decode 62 = .ok (.bipush (-4), 2) := by decide +kernel
theorem dX12_decode_64 : decode cX12_decode 64 = .ok (.ireturn, 1) := by decide +kernel
theorem dX12_decode_65 : decode cX12_decode 65 = .ok (.aload_n 0, 1) := by decide +kernel
theorem dX12_decode_66 : decode cX12_decode 66 = .ok (.getfield 23, 3) := by decide +kernel
theorem dX12_decode_69 : decode cX12_decode 69 = .ok (.aload_n 0, 1) := by decide +kernel
theorem dX12_decode_70 : decode cX12_decode 70 = .ok (.getfield 197, 3) := by decide +kernel
theorem dX12_decode_73 : decode cX12_decode 73 = .ok (.aload_n 0, 1) := by decide +kernel
theorem dX12_decode_74 : decode cX12_decode 74 = .ok (.getfield 194, 3) := by decide +kernel
theorem dX12_decode_77 : decode cX12_decode 77 = .ok (.iastore, 1) := by decide +kernel
theorem dX12_decode_78 : decode cX12_decode 78 = .ok (.aload_n 0, 1) := by decide +kernel
theorem dX12_decode_79 : decode cX12_decode 79 = .ok (.dup, 1) := by decide +kernel
theorem dX12_decode_80 : decode cX12_decode 80 = .ok (.getfield 197, 3) := by decide +kernel
theorem dX12_decode_83 : decode cX12_decode 83 = .ok (.iconst 1, 1) := by decide +kernel
theorem dX12_decode_84 : decode cX12_decode 84 = .ok (.iadd, 1) := by decide +kernel
theorem dX12_decode_85 : decode cX12_decode 85 = .ok (.putfield 197, 3) := by decide +kernel
theorem dX12_decode_88 : decode cX12_decode 88 = .ok (.goto (-69), 3) := by decide +kernel
theorem dX12_decode_91 : decode cX12_decode 91 = .ok (.aload_n 0, 1) := by decide +kernel
theorem dX12_decode_92 : decode cX12_decode 92 = .ok (.getfield 197, 3) := by decide +kernel
theorem dX12_decode_95 : decode cX12_decode 95 = .ok (.ireturn, 1) := by decide +kernel
theorem dX12_zeros_0 : decode cX12_zeros 0 = .ok (.iconst 0, 1) := by decide +kernel
theorem dX12_zeros_1 : decode cX12_zeros 1 = .ok (.istore_n 2, 1) := by decide +kernel
theorem dX12_zeros_2 : decode cX12_zeros 2 = .ok (.iload_n 1, 1) := by decide +kernel
theorem dX12_zeros_3 : decode cX12_zeros 3 = .ok (.iload_n 2, 1) := by decide +kernel
theorem dX12_zeros_4 : decode cX12_zeros 4 = .ok (.iadd, 1) := by decide +kernel
theorem dX12_zeros_5 : decode cX12_zeros 5 = .ok (.aload_n 0, 1) := by decide +kernel
theorem dX12_zeros_6 : decode cX12_zeros 6 = .ok (.getfield 93, 3) := by decide +kernel
theorem dX12_zeros_9 : decode cX12_zeros 9 = .ok (.if_icmp .ge 26, 3) := by decide +kernel
theorem dX12_zeros_12 : decode cX12_zeros 12 = .ok (.iload_n 2, 1) := by decide +kernel
theorem dX12_zeros_13 : decode cX12_zeros 13 = .ok (.bipush 66, 2) := by decide +kernel
theorem dX12_zeros_15 : decode cX12_zeros 15 = .ok (.if_icmp .ge 20, 3) := by decide +kernel
theorem dX12_zeros_18 : decode cX12_zeros 18 = .ok (.aload_n 0, 1) := by decide +kernel
theorem dX12_zeros_19 : decode cX12_zeros 19 = .ok (.getfield 13, 3) := by decide +kernel
theorem dX12_zeros_22 : decode cX12_zeros 22 = .ok (.iload_n 1, 1) := by decide +kernel
theorem dX12_zeros_23 : decode cX12_zeros 23 = .ok (.iload_n 2, 1) := by decide +kernel
theorem dX12_zeros_24 : decode cX12_zeros 24 = .ok (.iadd, 1) := by decide +kernel
theorem dX12_zeros_25 : decode cX12_zeros 25 = .ok (.iaload, 1) := by decide +kernel
theorem dX12_zeros_26 : decode cX12_zeros 26 = .ok (.ifCond .ne 9, 3) := by decide +kernel
theorem dX12_zeros_29 : decode cX12_zeros 29 = .ok (.iinc 2 1, 3) := by decide +kernel
theorem dX12_zeros_32 : decode cX12_zeros 32 = .ok (.goto (-30), 3) := by decide +kernel
theorem dX12_zeros_35 : decode cX12_zeros 35 = .ok (.iload_n 2, 1) := by decide +kernel
theorem dX12_zeros_36 : decode cX12_zeros 36 = .ok (.ireturn, 1) := by decide +kernel
set_option maxRecDepth 20000 in
theorem ggX12_tableBits_X12_zeros : GoodIn wsX12_tableBits wsX12_zeros := goodIn_r _ [6, 1, 7, 8, 9, 10, 11, 12, 13, 14, 15, 16, 17, 18, 19, 20, 21, 22, 23, 24, 25, 26, 27, 28, 29, 30, 31, 32, 33, 34, 35, 36, 37, 38, 39, 40, 41, 42, 43, 44, 45, 46] (by decide +kernel) (by decide +kernel)
set_option maxRecDepth 20000 in
theorem gX12_tableBits_X12_zeros : GoodIn wsX12_tableBits (wsV RX12 203 RX12 yX12_zeros wsX12_zeros) := goodIn_app (goodIn_of _ (by decide +kernel)) ggX12_tableBits_X12_zeros
theorem dX12_tableBits_0 : decode cX12_tableBits 0 = .ok (.bipush 8, 2) := by decide +kernel
theorem dX12_tableBits_2 : decode cX12_tableBits 2 = .ok (.istore_n 1, 1) := by decide +kernel
theorem dX12_tableBits_3 : decode cX12_tableBits 3 = .ok (.iconst 0, 1) := by decide +kernel
theorem dX12_tableBits_4 : decode cX12_tableBits 4 = .ok (.istore_n 2, 1) := by decide +kernel
theorem dX12_tableBits_5 : decode cX12_tableBits 5 = .ok (.iload_n 2, 1) := by decide +kernel
theorem dX12_tableBits_6 : decode cX12_tableBits 6 = .ok (.aload_n 0, 1) := by decide +kernel
theorem dX12_tableBits_7 : decode cX12_tableBits 7 = .ok (.getfield 93, 3) := by decide +kernel
theorem dX12_tableBits_10 : decode cX12_tableBits 10 = .ok (.if_icmp .ge 39, 3) := by decide +kernel
theorem dX12_tableBits_13 : decode cX12_tableBits 13 = .ok (.aload_n 0, 1) := by decide +kernel
theorem dX12_tableBits_14 : decode cX12_tableBits 14 = .ok (.iload_n 2, 1) := by decide +kernel
theorem dX12_tableBits_15 : decode cX12_tableBits 15 = .ok (.invokevirtual 203, 3) := by decide +kernel
theorem dX12_tableBits_18 : decode cX12_tableBits 18 = .ok (.istore_n 3, 1) := by decide +kernel
theorem dX12_tableBits_19 : decode cX12_tableBits 19 = .ok (.iload_n 1, 1) := by decide +kernel
theorem dX12_tableBits_20 : decode cX12_tableBits 20 = .ok (.iload_n 3, 1) := by decide +kernel
theorem dX12_tableBits_21 : decode cX12_tableBits 21 = .ok (.iconst 2, 1) := by decide +kernel
theorem dX12_tableBits_22 : decode cX12_tableBits 22 = .ok (.if_icmp .le 8, 3) := by decide +kernel
theorem dX12_tableBits_25 : decode cX12_tableBits 25 = .ok (.bipush 11, 2) := by decide +kernel
theorem dX12_tableBits_27 : decode cX12_tableBits 27 = .ok (.goto 4, 3) := by decide +kernel
theorem dX12_tableBits_30 : decode cX12_tableBits 30 = .ok (.iconst 5, 1) := by decide +kernel
theorem dX12_tableBits_31 : decode cX12_tableBits 31 = .ok (.iadd, 1) := by decide +kernel
theorem dX12_tableBits_32 : decode cX12_tableBits 32 = .ok (.istore_n 1, 1) := by decide +kernel
theorem dX12_tableBits_33 : decode cX12_tableBits 33 = .ok (.iload_n 2, 1) := by decide +kernel
theorem dX12_tableBits_34 : decode cX12_tableBits 34 = .ok (.iload_n 3, 1) := by decide +kernel
theorem dX12_tableBits_35 : decode cX12_tableBits 35 = .ok (.iconst 2, 1) := by decide +kernel
theorem dX12_tableBits_36 : decode cX12_tableBits 36 = .ok (.if_icmp .le 7, 3) := by decide +kernel
theorem dX12_tableBits_39 : decode cX12_tableBits 39 = .ok (.iload_n 3, 1) := by decide +kernel
theorem dX12_tableBits_40 : decode cX12_tableBits 40 = .ok (.goto 4, 3) := by decide +kernel
theorem dX12_tableBits_43 : decode cX12_tableBits 43 = .ok (.iconst 1, 1) := by decide +kernel
theorem dX12_tableBits_44 : decode cX12_tableBits 44 = .ok (.iadd, 1) := by decide +kernel
theorem dX12_tableBits_45 : decode cX12_tableBits 45 = .ok (.istore_n 2, 1) := by decide +kernel
theorem dX12_tableBits_46 : decode cX12_tableBits 46 = .ok (.goto (-41), 3) := by decide +kernel
theorem dX12_tableBits_49 : decode cX12_tableBits 49 = .ok (.iload_n 1, 1) := by decide +kernel
theorem dX12_tableBits_50 : decode cX12_tableBits 50 = .ok (.ireturn, 1) := by decide +kernel
set_option maxRecDepth 20000 in
theorem ggX12_pack_X12_textBits : GoodIn wsX12_pack wsX12_textBits := goodIn_r _ [11, 6, 5, 12, 31, 32, 33, 34, 35, 36, 37, 38, 39, 40, 41, 42, 43, 44, 45, 46, 47, 48, 49, 50, 51, 52, 53, 54, 55, 56, 57, 58, 59, 60, 61, 62, 63, 64, 65, 66, 67, 68, 69] (by decide +kernel) (by decide +kernel)
set_option maxRecDepth 20000 in
theorem gX12_pack_X12_textBits : GoodIn wsX12_pack (wsV RX12 185 RX12 yX12_textBits wsX12_textBits) := goodIn_app (goodIn_of _ (by decide +kernel)) ggX12_pack_X12_textBits
set_option maxRecDepth 20000 in
theorem ggX12_pack_X12_tableBits : GoodIn wsX12_pack wsX12_tableBits := goodIn_r _ [16, 3, 17, 18, 19, 10, 20, 5, 31, 32, 33, 34, 35, 36, 37, 38, 39, 40, 41, 42, 43, 44, 45, 46, 47, 48, 49, 50, 51, 52, 53, 54, 55, 56, 57, 58, 59, 60, 61, 62, 63, 64, 65, 66, 67, 68, 69] (by decide +kernel) (by decide +kernel)
set_option maxRecDepth 20000 in
theorem gX12_pack_X12_tableBits : GoodIn wsX12_pack (wsV RX12 206 RX12 yX12_tableBits wsX12_tableBits) := goodIn_app (goodIn_of _ (by decide +kernel)) ggX12_pack_X12_tableBits
set_option maxRecDepth 20000 in
theorem ggX12_pack_X12_lay : GoodIn wsX12_pack wsX12_lay := goodIn_r _ [24, 25, 2, 31, 32, 33, 34, 35, 36, 37, 38, 39, 40, 41, 42, 43, 44, 45, 46, 47, 48, 49, 50, 51, 52, 53, 54, 55, 56, 57, 58, 59, 60, 61, 62, 63, 64, 65, 66, 67, 68, 69] (by decide +kernel) (by decide +kernel)
set_option maxRecDepth 20000 in
theorem gX12_pack_X12_lay : GoodIn wsX12_pack (wsV RX12 181 RX12 yX12_lay wsX12_lay) := goodIn_app (goodIn_of _ (by decide +kernel)) ggX12_pack_X12_lay
set_option maxRecDepth 20000 in
theorem ggX12_pack_X12_zeros : GoodIn wsX12_pack wsX12_zeros := goodIn_r _ [20, 3, 5, 31, 32, 33, 34, 35, 36, 37, 38, 39, 40, 41, 42, 43, 44, 45, 46, 47, 48, 49, 50, 51, 52, 53, 54, 55, 56, 57, 58, 59, 60, 61, 62, 63, 64, 65, 66, 67, 68, 69] (by decide +kernel) (by decide +kernel)
set_option maxRecDepth 20000 in
theorem gX12_pack_X12_zeros : GoodIn wsX12_pack (wsV RX12 203 RX12 yX12_zeros wsX12_zeros) := goodIn_app (goodIn_of _ (by decide +kernel)) ggX12_pack_X12_zeros
set_option maxRecDepth 20000 in
theorem ggX12_pack_X12_layText : GoodIn wsX12_pack wsX12_layText := goodIn_r _ [29, 6, 30, 12, 5, 21, 22, 23, 10, 24, 25, 2, 31, 32, 33, 34, 35, 36, 37, 38, 39, 40, 41, 42, 43, 44, 45, 46, 47, 48, 49, 50, 51, 52, 53, 54, 55, 56, 57, 58, 59, 60, 61, 62, 63, 64, 65, 66, 67, 68, 69] (by decide +kernel) (by decide +kernel)
set_option maxRecDepth 20000 in
theorem gX12_pack_X12_layText : GoodIn wsX12_pack (wsV RX12 188 RX12 yX12_layText wsX12_layText) := goodIn_app (goodIn_of _ (by decide +kernel)) ggX12_pack_X12_layText
theorem dX12_pack_0 : decode cX12_pack 0 = .ok (.aload_n 0, 1) := by decide +kernel
theorem dX12_pack_1 : decode cX12_pack 1 = .ok (.getfield 164, 3) := by decide +kernel
theorem dX12_pack_4 : decode cX12_pack 4 = .ok (.ifCond .ne 5, 3) := by decide +kernel
theorem dX12_pack_7 : decode cX12_pack 7 = .ok (.iconst (-1), 1) := by decide +kernel
theorem dX12_pack_8 : decode cX12_pack 8 = .ok (.ireturn, 1) := by decide +kernel
theorem dX12_pack_9 : decode cX12_pack 9 = .ok (.aload_n 0, 1) := by decide +kernel
theorem dX12_pack_10 : decode cX12_pack 10 = .ok (.invokevirtual 185, 3) := by decide +kernel
theorem dX12_pack_13 : decode cX12_pack 13 = .ok (.istore_n 1, 1) := by decide +kernel
theorem dX12_pack_14 : decode cX12_pack 14 = .ok (.iload_n 1, 1) := by decide +kernel
theorem dX12_pack_15 : decode cX12_pack 15 = .ok (.iconst (-1), 1) := by decide +kernel
theorem dX12_pack_16 : decode cX12_pack 16 = .ok (.if_icmp .eq 18, 3) := by decide +kernel
theorem dX12_pack_19 : decode cX12_pack 19 = .ok (.iload_n 1, 1) := by decide +kernel
theorem dX12_pack_20 : decode cX12_pack 20 = .ok (.aload_n 0, 1) := by decide +kernel
theorem dX12_pack_21 : decode cX12_pack 21 = .ok (.invokevirtual 206, 3) := by decide +kernel
theorem dX12_pack_24 : decode cX12_pack 24 = .ok (.iadd, 1) := by decide +kernel
theorem dX12_pack_25 : decode cX12_pack 25 = .ok (.bipush 10, 2) := by decide +kernel
theorem dX12_pack_27 : decode cX12_pack 27 = .ok (.iadd, 1) := by decide +kernel
theorem dX12_pack_28 : decode cX12_pack 28 = .ok (.sipush 6000, 3) := by decide +kernel
theorem dX12_pack_31 : decode cX12_pack 31 = .ok (.if_icmp .le 16, 3) := by decide +kernel
theorem dX12_pack_34 : decode cX12_pack 34 = .ok (.iload_n 1, 1) := by decide +kernel
theorem dX12_pack_35 : decode cX12_pack 35 = .ok (.iconst (-1), 1) := by decide +kernel
theorem dX12_pack_36 : decode cX12_pack 36 = .ok (.if_icmp .ne 8, 3) := by decide +kernel
theorem dX12_pack_39 : decode cX12_pack 39 = .ok (.bipush (-2), 2) := by decide +kernel
theorem dX12_pack_41 : decode cX12_pack 41 = .ok (.goto 5, 3) := by decide +kernel
theorem dX12_pack_44 : decode cX12_pack 44 = .ok (.bipush (-3), 2) := by decide +kernel
theorem dX12_pack_46 : decode cX12_pack 46 = .ok (.ireturn, 1) := by decide +kernel
theorem dX12_pack_47 : decode cX12_pack 47 = .ok (.aload_n 0, 1) := by decide +kernel
theorem dX12_pack_48 : decode cX12_pack 48 = .ok (.iconst 0, 1) := by decide +kernel
theorem dX12_pack_49 : decode cX12_pack 49 = .ok (.putfield 178, 3) := by decide +kernel
theorem dX12_pack_52 : decode cX12_pack 52 = .ok (.aload_n 0, 1) := by decide +kernel
theorem dX12_pack_53 : decode cX12_pack 53 = .ok (.aload_n 0, 1) := by decide +kernel
theorem dX12_pack_54 : decode cX12_pack 54 = .ok (.getfield 93, 3) := by decide +kernel
theorem dX12_pack_57 : decode cX12_pack 57 = .ok (.iconst 1, 1) := by decide +kernel
theorem dX12_pack_58 : decode cX12_pack 58 = .ok (.isub, 1) := by decide +kernel
theorem dX12_pack_59 : decode cX12_pack 59 = .ok (.bipush 7, 2) := by decide +kernel
theorem dX12_pack_61 : decode cX12_pack 61 = .ok (.invokevirtual 181, 3) := by decide +kernel
theorem dX12_pack_64 : decode cX12_pack 64 = .ok (.aload_n 0, 1) := by decide +kernel
theorem dX12_pack_65 : decode cX12_pack 65 = .ok (.aload_n 0, 1) := by decide +kernel
theorem dX12_pack_66 : decode cX12_pack 66 = .ok (.getfield 160, 3) := by decide +kernel
theorem dX12_pack_69 : decode cX12_pack 69 = .ok (.ifCond .eq 7, 3) := by decide +kernel
theorem dX12_pack_72 : decode cX12_pack 72 = .ok (.iconst 1, 1) := by decide +kernel
theorem dX12_pack_73 : decode cX12_pack 73 = .ok (.goto 4, 3) := by decide +kernel
theorem dX12_pack_76 : decode cX12_pack 76 = .ok (.iconst 0, 1) := by decide +kernel
theorem dX12_pack_77 : decode cX12_pack 77 = .ok (.iconst 1, 1) := by decide +kernel
theorem dX12_pack_78 : decode cX12_pack 78 = .ok (.invokevirtual 181, 3) := by decide +kernel
theorem dX12_pack_81 : decode cX12_pack 81 = .ok (.iconst 0, 1) := by decide +kernel
theorem dX12_pack_82 : decode cX12_pack 82 = .ok (.istore_n 2, 1) := by decide +kernel
theorem dX12_pack_83 : decode cX12_pack 83 = .ok (.iload_n 2, 1) := by decide +kernel
theorem dX12_pack_84 : decode cX12_pack 84 = .ok (.aload_n 0, 1) := by decide +kernel
theorem dX12_pack_85 : decode cX12_pack 85 = .ok (.getfield 93, 3) := by decide +kernel
theorem dX12_pack_88 : decode cX12_pack 88 = .ok (.if_icmp .ge 54, 3) := by decide +kernel
theorem dX12_pack_91 : decode cX12_pack 91 = .ok (.aload_n 0, 1) := by decide +kernel
theorem dX12_pack_92 : decode cX12_pack 92 = .ok (.iload_n 2, 1) := by decide +kernel
theorem dX12_pack_93 : decode cX12_pack 93 = .ok (.invokevirtual 203, 3) := by decide +kernel
theorem dX12_pack_96 : decode cX12_pack 96 = .ok (.istore_n 3, 1) := by decide +kernel
theorem dX12_pack_97 : decode cX12_pack 97 = .ok (.iload_n 3, 1) := by decide +kernel
theorem dX12_pack_98 : decode cX12_pack 98 = .ok (.iconst 2, 1) := by decide +kernel
theorem dX12_pack_99 : decode cX12_pack 99 = .ok (.if_icmp .le 26, 3) := by decide +kernel
theorem dX12_pack_102 : decode cX12_pack 102 = .ok (.aload_n 0, 1) := by decide +kernel
theorem dX12_pack_103 : decode cX12_pack 103 = .ok (.bipush 31, 2) := by decide +kernel
theorem dX12_pack_105 : decode cX12_pack 105 = .ok (.iconst 5, 1) := by decide +kernel
theorem dX12_pack_106 : decode cX12_pack 106 = .ok (.invokevirtual 181, 3) := by decide +kernel
theorem dX12_pack_109 : decode cX12_pack 109 = .ok (.aload_n 0, 1) := by decide +kernel
theorem dX12_pack_110 : decode cX12_pack 110 = .ok (.iload_n 3, 1) := by decide +kernel
theorem dX12_pack_111 : decode cX12_pack 111 = .ok (.iconst 3, 1) := by decide +kernel
theorem dX12_pack_112 : decode cX12_pack 112 = .ok (.isub, 1) := by decide +kernel
theorem dX12_pack_113 : decode cX12_pack 113 = .ok (.bipush 6, 2) := by decide +kernel
theorem dX12_pack_115 : decode cX12_pack 115 = .ok (.invokevirtual 181, 3) := by decide +kernel
theorem dX12_pack_118 : decode cX12_pack 118 = .ok (.iload_n 2, 1) := by decide +kernel
theorem dX12_pack_119 : decode cX12_pack 119 = .ok (.iload_n 3, 1) := by decide +kernel
theorem dX12_pack_120 : decode cX12_pack 120 = .ok (.iadd, 1) := by decide +kernel
theorem dX12_pack_121 : decode cX12_pack 121 = .ok (.istore_n 2, 1) := by decide +kernel
theorem dX12_pack_122 : decode cX12_pack 122 = .ok (.goto 17, 3) := by decide +kernel
theorem dX12_pack_125 : decode cX12_pack 125 = .ok (.aload_n 0, 1) := by decide +kernel
theorem dX12_pack_126 : decode cX12_pack 126 = .ok (.aload_n 0, 1) := by decide +kernel
theorem dX12_pack_127 : decode cX12_pack 127 = .ok (.getfield 13, 3) := by decide +kernel
theorem dX12_pack_130 : decode cX12_pack 130 = .ok (.iload_n 2, 1) := by decide +kernel
theorem dX12_pack_131 : decode cX12_pack 131 = .ok (.iaload, 1) := by decide +kernel
theorem dX12_pack_132 : decode cX12_pack 132 = .ok (.iconst 5, 1) := by decide +kernel
theorem dX12_pack_133 : decode cX12_pack 133 = .ok (.invokevirtual 181, 3) := by decide +kernel
theorem dX12_pack_136 : decode cX12_pack 136 = .ok (.iinc 2 1, 3) := by decide +kernel
theorem dX12_pack_139 : decode cX12_pack 139 = .ok (.goto (-56), 3) := by decide +kernel
theorem dX12_pack_142 : decode cX12_pack 142 = .ok (.aload_n 0, 1) := by decide +kernel
theorem dX12_pack_143 : decode cX12_pack 143 = .ok (.aload_n 0, 1) := by decide +kernel
theorem dX12_pack_144 : decode cX12_pack 144 = .ok (.getfield 107, 3) := by decide +kernel
theorem dX12_pack_147 : decode cX12_pack 147 = .ok (.bipush 10, 2) := by decide +kernel
theorem dX12_pack_149 : decode cX12_pack 149 = .ok (.invokevirtual 181, 3) := by decide +kernel
theorem dX12_pack_152 : decode cX12_pack 152 = .ok (.aload_n 0, 1) := by decide +kernel
theorem dX12_pack_153 : decode cX12_pack 153 = .ok (.invokevirtual 188, 3) := by decide +kernel
theorem dX12_pack_156 : decode cX12_pack 156 = .ok (.aload_n 0, 1) := by decide +kernel
theorem dX12_pack_157 : decode cX12_pack 157 = .ok (.getfield 178, 3) := by decide +kernel
theorem dX12_pack_160 : decode cX12_pack 160 = .ok (.ireturn, 1) := by decide +kernel
theorem dX12_number_0 : decode cX12_number 0 = .ok (.aload_n 0, 1) := by decide +kernel
theorem dX12_number_1 : decode cX12_number 1 = .ok (.getfield 178, 3) := by decide +kernel
theorem dX12_number_4 : decode cX12_number 4 = .ok (.aload_n 0, 1) := by decide +kernel
theorem dX12_number_5 : decode cX12_number 5 = .ok (.getfield 191, 3) := by decide +kernel
theorem dX12_number_8 : decode cX12_number 8 = .ok (.isub, 1) := by decide +kernel
theorem dX12_number_9 : decode cX12_number 9 = .ok (.iload_n 1, 1) := by decide +kernel
theorem dX12_number_10 : decode cX12_number 10 = .ok (.if_icmp .ge 5, 3) := by decide +kernel
theorem dX12_number_13 : decode cX12_number 13 = .ok (.iconst (-1), 1) := by decide +kernel
theorem dX12_number_14 : decode cX12_number 14 = .ok (.ireturn, 1) := by decide +kernel
theorem dX12_number_15 : decode cX12_number 15 = .ok (.iconst 0, 1) := by decide +kernel
theorem dX12_number_16 : decode cX12_number 16 = .ok (.istore_n 2, 1) := by decide +kernel
theorem dX12_number_17 : decode cX12_number 17 = .ok (.iconst 0, 1) := by decide +kernel
theorem dX12_number_18 : decode cX12_number 18 = .ok (.istore_n 3, 1) := by decide +kernel
theorem dX12_number_19 : decode cX12_number 19 = .ok (.iload_n 3, 1) := by decide +kernel
theorem dX12_number_20 : decode cX12_number 20 = .ok (.iload_n 1, 1) := by decide +kernel
theorem dX12_number_21 : decode cX12_number 21 = .ok (.if_icmp .ge 41, 3) := by decide +kernel
theorem dX12_number_24 : decode cX12_number 24 = .ok (.iconst 2, 1) := by decide +kernel
theorem dX12_number_25 : decode cX12_number 25 = .ok (.iload_n 2, 1) := by decide +kernel
theorem dX12_number_26 : decode cX12_number 26 = .ok (.imul, 1) := by decide +kernel
theorem dX12_number_27 : decode cX12_number 27 = .ok (.aload_n 0, 1) := by decide +kernel
theorem dX12_number_28 : decode cX12_number 28 = .ok (.getfield 19, 3) := by decide +kernel
theorem dX12_number_31 : decode cX12_number 31 = .ok (.aload_n 0, 1) := by decide +kernel
theorem dX12_number_32 : decode cX12_number 32 = .ok (.getfield 191, 3) := by decide +kernel
theorem dX12_number_35 : decode cX12_number 35 = .ok (.baload, 1) := by decide +kernel
theorem dX12_number_36 : decode cX12_number 36 = .ok (.ifCond .eq 7, 3) := by decide +kernel
theorem dX12_number_39 : decode cX12_number 39 = .ok (.iconst 1, 1) := by decide +kernel
theorem dX12_number_40 : decode cX12_number 40 = .ok (.goto 4, 3) := by decide +kernel
theorem dX12_number_43 : decode cX12_number 43 = .ok (.iconst 0, 1) := by decide +kernel
theorem dX12_number_44 : decode cX12_number 44 = .ok (.iadd, 1) := by decide +kernel
theorem dX12_number_45 : decode cX12_number 45 = .ok (.istore_n 2, 1) := by decide +kernel
theorem dX12_number_46 : decode cX12_number 46 = .ok (.aload_n 0, 1) := by decide +kernel
theorem dX12_number_47 : decode cX12_number 47 = .ok (.dup, 1) := by decide +kernel
theorem dX12_number_48 : decode cX12_number 48 = .ok (.getfield 191, 3) := by decide +kernel
theorem dX12_number_51 : decode cX12_number 51 = .ok (.iconst 1, 1) := by decide +kernel
theorem dX12_number_52 : decode cX12_number 52 = .ok (.iadd, 1) := by decide +kernel
theorem dX12_number_53 : decode cX12_number 53 = .ok (.putfield 191, 3) := by decide +kernel
theorem dX12_number_56 : decode cX12_number 56 = .ok (.iinc 3 1, 3) := by decide +kernel
theorem dX12_number_59 : decode cX12_number 59 = .ok (.goto (-40), 3) := by decide +kernel
theorem dX12_number_62 : decode cX12_number 62 = .ok (.iload_n 2, 1) := by decide +kernel
theorem dX12_number_63 : decode cX12_number 63 = .ok (.ireturn, 1) := by decide +kernel
theorem dX12_fails_0 : decode cX12_fails 0 = .ok (.aload_n 0, 1) := by decide +kernel
theorem dX12_fails_1 : decode cX12_fails 1 = .ok (.iload_n 1, 1) := by decide +kernel
theorem dX12_fails_2 : decode cX12_fails 2 = .ok (.putfield 26, 3) := by decide +kernel
theorem dX12_fails_5 : decode cX12_fails 5 = .ok (.iload_n 2, 1) := by decide +kernel
theorem dX12_fails_6 : decode cX12_fails 6 = .ok (.ireturn, 1) := by decide +kernel
set_option maxRecDepth 20000 in
theorem ggX12_readLengths_X12_number : GoodIn wsX12_readLengths wsX12_number := goodIn_r _ [10, 3, 2, 11, 17, 18, 19, 20, 21, 22, 23, 24, 25, 26, 27, 28, 29, 30, 31, 32, 33, 34, 35, 36, 37, 38, 39, 40, 41, 42, 43, 44, 45, 46, 47, 48, 49, 50, 51, 52, 53, 54, 55] (by decide +kernel) (by decide +kernel)
set_option maxRecDepth 20000 in
theorem gX12_readLengths_X12_number : GoodIn wsX12_readLengths (wsV RX12 209 RX12 yX12_number wsX12_number) := goodIn_app (goodIn_of _ (by decide +kernel)) ggX12_readLengths_X12_number
set_option maxRecDepth 20000 in
theorem ggX12_readLengths_X12_fails : GoodIn wsX12_readLengths wsX12_fails := goodIn_r _ [15, 16, 17, 18, 19, 20, 21, 22, 23, 24, 25, 26, 27, 28, 29, 30, 31, 32, 33, 34, 35, 36, 37, 38, 39, 40, 41, 42, 43, 44, 45, 46, 47, 48, 49, 50, 51, 52, 53, 54, 55] (by decide +kernel) (by decide +kernel)
set_option maxRecDepth 20000 in
theorem gX12_readLengths_X12_fails : GoodIn wsX12_readLengths (wsV RX12 212 RX12 yX12_fails wsX12_fails) := goodIn_app (goodIn_of _ (by decide +kernel)) ggX12_readLengths_X12_fails
theorem dX12_readLengths_0 : decode cX12_readLengths 0 = .ok (.iconst 0, 1) := by decide +kernel
theorem dX12_readLengths_1 : decode cX12_readLengths 1 = .ok (.istore_n 1, 1) := by decide +kernel
theorem dX12_readLengths_2 : decode cX12_readLengths 2 = .ok (.iload_n 1, 1) := by decide +kernel
theorem dX12_readLengths_3 : decode cX12_readLengths 3 = .ok (.aload_n 0, 1) := by decide +kernel
theorem dX12_readLengths_4 : decode cX12_readLengths 4 = .ok (.getfield 93, 3) := by decide +kernel
theorem dX12_readLengths_7 : decode cX12_readLengths 7 = .ok (.if_icmp .ge 142, 3) := by decide +kernel
theorem dX12_readLengths_10 : decode cX12_readLengths 10 = .ok (.aload_n 0, 1) := by decide +kernel
theorem dX12_readLengths_11 : decode cX12_readLengths 11 = .ok (.getfield 191, 3) := by decide +kernel
theorem dX12_readLengths_14 : decode cX12_readLengths 14 = .ok (.istore_n 2, 1) := by decide +kernel
theorem dX12_readLengths_15 : decode cX12_readLengths 15 = .ok (.aload_n 0, 1) := by decide +kernel
theorem dX12_readLengths_16 : decode cX12_readLengths 16 = .ok (.iconst 5, 1) := by decide +kernel
theorem dX12_readLengths_17 : decode cX12_readLengths 17 = .ok (.invokevirtual 209, 3) := by decide +kernel
theorem dX12_readLengths_20 : decode cX12_readLengths 20 = .ok (.istore_n 3, 1) := by decide +kernel
theorem dX12_readLengths_21 : decode cX12_readLengths 21 = .ok (.iload_n 3, 1) := by decide +kernel
theorem dX12_readLengths_22 : decode cX12_readLengths 22 = .ok (.iconst (-1), 1) := by decide +kernel
theorem dX12_readLengths_23 : decode cX12_readLengths 23 = .ok (.if_icmp .ne 14, 3) := by decide +kernel
theorem dX12_readLengths_26 : decode cX12_readLengths 26 = .ok (.aload_n 0, 1) := by decide +kernel
theorem dX12_readLengths_27 : decode cX12_readLengths 27 = .ok (.aload_n 0, 1) := by decide +kernel
theorem dX12_readLengths_28 : decode cX12_readLengths 28 = .ok (.getfield 178, 3) := by decide +kernel
theorem dX12_readLengths_31 : decode cX12_readLengths 31 = .ok (.bipush (-2), 2) := by decide +kernel
theorem dX12_readLengths_33 : decode cX12_readLengths 33 = .ok (.invokevirtual 212, 3) := by decide +kernel
theorem dX12_readLengths_36 : decode cX12_readLengths 36 = .ok (.ireturn, 1) := by decide +kernel
theorem dX12_readLengths_37 : decode cX12_readLengths 37 = .ok (.iload_n 3, 1) := by decide +kernel
theorem dX12_readLengths_38 : decode cX12_readLengths 38 = .ok (.bipush 31, 2) := by decide +kernel
theorem dX12_readLengths_40 : decode cX12_readLengths 40 = .ok (.if_icmp .ge 32, 3) := by decide +kernel
theorem dX12_readLengths_43 : decode cX12_readLengths 43 = .ok (.iload_n 3, 1) := by decide +kernel
theorem dX12_readLengths_44 : decode cX12_readLengths 44 = .ok (.aload_n 0, 1) := by decide +kernel
theorem dX12_readLengths_45 : decode cX12_readLengths 45 = .ok (.getfield 96, 3) := by decide +kernel
theorem dX12_readLengths_48 : decode cX12_readLengths 48 = .ok (.if_icmp .le 11, 3) := by decide +kernel
theorem dX12_readLengths_51 : decode cX12_readLengths 51 = .ok (.aload_n 0, 1) := by decide +kernel
theorem dX12_readLengths_52 : decode cX12_readLengths 52 = .ok (.iload_n 2, 1) := by decide +kernel
theorem dX12_readLengths_53 : decode cX12_readLengths 53 = .ok (.bipush (-6), 2) := by decide +kernel
theorem dX12_readLengths_55 : decode cX12_readLengths 55 = .ok (.invokevirtual 212, 3) := by decide +kernel
theorem dX12_readLengths_58 : decode cX12_readLengths 58 = .ok (.ireturn, 1) := by decide +kernel
theorem dX12_readLengths_59 : decode cX12_readLengths 59 = .ok (.aload_n 0, 1) := by decide +kernel
theorem dX12_readLengths_60 : decode cX12_readLengths 60 = .ok (.getfield 13, 3) := by decide +kernel
theorem dX12_readLengths_63 : decode cX12_readLengths 63 = .ok (.iload_n 1, 1) := by decide +kernel
theorem dX12_readLengths_64 : decode cX12_readLengths 64 = .ok (.iload_n 3, 1) := by decide +kernel
theorem dX12_readLengths_65 : decode cX12_readLengths 65 = .ok (.iastore, 1) := by decide +kernel
theorem dX12_readLengths_66 : decode cX12_readLengths 66 = .ok (.iinc 1 1, 3) := by decide +kernel
theorem dX12_readLengths_69 : decode cX12_readLengths 69 = .ok (.goto (-67), 3) := by decide +kernel
theorem dX12_readLengths_72 : decode cX12_readLengths 72 = .ok (.aload_n 0, 1) := by decide +kernel
theorem dX12_readLengths_73 : decode cX12_readLengths 73 = .ok (.bipush 6, 2) := by decide +kernel
theorem dX12_readLengths_75 : decode cX12_readLengths 75 = .ok (.invokevirtual 209, 3) := by decide +kernel
theorem dX12_readLengths_78 : decode cX12_readLengths 78 = .ok (.istore 4, 2) := by decide +kernel
theorem dX12_readLengths_80 : decode cX12_readLengths 80 = .ok (.iload 4, 2) := by decide +kernel
theorem dX12_readLengths_82 : decode cX12_readLengths 82 = .ok (.iconst (-1), 1) := by decide +kernel
theorem dX12_readLengths_83 : decode cX12_readLengths 83 = .ok (.if_icmp .ne 14, 3) := by decide +kernel
theorem dX12_readLengths_86 : decode cX12_readLengths 86 = .ok (.aload_n 0, 1) := by decide +kernel
theorem dX12_readLengths_87 : decode cX12_readLengths 87 = .ok (.aload_n 0, 1) := by decide +kernel
theorem dX12_readLengths_88 : decode cX12_readLengths 88 = .ok (.getfield 178, 3) := by decide +kernel
theorem dX12_readLengths_91 : decode cX12_readLengths 91 = .ok (.bipush (-2), 2) := by decide +kernel
theorem dX12_readLengths_93 : decode cX12_readLengths 93 = .ok (.invokevirtual 212, 3) := by decide +kernel
theorem dX12_readLengths_96 : decode cX12_readLengths 96 = .ok (.ireturn, 1) := by decide +kernel
theorem dX12_readLengths_97 : decode cX12_readLengths 97 = .ok (.iload_n 1, 1) := by decide +kernel
theorem dX12_readLengths_98 : decode cX12_readLengths 98 = .ok (.iload 4, 2) := by decide +kernel
theorem dX12_readLengths_100 : decode cX12_readLengths 100 = .ok (.iadd, 1) := by decide +kernel
theorem dX12_readLengths_101 : decode cX12_readLengths 101 = .ok (.iconst 3, 1) := by decide +kernel
theorem dX12_readLengths_102 : decode cX12_readLengths 102 = .ok (.iadd, 1) := by decide +kernel
theorem dX12_readLengths_103 : decode cX12_readLengths 103 = .ok (.aload_n 0, 1) := by decide +kernel
theorem dX12_readLengths_104 : decode cX12_readLengths 104 = .ok (.getfield 93, 3) := by decide +kernel
theorem dX12_readLengths_107 : decode cX12_readLengths 107 = .ok (.if_icmp .le 11, 3) := by decide +kernel
theorem dX12_readLengths_110 : decode cX12_readLengths 110 = .ok (.aload_n 0, 1) := by decide +kernel
theorem dX12_readLengths_111 : decode cX12_readLengths 111 = .ok (.iload_n 2, 1) := by decide +kernel
theorem dX12_readLengths_112 : decode cX12_readLengths 112 = .ok (.bipush (-7), 2) := by decide +kernel
theorem dX12_readLengths_114 : decode cX12_readLengths 114 = .ok (.invokevirtual 212, 3) := by decide +kernel
theorem dX12_readLengths_117 : decode cX12_readLengths 117 = .ok (.ireturn, 1) := by decide +kernel
theorem dX12_readLengths_118 : decode cX12_readLengths 118 = .ok (.iconst 0, 1) := by decide +kernel
theorem dX12_readLengths_119 : decode cX12_readLengths 119 = .ok (.istore 5, 2) := by decide +kernel
theorem dX12_readLengths_121 : decode cX12_readLengths 121 = .ok (.iload 5, 2) := by decide +kernel
theorem dX12_readLengths_123 : decode cX12_readLengths 123 = .ok (.iload 4, 2) := by decide +kernel
theorem dX12_readLengths_125 : decode cX12_readLengths 125 = .ok (.iconst 3, 1) := by decide +kernel
theorem dX12_readLengths_126 : decode cX12_readLengths 126 = .ok (.iadd, 1) := by decide +kernel
theorem dX12_readLengths_127 : decode cX12_readLengths 127 = .ok (.if_icmp .ge 19, 3) := by decide +kernel
theorem dX12_readLengths_130 : decode cX12_readLengths 130 = .ok (.aload_n 0, 1) := by decide +kernel
theorem dX12_readLengths_131 : decode cX12_readLengths 131 = .ok (.getfield 13, 3) := by decide +kernel
theorem dX12_readLengths_134 : decode cX12_readLengths 134 = .ok (.iload_n 1, 1) := by decide +kernel
theorem dX12_readLengths_135 : decode cX12_readLengths 135 = .ok (.iconst 0, 1) := by decide +kernel
theorem dX12_readLengths_136 : decode cX12_readLengths 136 = .ok (.iastore, 1) := by decide +kernel
theorem dX12_readLengths_137 : decode cX12_readLengths 137 = .ok (.iinc 1 1, 3) := by decide +kernel
theorem dX12_readLengths_140 : decode cX12_readLengths 140 = .ok (.iinc 5 1, 3) := by decide +kernel
theorem dX12_readLengths_143 : decode cX12_readLengths 143 = .ok (.goto (-22), 3) := by decide +kernel
theorem dX12_readLengths_146 : decode cX12_readLengths 146 = .ok (.goto (-144), 3) := by decide +kernel
theorem dX12_readLengths_149 : decode cX12_readLengths 149 = .ok (.iconst 0, 1) := by decide +kernel
theorem dX12_readLengths_150 : decode cX12_readLengths 150 = .ok (.ireturn, 1) := by decide +kernel
set_option maxRecDepth 20000 in
theorem ggX12_readPacked_X12_number : GoodIn wsX12_readPacked wsX12_number := goodIn_r _ [11, 2, 1, 12, 42, 43, 44, 45, 46, 47, 48, 49, 50, 51, 52, 53, 54, 55, 56, 57, 58, 59, 60, 61, 62, 63, 64, 65, 66, 67, 68, 69, 70, 71, 72, 73, 74, 75, 76, 77, 78, 79, 80] (by decide +kernel) (by decide +kernel)
set_option maxRecDepth 20000 in
theorem gX12_readPacked_X12_number : GoodIn wsX12_readPacked (wsV RX12 209 RX12 yX12_number wsX12_number) := goodIn_app (goodIn_of _ (by decide +kernel)) ggX12_readPacked_X12_number
set_option maxRecDepth 20000 in
theorem ggX12_readPacked_X12_fails : GoodIn wsX12_readPacked wsX12_fails := goodIn_r _ [16, 17, 42, 43, 44, 45, 46, 47, 48, 49, 50, 51, 52, 53, 54, 55, 56, 57, 58, 59, 60, 61, 62, 63, 64, 65, 66, 67, 68, 69, 70, 71, 72, 73, 74, 75, 76, 77, 78, 79, 80] (by decide +kernel) (by decide +kernel)
set_option maxRecDepth 20000 in
theorem gX12_readPacked_X12_fails : GoodIn wsX12_readPacked (wsV RX12 212 RX12 yX12_fails wsX12_fails) := goodIn_app (goodIn_of _ (by decide +kernel)) ggX12_readPacked_X12_fails
set_option maxRecDepth 20000 in
theorem ggX12_readPacked_X12_readLengths : GoodIn wsX12_readPacked wsX12_readLengths := goodIn_r _ [21, 3, 1, 2, 22, 23, 7, 8, 9, 10, 11, 12, 13, 14, 15, 16, 17, 42, 43, 44, 45, 46, 47, 48, 49, 50, 51, 52, 53, 54, 55, 56, 57, 58, 59, 60, 61, 62, 63, 64, 65, 66, 67, 68, 69, 70, 71, 72, 73, 74, 75, 76, 77, 78, 79, 80] (by decide +kernel) (by decide +kernel)
set_option maxRecDepth 20000 in
theorem gX12_readPacked_X12_readLengths : GoodIn wsX12_readPacked (wsV RX12 215 RX12 yX12_readLengths wsX12_readLengths) := goodIn_app (goodIn_of _ (by decide +kernel)) ggX12_readPacked_X12_readLengths
set_option maxRecDepth 20000 in
theorem ggX12_readPacked_X12_makeCodes : GoodIn wsX12_readPacked wsX12_makeCodes := goodIn_r _ [27, 28, 4, 3, 23, 29, 30, 31, 32, 10, 33, 34, 35, 36, 37, 42, 43, 44, 45, 46, 47, 48, 49, 50, 51, 52, 53, 54, 55, 56, 57, 58, 59, 60, 61, 62, 63, 64, 65, 66, 67, 68, 69, 70, 71, 72, 73, 74, 75, 76, 77, 78, 79, 80] (by decide +kernel) (by decide +kernel)
set_option maxRecDepth 20000 in
theorem gX12_readPacked_X12_makeCodes : GoodIn wsX12_readPacked (wsV RX12 167 RX12 yX12_makeCodes wsX12_makeCodes) := goodIn_app (goodIn_of _ (by decide +kernel)) ggX12_readPacked_X12_makeCodes
set_option maxRecDepth 20000 in
theorem ggX12_readPacked_X12_readCode : GoodIn wsX12_readPacked wsX12_readCode := goodIn_r _ [41, 1, 2, 12, 3, 23, 29, 6, 17, 42, 43, 44, 45, 46, 47, 48, 49, 50, 51, 52, 53, 54, 55, 56, 57, 58, 59, 60, 61, 62, 63, 64, 65, 66, 67, 68, 69, 70, 71, 72, 73, 74, 75, 76, 77, 78, 79, 80] (by decide +kernel) (by decide +kernel)
set_option maxRecDepth 20000 in
theorem gX12_readPacked_X12_readCode : GoodIn wsX12_readPacked (wsV RX12 200 RX12 yX12_readCode wsX12_readCode) := goodIn_app (goodIn_of _ (by decide +kernel)) ggX12_readPacked_X12_readCode
theorem dX12_readPacked_0 : decode cX12_readPacked 0 = .ok (.aload_n 0, 1) := by decide +kernel
theorem dX12_readPacked_1 : decode cX12_readPacked 1 = .ok (.iconst 0, 1) := by decide +kernel
theorem dX12_readPacked_2 : decode cX12_readPacked 2 = .ok (.putfield 191, 3) := by decide +kernel
theorem dX12_readPacked_5 : decode cX12_readPacked 5 = .ok (.aload_n 0, 1) := by decide +kernel
theorem dX12_readPacked_6 : decode cX12_readPacked 6 = .ok (.bipush 7, 2) := by decide +kernel
theorem dX12_readPacked_8 : decode cX12_readPacked 8 = .ok (.invokevirtual 209, 3) := by decide +kernel
theorem dX12_readPacked_11 : decode cX12_readPacked 11 = .ok (.istore_n 1, 1) := by decide +kernel
theorem dX12_readPacked_12 : decode cX12_readPacked 12 = .ok (.iload_n 1, 1) := by decide +kernel
theorem dX12_readPacked_13 : decode cX12_readPacked 13 = .ok (.iconst (-1), 1) := by decide +kernel
theorem dX12_readPacked_14 : decode cX12_readPacked 14 = .ok (.if_icmp .ne 14, 3) := by decide +kernel
theorem dX12_readPacked_17 : decode cX12_readPacked 17 = .ok (.aload_n 0, 1) := by decide +kernel
theorem dX12_readPacked_18 : decode cX12_readPacked 18 = .ok (.aload_n 0, 1) := by decide +kernel
theorem dX12_readPacked_19 : decode cX12_readPacked 19 = .ok (.getfield 178, 3) := by decide +kernel
theorem dX12_readPacked_22 : decode cX12_readPacked 22 = .ok (.bipush (-2), 2) := by decide +kernel
theorem dX12_readPacked_24 : decode cX12_readPacked 24 = .ok (.invokevirtual 212, 3) := by decide +kernel
theorem dX12_readPacked_27 : decode cX12_readPacked 27 = .ok (.ireturn, 1) := by decide +kernel
theorem dX12_readPacked_28 : decode cX12_readPacked 28 = .ok (.iload_n 1, 1) := by decide +kernel
theorem dX12_readPacked_29 : decode cX12_readPacked 29 = .ok (.aload_n 0, 1) := by decide +kernel
theorem dX12_readPacked_30 : decode cX12_readPacked 30 = .ok (.getfield 93, 3) := by decide +kernel
theorem dX12_readPacked_33 : decode cX12_readPacked 33 = .ok (.iconst 1, 1) := by decide +kernel
theorem dX12_readPacked_34 : decode cX12_readPacked 34 = .ok (.isub, 1) := by decide +kernel
theorem dX12_readPacked_35 : decode cX12_readPacked 35 = .ok (.if_icmp .eq 11, 3) := by decide +kernel
theorem dX12_readPacked_38 : decode cX12_readPacked 38 = .ok (.aload_n 0, 1) := by decide +kernel
theorem dX12_readPacked_39 : decode cX12_readPacked 39 = .ok (.iconst 0, 1) := by decide +kernel
theorem dX12_readPacked_40 : decode cX12_readPacked 40 = .ok (.bipush (-5), 2) := by decide +kernel
theorem dX12_readPacked_42 : decode cX12_readPacked 42 = .ok (.invokevirtual 212, 3) := by decide +kernel
theorem dX12_readPacked_45 : decode cX12_readPacked 45 = .ok (.ireturn, 1) := by decide +kernel
theorem dX12_readPacked_46 : decode cX12_readPacked 46 = .ok (.aload_n 0, 1) := by decide +kernel
theorem dX12_readPacked_47 : decode cX12_readPacked 47 = .ok (.iconst 1, 1) := by decide +kernel
theorem dX12_readPacked_48 : decode cX12_readPacked 48 = .ok (.invokevirtual 209, 3) := by decide +kernel
theorem dX12_readPacked_51 : decode cX12_readPacked 51 = .ok (.istore_n 1, 1) := by decide +kernel
theorem dX12_readPacked_52 : decode cX12_readPacked 52 = .ok (.iload_n 1, 1) := by decide +kernel
theorem dX12_readPacked_53 : decode cX12_readPacked 53 = .ok (.iconst (-1), 1) := by decide +kernel
theorem dX12_readPacked_54 : decode cX12_readPacked 54 = .ok (.if_icmp .ne 14, 3) := by decide +kernel
theorem dX12_readPacked_57 : decode cX12_readPacked 57 = .ok (.aload_n 0, 1) := by decide +kernel
theorem dX12_readPacked_58 : decode cX12_readPacked 58 = .ok (.aload_n 0, 1) := by decide +kernel
theorem dX12_readPacked_59 : decode cX12_readPacked 59 = .ok (.getfield 178, 3) := by decide +kernel
theorem dX12_readPacked_62 : decode cX12_readPacked 62 = .ok (.bipush (-2), 2) := by decide +kernel
theorem dX12_readPacked_64 : decode cX12_readPacked 64 = .ok (.invokevirtual 212, 3) := by decide +kernel
theorem dX12_readPacked_67 : decode cX12_readPacked 67 = .ok (.ireturn, 1) := by decide +kernel
theorem dX12_readPacked_68 : decode cX12_readPacked 68 = .ok (.aload_n 0, 1) := by decide +kernel
theorem dX12_readPacked_69 : decode cX12_readPacked 69 = .ok (.iload_n 1, 1) := by decide +kernel
theorem dX12_readPacked_70 : decode cX12_readPacked 70 = .ok (.iconst 1, 1) := by decide +kernel
theorem dX12_readPacked_71 : decode cX12_readPacked 71 = .ok (.if_icmp .ne 7, 3) := by decide +kernel
theorem dX12_readPacked_74 : decode cX12_readPacked 74 = .ok (.iconst 1, 1) := by decide +kernel
theorem dX12_readPacked_75 : decode cX12_readPacked 75 = .ok (.goto 4, 3) := by decide +kernel
theorem dX12_readPacked_78 : decode cX12_readPacked 78 = .ok (.iconst 0, 1) := by decide +kernel
theorem dX12_readPacked_79 : decode cX12_readPacked 79 = .ok (.putfield 160, 3) := by decide +kernel
theorem dX12_readPacked_82 : decode cX12_readPacked 82 = .ok (.aload_n 0, 1) := by decide +kernel
theorem dX12_readPacked_83 : decode cX12_readPacked 83 = .ok (.invokevirtual 215, 3) := by decide +kernel
theorem dX12_readPacked_86 : decode cX12_readPacked 86 = .ok (.istore_n 2, 1) := by decide +kernel
theorem dX12_readPacked_87 : decode cX12_readPacked 87 = .ok (.iload_n 2, 1) := by decide +kernel
theorem dX12_readPacked_88 : decode cX12_readPacked 88 = .ok (.ifCond .ge 5, 3) := by decide +kernel
theorem dX12_readPacked_91 : decode cX12_readPacked 91 = .ok (.iload_n 2, 1) := by decide +kernel
theorem dX12_readPacked_92 : decode cX12_readPacked 92 = .ok (.ireturn, 1) := by decide +kernel
theorem dX12_readPacked_93 : decode cX12_readPacked 93 = .ok (.aload_n 0, 1) := by decide +kernel
theorem dX12_readPacked_94 : decode cX12_readPacked 94 = .ok (.getfield 191, 3) := by decide +kernel
theorem dX12_readPacked_97 : decode cX12_readPacked 97 = .ok (.istore_n 3, 1) := by decide +kernel
theorem dX12_readPacked_98 : decode cX12_readPacked 98 = .ok (.aload_n 0, 1) := by decide +kernel
theorem dX12_readPacked_99 : decode cX12_readPacked 99 = .ok (.invokevirtual 167, 3) := by decide +kernel
theorem dX12_readPacked_102 : decode cX12_readPacked 102 = .ok (.ifCond .ne 11, 3) := by decide +kernel
theorem dX12_readPacked_105 : decode cX12_readPacked 105 = .ok (.aload_n 0, 1) := by decide +kernel
theorem dX12_readPacked_106 : decode cX12_readPacked 106 = .ok (.iload_n 3, 1) := by decide +kernel
theorem dX12_readPacked_107 : decode cX12_readPacked 107 = .ok (.bipush (-8), 2) := by decide +kernel
theorem dX12_readPacked_109 : decode cX12_readPacked 109 = .ok (.invokevirtual 212, 3) := by decide +kernel
theorem dX12_readPacked_112 : decode cX12_readPacked 112 = .ok (.ireturn, 1) := by decide +kernel
theorem dX12_readPacked_113 : decode cX12_readPacked 113 = .ok (.aload_n 0, 1) := by decide +kernel
theorem dX12_readPacked_114 : decode cX12_readPacked 114 = .ok (.bipush 10, 2) := by decide +kernel
theorem dX12_readPacked_116 : decode cX12_readPacked 116 = .ok (.invokevirtual 209, 3) := by decide +kernel
theorem dX12_readPacked_119 : decode cX12_readPacked 119 = .ok (.istore 4, 2) := by decide +kernel
theorem dX12_readPacked_121 : decode cX12_readPacked 121 = .ok (.iload 4, 2) := by decide +kernel
theorem dX12_readPacked_123 : decode cX12_readPacked 123 = .ok (.iconst (-1), 1) := by decide +kernel
theorem dX12_readPacked_124 : decode cX12_readPacked 124 = .ok (.if_icmp .ne 14, 3) := by decide +kernel
theorem dX12_readPacked_127 : decode cX12_readPacked 127 = .ok (.aload_n 0, 1) := by decide +kernel
theorem dX12_readPacked_128 : decode cX12_readPacked 128 = .ok (.aload_n 0, 1) := by decide +kernel
theorem dX12_readPacked_129 : decode cX12_readPacked 129 = .ok (.getfield 178, 3) := by decide +kernel
theorem dX12_readPacked_132 : decode cX12_readPacked 132 = .ok (.bipush (-2), 2) := by decide +kernel
theorem dX12_readPacked_134 : decode cX12_readPacked 134 = .ok (.invokevirtual 212, 3) := by decide +kernel
theorem dX12_readPacked_137 : decode cX12_readPacked 137 = .ok (.ireturn, 1) := by decide +kernel
theorem dX12_readPacked_138 : decode cX12_readPacked 138 = .ok (.iload 4, 2) := by decide +kernel
theorem dX12_readPacked_140 : decode cX12_readPacked 140 = .ok (.sipush 600, 3) := by decide +kernel
theorem dX12_readPacked_143 : decode cX12_readPacked 143 = .ok (.if_icmp .le 11, 3) := by decide +kernel
theorem dX12_readPacked_146 : decode cX12_readPacked 146 = .ok (.aload_n 0, 1) := by decide +kernel
theorem dX12_readPacked_147 : decode cX12_readPacked 147 = .ok (.iload_n 3, 1) := by decide +kernel
theorem dX12_readPacked_148 : decode cX12_readPacked 148 = .ok (.bipush (-9), 2) := by decide +kernel
theorem dX12_readPacked_150 : decode cX12_readPacked 150 = .ok (.invokevirtual 212, 3) := by decide +kernel
theorem dX12_readPacked_153 : decode cX12_readPacked 153 = .ok (.ireturn, 1) := by decide +kernel
theorem dX12_readPacked_154 : decode cX12_readPacked 154 = .ok (.iconst 0, 1) := by decide +kernel
theorem dX12_readPacked_155 : decode cX12_readPacked 155 = .ok (.istore 5, 2) := by decide +kernel
theorem dX12_readPacked_157 : decode cX12_readPacked 157 = .ok (.iload 5, 2) := by decide +kernel
theorem dX12_readPacked_159 : decode cX12_readPacked 159 = .ok (.iload 4, 2) := by decide +kernel
theorem dX12_readPacked_161 : decode cX12_readPacked 161 = .ok (.if_icmp .ge 35, 3) := by decide +kernel
theorem dX12_readPacked_164 : decode cX12_readPacked 164 = .ok (.aload_n 0, 1) := by decide +kernel
theorem dX12_readPacked_165 : decode cX12_readPacked 165 = .ok (.invokevirtual 200, 3) := by decide +kernel
theorem dX12_readPacked_168 : decode cX12_readPacked 168 = .ok (.istore 6, 2) := by decide +kernel
theorem dX12_readPacked_170 : decode cX12_readPacked 170 = .ok (.iload 6, 2) := by decide +kernel
theorem dX12_readPacked_172 : decode cX12_readPacked 172 = .ok (.ifCond .le 7, 3) := by decide +kernel
theorem dX12_readPacked_175 : decode cX12_readPacked 175 = .ok (.iload 6, 2) := by decide +kernel
theorem dX12_readPacked_177 : decode cX12_readPacked 177 = .ok (.ineg, 1) := by decide +kernel
theorem dX12_readPacked_178 : decode cX12_readPacked 178 = .ok (.ireturn, 1) := by decide +kernel
theorem dX12_readPacked_179 : decode cX12_readPacked 179 = .ok (.aload_n 0, 1) := by decide +kernel
theorem dX12_readPacked_180 : decode cX12_readPacked 180 = .ok (.getfield 23, 3) := by decide +kernel
theorem dX12_readPacked_183 : decode cX12_readPacked 183 = .ok (.iload 5, 2) := by decide +kernel
theorem dX12_readPacked_185 : decode cX12_readPacked 185 = .ok (.aload_n 0, 1) := by decide +kernel
theorem dX12_readPacked_186 : decode cX12_readPacked 186 = .ok (.getfield 194, 3) := by decide +kernel
theorem dX12_readPacked_189 : decode cX12_readPacked 189 = .ok (.iastore, 1) := by decide +kernel
theorem dX12_readPacked_190 : decode cX12_readPacked 190 = .ok (.iinc 5 1, 3) := by decide +kernel
theorem dX12_readPacked_193 : decode cX12_readPacked 193 = .ok (.goto (-36), 3) := by decide +kernel
theorem dX12_readPacked_196 : decode cX12_readPacked 196 = .ok (.aload_n 0, 1) := by decide +kernel
theorem dX12_readPacked_197 : decode cX12_readPacked 197 = .ok (.getfield 191, 3) := by decide +kernel
theorem dX12_readPacked_200 : decode cX12_readPacked 200 = .ok (.aload_n 0, 1) := by decide +kernel
theorem dX12_readPacked_201 : decode cX12_readPacked 201 = .ok (.getfield 178, 3) := by decide +kernel
theorem dX12_readPacked_204 : decode cX12_readPacked 204 = .ok (.if_icmp .ge 16, 3) := by decide +kernel
theorem dX12_readPacked_207 : decode cX12_readPacked 207 = .ok (.aload_n 0, 1) := by decide +kernel
theorem dX12_readPacked_208 : decode cX12_readPacked 208 = .ok (.aload_n 0, 1) := by decide +kernel
theorem dX12_readPacked_209 : decode cX12_readPacked 209 = .ok (.getfield 191, 3) := by decide +kernel
theorem dX12_readPacked_212 : decode cX12_readPacked 212 = .ok (.bipush (-10), 2) := by decide +kernel
theorem dX12_readPacked_214 : decode cX12_readPacked 214 = .ok (.invokevirtual 212, 3) := by decide +kernel
theorem dX12_readPacked_217 : decode cX12_readPacked 217 = .ok (.goto 5, 3) := by decide +kernel
theorem dX12_readPacked_220 : decode cX12_readPacked 220 = .ok (.iload 4, 2) := by decide +kernel
theorem dX12_readPacked_222 : decode cX12_readPacked 222 = .ok (.ireturn, 1) := by decide +kernel
set_option maxRecDepth 20000 in
theorem ggX12_unpack_X12_readPacked : GoodIn wsX12_unpack wsX12_readPacked := goodIn_r _ [13, 14, 15, 3, 1, 8, 16, 17, 18, 19, 12, 20, 21, 22, 23, 24, 25, 26, 27, 28, 29, 30, 31, 5, 32, 33, 34, 35, 36, 37, 38, 39, 40, 41, 42, 43, 44, 45, 46, 47, 48, 49, 50, 51, 52, 53, 54, 55, 56, 57, 58, 59, 60, 61, 62, 63, 64, 65, 66, 67, 68, 69, 70, 71, 72, 73, 74, 75, 76, 77, 78, 79, 80, 81, 82, 83, 84, 85, 86, 87, 88] (by decide +kernel) (by decide +kernel)
set_option maxRecDepth 20000 in
theorem gX12_unpack_X12_readPacked : GoodIn wsX12_unpack (wsV RX12 218 RX12 yX12_readPacked wsX12_readPacked) := goodIn_app (goodIn_of _ (by decide +kernel)) ggX12_unpack_X12_readPacked
set_option maxRecDepth 20000 in
theorem ggX12_unpack_X12_makeCodes : GoodIn wsX12_unpack wsX12_makeCodes := goodIn_r _ [35, 36, 1, 3, 5, 37, 38, 39, 40, 12, 41, 42, 43, 44, 45, 50, 51, 52, 53, 54, 55, 56, 57, 58, 59, 60, 61, 62, 63, 64, 65, 66, 67, 68, 69, 70, 71, 72, 73, 74, 75, 76, 77, 78, 79, 80, 81, 82, 83, 84, 85, 86, 87, 88] (by decide +kernel) (by decide +kernel)
set_option maxRecDepth 20000 in
theorem gX12_unpack_X12_makeCodes : GoodIn wsX12_unpack (wsV RX12 167 RX12 yX12_makeCodes wsX12_makeCodes) := goodIn_app (goodIn_of _ (by decide +kernel)) ggX12_unpack_X12_makeCodes
theorem dX12_unpack_0 : decode cX12_unpack 0 = .ok (.aload_n 0, 1) := by decide +kernel
theorem dX12_unpack_1 : decode cX12_unpack 1 = .ok (.getfield 160, 3) := by decide +kernel
theorem dX12_unpack_4 : decode cX12_unpack 4 = .ok (.istore_n 1, 1) := by decide +kernel
theorem dX12_unpack_5 : decode cX12_unpack 5 = .ok (.aload_n 0, 1) := by decide +kernel
theorem dX12_unpack_6 : decode cX12_unpack 6 = .ok (.getfield 164, 3) := by decide +kernel
theorem dX12_unpack_9 : decode cX12_unpack 9 = .ok (.istore_n 2, 1) := by decide +kernel
theorem dX12_unpack_10 : decode cX12_unpack 10 = .ok (.iconst 0, 1) := by decide +kernel
theorem dX12_unpack_11 : decode cX12_unpack 11 = .ok (.istore_n 3, 1) := by decide +kernel
theorem dX12_unpack_12 : decode cX12_unpack 12 = .ok (.iload_n 3, 1) := by decide +kernel
theorem dX12_unpack_13 : decode cX12_unpack 13 = .ok (.aload_n 0, 1) := by decide +kernel
theorem dX12_unpack_14 : decode cX12_unpack 14 = .ok (.getfield 93, 3) := by decide +kernel
theorem dX12_unpack_17 : decode cX12_unpack 17 = .ok (.if_icmp .ge 21, 3) := by decide +kernel
theorem dX12_unpack_20 : decode cX12_unpack 20 = .ok (.aload_n 0, 1) := by decide +kernel
theorem dX12_unpack_21 : decode cX12_unpack 21 = .ok (.getfield 66, 3) := by decide +kernel
theorem dX12_unpack_24 : decode cX12_unpack 24 = .ok (.iload_n 3, 1) := by decide +kernel
theorem dX12_unpack_25 : decode cX12_unpack 25 = .ok (.aload_n 0, 1) := by decide +kernel
theorem dX12_unpack_26 : decode cX12_unpack 26 = .ok (.getfield 13, 3) := by decide +kernel
theorem dX12_unpack_29 : decode cX12_unpack 29 = .ok (.iload_n 3, 1) := by decide +kernel
theorem dX12_unpack_30 : decode cX12_unpack 30 = .ok (.iaload, 1) := by decide +kernel
theorem dX12_unpack_31 : decode cX12_unpack 31 = .ok (.iastore, 1) := by decide +kernel
theorem dX12_unpack_32 : decode cX12_unpack 32 = .ok (.iinc 3 1, 3) := by decide +kernel
theorem dX12_unpack_35 : decode cX12_unpack 35 = .ok (.goto (-23), 3) := by decide +kernel
theorem dX12_unpack_38 : decode cX12_unpack 38 = .ok (.iconst 0, 1) := by decide +kernel
theorem dX12_unpack_39 : decode cX12_unpack 39 = .ok (.istore_n 3, 1) := by decide +kernel
theorem dX12_unpack_40 : decode cX12_unpack 40 = .ok (.iload_n 3, 1) := by decide +kernel
theorem dX12_unpack_41 : decode cX12_unpack 41 = .ok (.aload_n 0, 1) := by decide +kernel
theorem dX12_unpack_42 : decode cX12_unpack 42 = .ok (.getfield 197, 3) := by decide +kernel
theorem dX12_unpack_45 : decode cX12_unpack 45 = .ok (.if_icmp .ge 21, 3) := by decide +kernel
theorem dX12_unpack_48 : decode cX12_unpack 48 = .ok (.aload_n 0, 1) := by decide +kernel
theorem dX12_unpack_49 : decode cX12_unpack 49 = .ok (.getfield 69, 3) := by decide +kernel
theorem dX12_unpack_52 : decode cX12_unpack 52 = .ok (.iload_n 3, 1) := by decide +kernel
theorem dX12_unpack_53 : decode cX12_unpack 53 = .ok (.aload_n 0, 1) := by decide +kernel
theorem dX12_unpack_54 : decode cX12_unpack 54 = .ok (.getfield 23, 3) := by decide +kernel
theorem dX12_unpack_57 : decode cX12_unpack 57 = .ok (.iload_n 3, 1) := by decide +kernel
theorem dX12_unpack_58 : decode cX12_unpack 58 = .ok (.iaload, 1) := by decide +kernel
theorem dX12_unpack_59 : decode cX12_unpack 59 = .ok (.iastore, 1) := by decide +kernel
theorem dX12_unpack_60 : decode cX12_unpack 60 = .ok (.iinc 3 1, 3) := by decide +kernel
theorem dX12_unpack_63 : decode cX12_unpack 63 = .ok (.goto (-23), 3) := by decide +kernel
theorem dX12_unpack_66 : decode cX12_unpack 66 = .ok (.aload_n 0, 1) := by decide +kernel
theorem dX12_unpack_67 : decode cX12_unpack 67 = .ok (.invokevirtual 218, 3) := by decide +kernel
theorem dX12_unpack_70 : decode cX12_unpack 70 = .ok (.istore_n 3, 1) := by decide +kernel
theorem dX12_unpack_71 : decode cX12_unpack 71 = .ok (.iload_n 3, 1) := by decide +kernel
theorem dX12_unpack_72 : decode cX12_unpack 72 = .ok (.ifCond .lt 15, 3) := by decide +kernel
theorem dX12_unpack_75 : decode cX12_unpack 75 = .ok (.aload_n 0, 1) := by decide +kernel
theorem dX12_unpack_76 : decode cX12_unpack 76 = .ok (.iload_n 3, 1) := by decide +kernel
theorem dX12_unpack_77 : decode cX12_unpack 77 = .ok (.putfield 197, 3) := by decide +kernel
theorem dX12_unpack_80 : decode cX12_unpack 80 = .ok (.aload_n 0, 1) := by decide +kernel
theorem dX12_unpack_81 : decode cX12_unpack 81 = .ok (.iconst 1, 1) := by decide +kernel
theorem dX12_unpack_82 : decode cX12_unpack 82 = .ok (.putfield 164, 3) := by decide +kernel
theorem dX12_unpack_85 : decode cX12_unpack 85 = .ok (.iload_n 3, 1) := by decide +kernel
theorem dX12_unpack_86 : decode cX12_unpack 86 = .ok (.ireturn, 1) := by decide +kernel
theorem dX12_unpack_87 : decode cX12_unpack 87 = .ok (.aload_n 0, 1) := by decide +kernel
theorem dX12_unpack_88 : decode cX12_unpack 88 = .ok (.iload_n 1, 1) := by decide +kernel
theorem dX12_unpack_89 : decode cX12_unpack 89 = .ok (.putfield 160, 3) := by decide +kernel
theorem dX12_unpack_92 : decode cX12_unpack 92 = .ok (.aload_n 0, 1) := by decide +kernel
theorem dX12_unpack_93 : decode cX12_unpack 93 = .ok (.iload_n 2, 1) := by decide +kernel
theorem dX12_unpack_94 : decode cX12_unpack 94 = .ok (.putfield 164, 3) := by decide +kernel
theorem dX12_unpack_97 : decode cX12_unpack 97 = .ok (.iconst 0, 1) := by decide +kernel
theorem dX12_unpack_98 : decode cX12_unpack 98 = .ok (.istore 4, 2) := by decide +kernel
theorem dX12_unpack_100 : decode cX12_unpack 100 = .ok (.iload 4, 2) := by decide +kernel
theorem dX12_unpack_102 : decode cX12_unpack 102 = .ok (.aload_n 0, 1) := by decide +kernel
theorem dX12_unpack_103 : decode cX12_unpack 103 = .ok (.getfield 93, 3) := by decide +kernel
theorem dX12_unpack_106 : decode cX12_unpack 106 = .ok (.if_icmp .ge 23, 3) := by decide +kernel
theorem dX12_unpack_109 : decode cX12_unpack 109 = .ok (.aload_n 0, 1) := by decide +kernel
theorem dX12_unpack_110 : decode cX12_unpack 110 = .ok (.getfield 13, 3) := by decide +kernel
theorem dX12_unpack_113 : decode cX12_unpack 113 = .ok (.iload 4, 2) := by decide +kernel
theorem dX12_unpack_115 : decode cX12_unpack 115 = .ok (.aload_n 0, 1) := by decide +kernel
theorem dX12_unpack_116 : decode cX12_unpack 116 = .ok (.getfield 66, 3) := by decide +kernel
theorem dX12_unpack_119 : decode cX12_unpack 119 = .ok (.iload 4, 2) := by decide +kernel
theorem dX12_unpack_121 : decode cX12_unpack 121 = .ok (.iaload, 1) := by decide +kernel
theorem dX12_unpack_122 : decode cX12_unpack 122 = .ok (.iastore, 1) := by decide +kernel
theorem dX12_unpack_123 : decode cX12_unpack 123 = .ok (.iinc 4 1, 3) := by decide +kernel
theorem dX12_unpack_126 : decode cX12_unpack 126 = .ok (.goto (-26), 3) := by decide +kernel
theorem dX12_unpack_129 : decode cX12_unpack 129 = .ok (.iconst 0, 1) := by decide +kernel
theorem dX12_unpack_130 : decode cX12_unpack 130 = .ok (.istore 4, 2) := by decide +kernel
theorem dX12_unpack_132 : decode cX12_unpack 132 = .ok (.iload 4, 2) := by decide +kernel
theorem dX12_unpack_134 : decode cX12_unpack 134 = .ok (.aload_n 0, 1) := by decide +kernel
theorem dX12_unpack_135 : decode cX12_unpack 135 = .ok (.getfield 197, 3) := by decide +kernel
theorem dX12_unpack_138 : decode cX12_unpack 138 = .ok (.if_icmp .ge 23, 3) := by decide +kernel
theorem dX12_unpack_141 : decode cX12_unpack 141 = .ok (.aload_n 0, 1) := by decide +kernel
theorem dX12_unpack_142 : decode cX12_unpack 142 = .ok (.getfield 23, 3) := by decide +kernel
theorem dX12_unpack_145 : decode cX12_unpack 145 = .ok (.iload 4, 2) := by decide +kernel
theorem dX12_unpack_147 : decode cX12_unpack 147 = .ok (.aload_n 0, 1) := by decide +kernel
theorem dX12_unpack_148 : decode cX12_unpack 148 = .ok (.getfield 69, 3) := by decide +kernel
theorem dX12_unpack_151 : decode cX12_unpack 151 = .ok (.iload 4, 2) := by decide +kernel
theorem dX12_unpack_153 : decode cX12_unpack 153 = .ok (.iaload, 1) := by decide +kernel
theorem dX12_unpack_154 : decode cX12_unpack 154 = .ok (.iastore, 1) := by decide +kernel
theorem dX12_unpack_155 : decode cX12_unpack 155 = .ok (.iinc 4 1, 3) := by decide +kernel
theorem dX12_unpack_158 : decode cX12_unpack 158 = .ok (.goto (-26), 3) := by decide +kernel
theorem dX12_unpack_161 : decode cX12_unpack 161 = .ok (.aload_n 0, 1) := by decide +kernel
theorem dX12_unpack_162 : decode cX12_unpack 162 = .ok (.invokevirtual 167, 3) := by decide +kernel
theorem dX12_unpack_165 : decode cX12_unpack 165 = .ok (.istore 4, 2) := by decide +kernel
theorem dX12_unpack_167 : decode cX12_unpack 167 = .ok (.iload_n 3, 1) := by decide +kernel
theorem dX12_unpack_168 : decode cX12_unpack 168 = .ok (.ireturn, 1) := by decide +kernel
set_option maxRecDepth 20000 in
theorem ggX12_push_X12_within : GoodIn wsX12_push wsX12_within := goodIn_r _ [5] (by decide +kernel) (by decide +kernel)
set_option maxRecDepth 20000 in
theorem gX12_push_X12_within : GoodIn wsX12_push (va_wsS RX12 99 yX12_within wsX12_within) := goodIn_app (goodIn_of _ (by decide +kernel)) ggX12_push_X12_within
set_option maxRecDepth 20000 in
theorem ggX12_push_X12_lay : GoodIn wsX12_push wsX12_lay := goodIn_r _ [9, 10, 1, 11, 12, 13, 14, 15, 16, 17, 18, 19, 20, 21, 22, 23, 24, 25, 26, 27, 28, 29, 30, 31, 32, 33, 34, 35, 36, 37, 38, 39, 40, 41, 42, 43, 44, 45, 46, 47, 48, 49] (by decide +kernel) (by decide +kernel)
set_option maxRecDepth 20000 in
theorem gX12_push_X12_lay : GoodIn wsX12_push (wsV RX12 181 RX12 yX12_lay wsX12_lay) := goodIn_app (goodIn_of _ (by decide +kernel)) ggX12_push_X12_lay
