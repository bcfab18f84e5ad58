theorem dX12_sort_0 : decode cX12_sort 0 = .ok (.iconst 0, 1) := by decide +kernel
theorem dX12_sort_1 : decode cX12_sort 1 = .ok (.istore_n 2, 1) := by decide +kernel
theorem dX12_sort_2 : decode cX12_sort 2 = .ok (.iload_n 2, 1) := by decide +kernel
theorem dX12_sort_3 : decode cX12_sort 3 = .ok (.aload_n 0, 1) := by decide +kernel
theorem dX12_sort_4 : decode cX12_sort 4 = .ok (.getfield 116, 3) := by decide +kernel
theorem dX12_sort_7 : decode cX12_sort 7 = .ok (.if_icmp .ge 93, 3) := by decide +kernel
theorem dX12_sort_10 : decode cX12_sort 10 = .ok (.iload_n 2, 1) := by decide +kernel
theorem dX12_sort_11 : decode cX12_sort 11 = .ok (.istore_n 3, 1) := by decide +kernel
theorem dX12_sort_12 : decode cX12_sort 12 = .ok (.iload_n 3, 1) := by decide +kernel
theorem dX12_sort_13 : decode cX12_sort 13 = .ok (.ifCond .le 74, 3) := by decide +kernel
theorem dX12_sort_16 : decode cX12_sort 16 = .ok (.iload_n 1, 1) := by decide +kernel
theorem dX12_sort_17 : decode cX12_sort 17 = .ok (.ifCond .eq 28, 3) := by decide +kernel
theorem dX12_sort_20 : decode cX12_sort 20 = .ok (.aload_n 0, 1) := by decide +kernel
theorem dX12_sort_21 : decode cX12_sort 21 = .ok (.getfield 33, 3) := by decide +kernel
theorem dX12_sort_24 : decode cX12_sort 24 = .ok (.aload_n 0, 1) := by decide +kernel
theorem dX12_sort_25 : decode cX12_sort 25 = .ok (.getfield 45, 3) := by decide +kernel
theorem dX12_sort_28 : decode cX12_sort 28 = .ok (.iload_n 3, 1) := by decide +kernel
theorem dX12_sort_29 : decode cX12_sort 29 = .ok (.iconst 1, 1) := by decide +kernel
theorem dX12_sort_30 : decode cX12_sort 30 = .ok (.isub, 1) := by decide +kernel
theorem dX12_sort_31 : decode cX12_sort 31 = .ok (.iaload, 1) := by decide +kernel
theorem dX12_sort_32 : decode cX12_sort 32 = .ok (.iaload, 1) := by decide +kernel
theorem dX12_sort_33 : decode cX12_sort 33 = .ok (.aload_n 0, 1) := by decide +kernel
theorem dX12_sort_34 : decode cX12_sort 34 = .ok (.getfield 33, 3) := by decide +kernel
theorem dX12_sort_37 : decode cX12_sort 37 = .ok (.iload_n 2, 1) := by decide +kernel
theorem dX12_sort_38 : decode cX12_sort 38 = .ok (.iaload, 1) := by decide +kernel
theorem dX12_sort_39 : decode cX12_sort 39 = .ok (.if_icmp .le 48, 3) := by decide +kernel
theorem dX12_sort_42 : decode cX12_sort 42 = .ok (.goto 25, 3) := by decide +kernel
theorem dX12_sort_45 : decode cX12_sort 45 = .ok (.aload_n 0, 1) := by decide +kernel
theorem dX12_sort_46 : decode cX12_sort 46 = .ok (.getfield 33, 3) := by decide +kernel
theorem dX12_sort_49 : decode cX12_sort 49 = .ok (.aload_n 0, 1) := by decide +kernel
theorem dX12_sort_50 : decode cX12_sort 50 = .ok (.getfield 45, 3) := by decide +kernel
theorem dX12_sort_53 : decode cX12_sort 53 = .ok (.iload_n 3, 1) := by decide +kernel
theorem dX12_sort_54 : decode cX12_sort 54 = .ok (.iconst 1, 1) := by decide +kernel
theorem dX12_sort_55 : decode cX12_sort 55 = .ok (.isub, 1) := by decide +kernel
theorem dX12_sort_56 : decode cX12_sort 56 = .ok (.iaload, 1) := by decide +kernel
theorem dX12_sort_57 : decode cX12_sort 57 = .ok (.iaload, 1) := by decide +kernel
theorem dX12_sort_58 : decode cX12_sort 58 = .ok (.aload_n 0, 1) := by decide +kernel
theorem dX12_sort_59 : decode cX12_sort 59 = .ok (.getfield 33, 3) := by decide +kernel
theorem dX12_sort_62 : decode cX12_sort 62 = .ok (.iload_n 2, 1) := by decide +kernel
theorem dX12_sort_63 : decode cX12_sort 63 = .ok (.iaload, 1) := by decide +kernel
theorem dX12_sort_64 : decode cX12_sort 64 = .ok (.if_icmp .ge 23, 3) := by decide +kernel
theorem dX12_sort_67 : decode cX12_sort 67 = .ok (.aload_n 0, 1) := by decide +kernel
theorem dX12_sort_68 : decode cX12_sort 68 = .ok (.getfield 45, 3) := by decide +kernel
theorem dX12_sort_71 : decode cX12_sort 71 = .ok (.iload_n 3, 1) := by decide +kernel
theorem dX12_sort_72 : decode cX12_sort 72 = .ok (.aload_n 0, 1) := by decide +kernel
theorem dX12_sort_73 : decode cX12_sort 73 = .ok (.getfield 45, 3) := by decide +kernel
theorem dX12_sort_76 : decode cX12_sort 76 = .ok (.iload_n 3, 1) := by decide +kernel
theorem dX12_sort_77 : decode cX12_sort 77 = .ok (.iconst 1, 1) := by decide +kernel
theorem dX12_sort_78 : decode cX12_sort 78 = .ok (.isub, 1) := by decide +kernel
theorem dX12_sort_79 : decode cX12_sort 79 = .ok (.iaload, 1) := by decide +kernel
theorem dX12_sort_80 : decode cX12_sort 80 = .ok (.iastore, 1) := by decide +kernel
theorem dX12_sort_81 : decode cX12_sort 81 = .ok (.iinc 3 (-1), 3) := by decide +kernel
theorem dX12_sort_84 : decode cX12_sort 84 = .ok (.goto (-72), 3) := by decide +kernel
theorem dX12_sort_87 : decode cX12_sort 87 = .ok (.aload_n 0, 1) := by decide +kernel
theorem dX12_sort_88 : decode cX12_sort 88 = .ok (.getfield 45, 3) := by decide +kernel
theorem dX12_sort_91 : decode cX12_sort 91 = .ok (.iload_n 3, 1) := by decide +kernel
theorem dX12_sort_92 : decode cX12_sort 92 = .ok (.iload_n 2, 1) := by decide +kernel
theorem dX12_sort_93 : decode cX12_sort 93 = .ok (.iastore, 1) := by decide +kernel
theorem dX12_sort_94 : decode cX12_sort 94 = .ok (.iinc 2 1, 3) := by decide +kernel
theorem dX12_sort_97 : decode cX12_sort 97 = .ok (.goto (-95), 3) := by decide +kernel
theorem dX12_sort_100 : decode cX12_sort 100 = .ok (.return_, 1) := by decide +kernel
set_option maxRecDepth 20000 in
theorem ggX12_byQueues_X12_sort : GoodIn wsX12_byQueues wsX12_sort := goodIn_r _ [10, 1, 3, 5, 16, 17, 18, 19, 20, 21, 22, 23, 24, 25, 26, 27, 28, 29, 30, 31, 32, 33, 34, 35, 36, 37, 38, 39, 40, 41, 42, 43, 44, 45, 46, 47, 48, 49, 50, 51, 52, 53, 54] (by decide +kernel) (by decide +kernel)
set_option maxRecDepth 20000 in
theorem gX12_byQueues_X12_sort : GoodIn wsX12_byQueues (wsV RX12 126 RX12 yX12_sort wsX12_sort) := goodIn_app (goodIn_of _ (by decide +kernel)) ggX12_byQueues_X12_sort
set_option maxRecDepth 20000 in
theorem ggX12_byQueues_X12_goUp : GoodIn wsX12_byQueues wsX12_goUp := goodIn_r _ [14, 1, 4, 15, 16, 17, 18, 19, 20, 21, 22, 23, 24, 25, 26, 27, 28, 29, 30, 31, 32, 33, 34, 35, 36, 37, 38, 39, 40, 41, 42, 43, 44, 45, 46, 47, 48, 49, 50, 51, 52, 53, 54] (by decide +kernel) (by decide +kernel)
set_option maxRecDepth 20000 in
theorem gX12_byQueues_X12_goUp : GoodIn wsX12_byQueues (wsV RX12 123 RX12 yX12_goUp wsX12_goUp) := goodIn_app (goodIn_of _ (by decide +kernel)) ggX12_byQueues_X12_goUp
theorem dX12_byQueues_0 : decode cX12_byQueues 0 = .ok (.aload_n 0, 1) := by decide +kernel
theorem dX12_byQueues_1 : decode cX12_byQueues 1 = .ok (.iconst 1, 1) := by decide +kernel
theorem dX12_byQueues_2 : decode cX12_byQueues 2 = .ok (.invokevirtual 126, 3) := by decide +kernel
theorem dX12_byQueues_5 : decode cX12_byQueues 5 = .ok (.iconst 0, 1) := by decide +kernel
theorem dX12_byQueues_6 : decode cX12_byQueues 6 = .ok (.istore_n 1, 1) := by decide +kernel
theorem dX12_byQueues_7 : decode cX12_byQueues 7 = .ok (.iload_n 1, 1) := by decide +kernel
theorem dX12_byQueues_8 : decode cX12_byQueues 8 = .ok (.aload_n 0, 1) := by decide +kernel
theorem dX12_byQueues_9 : decode cX12_byQueues 9 = .ok (.getfield 116, 3) := by decide +kernel
theorem dX12_byQueues_12 : decode cX12_byQueues 12 = .ok (.if_icmp .ge 28, 3) := by decide +kernel
theorem dX12_byQueues_15 : decode cX12_byQueues 15 = .ok (.aload_n 0, 1) := by decide +kernel
theorem dX12_byQueues_16 : decode cX12_byQueues 16 = .ok (.getfield 39, 3) := by decide +kernel
theorem dX12_byQueues_19 : decode cX12_byQueues 19 = .ok (.iload_n 1, 1) := by decide +kernel
theorem dX12_byQueues_20 : decode cX12_byQueues 20 = .ok (.aload_n 0, 1) := by decide +kernel
theorem dX12_byQueues_21 : decode cX12_byQueues 21 = .ok (.getfield 33, 3) := by decide +kernel
theorem dX12_byQueues_24 : decode cX12_byQueues 24 = .ok (.iload_n 1, 1) := by decide +kernel
theorem dX12_byQueues_25 : decode cX12_byQueues 25 = .ok (.iaload, 1) := by decide +kernel
theorem dX12_byQueues_26 : decode cX12_byQueues 26 = .ok (.iastore, 1) := by decide +kernel
theorem dX12_byQueues_27 : decode cX12_byQueues 27 = .ok (.aload_n 0, 1) := by decide +kernel
theorem dX12_byQueues_28 : decode cX12_byQueues 28 = .ok (.getfield 42, 3) := by decide +kernel
theorem dX12_byQueues_31 : decode cX12_byQueues 31 = .ok (.iload_n 1, 1) := by decide +kernel
theorem dX12_byQueues_32 : decode cX12_byQueues 32 = .ok (.iconst (-1), 1) := by decide +kernel
theorem dX12_byQueues_33 : decode cX12_byQueues 33 = .ok (.iastore, 1) := by decide +kernel
theorem dX12_byQueues_34 : decode cX12_byQueues 34 = .ok (.iinc 1 1, 3) := by decide +kernel
theorem dX12_byQueues_37 : decode cX12_byQueues 37 = .ok (.goto (-30), 3) := by decide +kernel
theorem dX12_byQueues_40 : decode cX12_byQueues 40 = .ok (.iconst 0, 1) := by decide +kernel
theorem dX12_byQueues_41 : decode cX12_byQueues 41 = .ok (.istore_n 1, 1) := by decide +kernel
theorem dX12_byQueues_42 : decode cX12_byQueues 42 = .ok (.aload_n 0, 1) := by decide +kernel
theorem dX12_byQueues_43 : decode cX12_byQueues 43 = .ok (.getfield 116, 3) := by decide +kernel
theorem dX12_byQueues_46 : decode cX12_byQueues 46 = .ok (.istore_n 2, 1) := by decide +kernel
theorem dX12_byQueues_47 : decode cX12_byQueues 47 = .ok (.aload_n 0, 1) := by decide +kernel
theorem dX12_byQueues_48 : decode cX12_byQueues 48 = .ok (.getfield 116, 3) := by decide +kernel
theorem dX12_byQueues_51 : decode cX12_byQueues 51 = .ok (.istore_n 3, 1) := by decide +kernel
theorem dX12_byQueues_52 : decode cX12_byQueues 52 = .ok (.iload_n 3, 1) := by decide +kernel
theorem dX12_byQueues_53 : decode cX12_byQueues 53 = .ok (.iconst 2, 1) := by decide +kernel
theorem dX12_byQueues_54 : decode cX12_byQueues 54 = .ok (.aload_n 0, 1) := by decide +kernel
theorem dX12_byQueues_55 : decode cX12_byQueues 55 = .ok (.getfield 116, 3) := by decide +kernel
theorem dX12_byQueues_58 : decode cX12_byQueues 58 = .ok (.imul, 1) := by decide +kernel
theorem dX12_byQueues_59 : decode cX12_byQueues 59 = .ok (.iconst 1, 1) := by decide +kernel
theorem dX12_byQueues_60 : decode cX12_byQueues 60 = .ok (.isub, 1) := by decide +kernel
theorem dX12_byQueues_61 : decode cX12_byQueues 61 = .ok (.if_icmp .ge 145, 3) := by decide +kernel
theorem dX12_byQueues_64 : decode cX12_byQueues 64 = .ok (.aload_n 0, 1) := by decide +kernel
theorem dX12_byQueues_65 : decode cX12_byQueues 65 = .ok (.getfield 42, 3) := by decide +kernel
theorem dX12_byQueues_68 : decode cX12_byQueues 68 = .ok (.iload_n 3, 1) := by decide +kernel
theorem dX12_byQueues_69 : decode cX12_byQueues 69 = .ok (.iconst (-1), 1) := by decide +kernel
theorem dX12_byQueues_70 : decode cX12_byQueues 70 = .ok (.iastore, 1) := by decide +kernel
theorem dX12_byQueues_71 : decode cX12_byQueues 71 = .ok (.aload_n 0, 1) := by decide +kernel
theorem dX12_byQueues_72 : decode cX12_byQueues 72 = .ok (.getfield 39, 3) := by decide +kernel
theorem dX12_byQueues_75 : decode cX12_byQueues 75 = .ok (.iload_n 3, 1) := by decide +kernel
theorem dX12_byQueues_76 : decode cX12_byQueues 76 = .ok (.iconst 0, 1) := by decide +kernel
theorem dX12_byQueues_77 : decode cX12_byQueues 77 = .ok (.iastore, 1) := by decide +kernel
theorem dX12_byQueues_78 : decode cX12_byQueues 78 = .ok (.iconst 0, 1) := by decide +kernel
theorem dX12_byQueues_79 : decode cX12_byQueues 79 = .ok (.istore 4, 2) := by decide +kernel
theorem dX12_byQueues_81 : decode cX12_byQueues 81 = .ok (.iload 4, 2) := by decide +kernel
theorem dX12_byQueues_83 : decode cX12_byQueues 83 = .ok (.iconst 2, 1) := by decide +kernel
theorem dX12_byQueues_84 : decode cX12_byQueues 84 = .ok (.if_icmp .ge 116, 3) := by decide +kernel
theorem dX12_byQueues_87 : decode cX12_byQueues 87 = .ok (.iload_n 1, 1) := by decide +kernel
theorem dX12_byQueues_88 : decode cX12_byQueues 88 = .ok (.aload_n 0, 1) := by decide +kernel
theorem dX12_byQueues_89 : decode cX12_byQueues 89 = .ok (.getfield 116, 3) := by decide +kernel
theorem dX12_byQueues_92 : decode cX12_byQueues 92 = .ok (.if_icmp .ge 32, 3) := by decide +kernel
theorem dX12_byQueues_95 : decode cX12_byQueues 95 = .ok (.iload_n 2, 1) := by decide +kernel
theorem dX12_byQueues_96 : decode cX12_byQueues 96 = .ok (.iload_n 3, 1) := by decide +kernel
theorem dX12_byQueues_97 : decode cX12_byQueues 97 = .ok (.if_icmp .eq 23, 3) := by decide +kernel
theorem dX12_byQueues_100 : decode cX12_byQueues 100 = .ok (.aload_n 0, 1) := by decide +kernel
theorem dX12_byQueues_101 : decode cX12_byQueues 101 = .ok (.getfield 39, 3) := by decide +kernel
theorem dX12_byQueues_104 : decode cX12_byQueues 104 = .ok (.aload_n 0, 1) := by decide +kernel
theorem dX12_byQueues_105 : decode cX12_byQueues 105 = .ok (.getfield 45, 3) := by decide +kernel
theorem dX12_byQueues_108 : decode cX12_byQueues 108 = .ok (.iload_n 1, 1) := by decide +kernel
theorem dX12_byQueues_109 : decode cX12_byQueues 109 = .ok (.iaload, 1) := by decide +kernel
theorem dX12_byQueues_110 : decode cX12_byQueues 110 = .ok (.iaload, 1) := by decide +kernel
theorem dX12_byQueues_111 : decode cX12_byQueues 111 = .ok (.aload_n 0, 1) := by decide +kernel
theorem dX12_byQueues_112 : decode cX12_byQueues 112 = .ok (.getfield 39, 3) := by decide +kernel
theorem dX12_byQueues_115 : decode cX12_byQueues 115 = .ok (.iload_n 2, 1) := by decide +kernel
theorem dX12_byQueues_116 : decode cX12_byQueues 116 = .ok (.iaload, 1) := by decide +kernel
theorem dX12_byQueues_117 : decode cX12_byQueues 117 = .ok (.if_icmp .gt 7, 3) := by decide +kernel
theorem dX12_byQueues_120 : decode cX12_byQueues 120 = .ok (.iconst 1, 1) := by decide +kernel
theorem dX12_byQueues_121 : decode cX12_byQueues 121 = .ok (.goto 4, 3) := by decide +kernel
theorem dX12_byQueues_124 : decode cX12_byQueues 124 = .ok (.iconst 0, 1) := by decide +kernel
theorem dX12_byQueues_125 : decode cX12_byQueues 125 = .ok (.istore 5, 2) := by decide +kernel
theorem dX12_byQueues_127 : decode cX12_byQueues 127 = .ok (.iload 5, 2) := by decide +kernel
theorem dX12_byQueues_129 : decode cX12_byQueues 129 = .ok (.ifCond .eq 12, 3) := by decide +kernel
theorem dX12_byQueues_132 : decode cX12_byQueues 132 = .ok (.aload_n 0, 1) := by decide +kernel
theorem dX12_byQueues_133 : decode cX12_byQueues 133 = .ok (.getfield 45, 3) := by decide +kernel
theorem dX12_byQueues_136 : decode cX12_byQueues 136 = .ok (.iload_n 1, 1) := by decide +kernel
theorem dX12_byQueues_137 : decode cX12_byQueues 137 = .ok (.iaload, 1) := by decide +kernel
theorem dX12_byQueues_138 : decode cX12_byQueues 138 = .ok (.goto 4, 3) := by decide +kernel
theorem dX12_byQueues_141 : decode cX12_byQueues 141 = .ok (.iload_n 2, 1) := by decide +kernel
theorem dX12_byQueues_142 : decode cX12_byQueues 142 = .ok (.istore 6, 2) := by decide +kernel
theorem dX12_byQueues_144 : decode cX12_byQueues 144 = .ok (.iload_n 1, 1) := by decide +kernel
theorem dX12_byQueues_145 : decode cX12_byQueues 145 = .ok (.iload 5, 2) := by decide +kernel
theorem dX12_byQueues_147 : decode cX12_byQueues 147 = .ok (.ifCond .eq 7, 3) := by decide +kernel
theorem dX12_byQueues_150 : decode cX12_byQueues 150 = .ok (.iconst 1, 1) := by decide +kernel
theorem dX12_byQueues_151 : decode cX12_byQueues 151 = .ok (.goto 4, 3) := by decide +kernel
theorem dX12_byQueues_154 : decode cX12_byQueues 154 = .ok (.iconst 0, 1) := by decide +kernel
theorem dX12_byQueues_155 : decode cX12_byQueues 155 = .ok (.iadd, 1) := by decide +kernel
theorem dX12_byQueues_156 : decode cX12_byQueues 156 = .ok (.istore_n 1, 1) := by decide +kernel
theorem dX12_byQueues_157 : decode cX12_byQueues 157 = .ok (.iload_n 2, 1) := by decide +kernel
theorem dX12_byQueues_158 : decode cX12_byQueues 158 = .ok (.iload 5, 2) := by decide +kernel
theorem dX12_byQueues_160 : decode cX12_byQueues 160 = .ok (.ifCond .eq 7, 3) := by decide +kernel
theorem dX12_byQueues_163 : decode cX12_byQueues 163 = .ok (.iconst 0, 1) := by decide +kernel
theorem dX12_byQueues_164 : decode cX12_byQueues 164 = .ok (.goto 4, 3) := by decide +kernel
theorem dX12_byQueues_167 : decode cX12_byQueues 167 = .ok (.iconst 1, 1) := by decide +kernel
theorem dX12_byQueues_168 : decode cX12_byQueues 168 = .ok (.iadd, 1) := by decide +kernel
theorem dX12_byQueues_169 : decode cX12_byQueues 169 = .ok (.istore_n 2, 1) := by decide +kernel
theorem dX12_byQueues_170 : decode cX12_byQueues 170 = .ok (.aload_n 0, 1) := by decide +kernel
theorem dX12_byQueues_171 : decode cX12_byQueues 171 = .ok (.getfield 42, 3) := by decide +kernel
theorem dX12_byQueues_174 : decode cX12_byQueues 174 = .ok (.iload 6, 2) := by decide +kernel
theorem dX12_byQueues_176 : decode cX12_byQueues 176 = .ok (.iload_n 3, 1) := by decide +kernel
theorem dX12_byQueues_177 : decode cX12_byQueues 177 = .ok (.iastore, 1) := by decide +kernel
theorem dX12_byQueues_178 : decode cX12_byQueues 178 = .ok (.aload_n 0, 1) := by decide +kernel
theorem dX12_byQueues_179 : decode cX12_byQueues 179 = .ok (.getfield 39, 3) := by decide +kernel
theorem dX12_byQueues_182 : decode cX12_byQueues 182 = .ok (.iload_n 3, 1) := by decide +kernel
theorem dX12_byQueues_183 : decode cX12_byQueues 183 = .ok (.dup2, 1) := by decide +kernel
theorem dX12_byQueues_184 : decode cX12_byQueues 184 = .ok (.iaload, 1) := by decide +kernel
theorem dX12_byQueues_185 : decode cX12_byQueues 185 = .ok (.aload_n 0, 1) := by decide +kernel
theorem dX12_byQueues_186 : decode cX12_byQueues 186 = .ok (.getfield 39, 3) := by decide +kernel
theorem dX12_byQueues_189 : decode cX12_byQueues 189 = .ok (.iload 6, 2) := by decide +kernel
theorem dX12_byQueues_191 : decode cX12_byQueues 191 = .ok (.iaload, 1) := by decide +kernel
theorem dX12_byQueues_192 : decode cX12_byQueues 192 = .ok (.iadd, 1) := by decide +kernel
theorem dX12_byQueues_193 : decode cX12_byQueues 193 = .ok (.iastore, 1) := by decide +kernel
theorem dX12_byQueues_194 : decode cX12_byQueues 194 = .ok (.iinc 4 1, 3) := by decide +kernel
theorem dX12_byQueues_197 : decode cX12_byQueues 197 = .ok (.goto (-116), 3) := by decide +kernel
theorem dX12_byQueues_200 : decode cX12_byQueues 200 = .ok (.iinc 3 1, 3) := by decide +kernel
theorem dX12_byQueues_203 : decode cX12_byQueues 203 = .ok (.goto (-151), 3) := by decide +kernel
theorem dX12_byQueues_206 : decode cX12_byQueues 206 = .ok (.aload_n 0, 1) := by decide +kernel
theorem dX12_byQueues_207 : decode cX12_byQueues 207 = .ok (.invokevirtual 123, 3) := by decide +kernel
theorem dX12_byQueues_210 : decode cX12_byQueues 210 = .ok (.return_, 1) := by decide +kernel
set_option maxRecDepth 20000 in
theorem ggX12_byPackages_X12_sort : GoodIn wsX12_byPackages wsX12_sort := goodIn_r _ [13, 3, 5, 6, 14, 15, 16, 17, 18, 19, 20, 21, 22, 23, 24, 25, 26, 27, 28, 29, 30, 31, 32, 33, 34, 35, 36, 37, 38, 39, 40, 41, 42, 43, 44, 45, 46, 47, 48, 49, 50, 51, 52] (by decide +kernel) (by decide +kernel)
set_option maxRecDepth 20000 in
theorem gX12_byPackages_X12_sort : GoodIn wsX12_byPackages (wsV RX12 126 RX12 yX12_sort wsX12_sort) := goodIn_app (goodIn_of _ (by decide +kernel)) ggX12_byPackages_X12_sort
theorem dX12_byPackages_0 : decode cX12_byPackages 0 = .ok (.aload_n 0, 1) := by decide +kernel
theorem dX12_byPackages_1 : decode cX12_byPackages 1 = .ok (.iconst 1, 1) := by decide +kernel
theorem dX12_byPackages_2 : decode cX12_byPackages 2 = .ok (.invokevirtual 126, 3) := by decide +kernel
theorem dX12_byPackages_5 : decode cX12_byPackages 5 = .ok (.iconst 0, 1) := by decide +kernel
theorem dX12_byPackages_6 : decode cX12_byPackages 6 = .ok (.istore_n 1, 1) := by decide +kernel
theorem dX12_byPackages_7 : decode cX12_byPackages 7 = .ok (.iload_n 1, 1) := by decide +kernel
theorem dX12_byPackages_8 : decode cX12_byPackages 8 = .ok (.aload_n 0, 1) := by decide +kernel
theorem dX12_byPackages_9 : decode cX12_byPackages 9 = .ok (.getfield 96, 3) := by decide +kernel
theorem dX12_byPackages_12 : decode cX12_byPackages 12 = .ok (.if_icmp .ge 230, 3) := by decide +kernel
theorem dX12_byPackages_15 : decode cX12_byPackages 15 = .ok (.sipush 192, 3) := by decide +kernel
theorem dX12_byPackages_18 : decode cX12_byPackages 18 = .ok (.iload_n 1, 1) := by decide +kernel
theorem dX12_byPackages_19 : decode cX12_byPackages 19 = .ok (.imul, 1) := by decide +kernel
theorem dX12_byPackages_20 : decode cX12_byPackages 20 = .ok (.istore_n 2, 1) := by decide +kernel
theorem dX12_byPackages_21 : decode cX12_byPackages 21 = .ok (.iload_n 2, 1) := by decide +kernel
theorem dX12_byPackages_22 : decode cX12_byPackages 22 = .ok (.sipush 192, 3) := by decide +kernel
theorem dX12_byPackages_25 : decode cX12_byPackages 25 = .ok (.isub, 1) := by decide +kernel
theorem dX12_byPackages_26 : decode cX12_byPackages 26 = .ok (.istore_n 3, 1) := by decide +kernel
theorem dX12_byPackages_27 : decode cX12_byPackages 27 = .ok (.iconst 0, 1) := by decide +kernel
theorem dX12_byPackages_28 : decode cX12_byPackages 28 = .ok (.istore 4, 2) := by decide +kernel
theorem dX12_byPackages_30 : decode cX12_byPackages 30 = .ok (.iconst 0, 1) := by decide +kernel
theorem dX12_byPackages_31 : decode cX12_byPackages 31 = .ok (.istore 5, 2) := by decide +kernel
theorem dX12_byPackages_33 : decode cX12_byPackages 33 = .ok (.iload_n 1, 1) := by decide +kernel
theorem dX12_byPackages_34 : decode cX12_byPackages 34 = .ok (.ifCond .ne 7, 3) := by decide +kernel
theorem dX12_byPackages_37 : decode cX12_byPackages 37 = .ok (.iconst 0, 1) := by decide +kernel
theorem dX12_byPackages_38 : decode cX12_byPackages 38 = .ok (.goto 13, 3) := by decide +kernel
theorem dX12_byPackages_41 : decode cX12_byPackages 41 = .ok (.aload_n 0, 1) := by decide +kernel
theorem dX12_byPackages_42 : decode cX12_byPackages 42 = .ok (.getfield 54, 3) := by decide +kernel
theorem dX12_byPackages_45 : decode cX12_byPackages 45 = .ok (.iload_n 1, 1) := by decide +kernel
theorem dX12_byPackages_46 : decode cX12_byPackages 46 = .ok (.iconst 1, 1) := by decide +kernel
theorem dX12_byPackages_47 : decode cX12_byPackages 47 = .ok (.isub, 1) := by decide +kernel
theorem dX12_byPackages_48 : decode cX12_byPackages 48 = .ok (.iaload, 1) := by decide +kernel
theorem dX12_byPackages_49 : decode cX12_byPackages 49 = .ok (.iconst 2, 1) := by decide +kernel
theorem dX12_byPackages_50 : decode cX12_byPackages 50 = .ok (.idiv, 1) := by decide +kernel
theorem dX12_byPackages_51 : decode cX12_byPackages 51 = .ok (.istore 6, 2) := by decide +kernel
theorem dX12_byPackages_53 : decode cX12_byPackages 53 = .ok (.iconst 0, 1) := by decide +kernel
theorem dX12_byPackages_54 : decode cX12_byPackages 54 = .ok (.istore 7, 2) := by decide +kernel
theorem dX12_byPackages_56 : decode cX12_byPackages 56 = .ok (.iload 4, 2) := by decide +kernel
theorem dX12_byPackages_58 : decode cX12_byPackages 58 = .ok (.aload_n 0, 1) := by decide +kernel
theorem dX12_byPackages_59 : decode cX12_byPackages 59 = .ok (.getfield 116, 3) := by decide +kernel
theorem dX12_byPackages_62 : decode cX12_byPackages 62 = .ok (.if_icmp .lt 10, 3) := by decide +kernel
theorem dX12_byPackages_65 : decode cX12_byPackages 65 = .ok (.iload 5, 2) := by decide +kernel
theorem dX12_byPackages_67 : decode cX12_byPackages 67 = .ok (.iload 6, 2) := by decide +kernel
theorem dX12_byPackages_69 : decode cX12_byPackages 69 = .ok (.if_icmp .ge 159, 3) := by decide +kernel
theorem dX12_byPackages_72 : decode cX12_byPackages 72 = .ok (.iload 5, 2) := by decide +kernel
theorem dX12_byPackages_74 : decode cX12_byPackages 74 = .ok (.iload 6, 2) := by decide +kernel
theorem dX12_byPackages_76 : decode cX12_byPackages 76 = .ok (.if_icmp .ge 31, 3) := by decide +kernel
theorem dX12_byPackages_79 : decode cX12_byPackages 79 = .ok (.aload_n 0, 1) := by decide +kernel
theorem dX12_byPackages_80 : decode cX12_byPackages 80 = .ok (.getfield 48, 3) := by decide +kernel
theorem dX12_byPackages_83 : decode cX12_byPackages 83 = .ok (.iload_n 3, 1) := by decide +kernel
theorem dX12_byPackages_84 : decode cX12_byPackages 84 = .ok (.iconst 2, 1) := by decide +kernel
theorem dX12_byPackages_85 : decode cX12_byPackages 85 = .ok (.iload 5, 2) := by decide +kernel
theorem dX12_byPackages_87 : decode cX12_byPackages 87 = .ok (.imul, 1) := by decide +kernel
theorem dX12_byPackages_88 : decode cX12_byPackages 88 = .ok (.iadd, 1) := by decide +kernel
theorem dX12_byPackages_89 : decode cX12_byPackages 89 = .ok (.iaload, 1) := by decide +kernel
theorem dX12_byPackages_90 : decode cX12_byPackages 90 = .ok (.aload_n 0, 1) := by decide +kernel
theorem dX12_byPackages_91 : decode cX12_byPackages 91 = .ok (.getfield 48, 3) := by decide +kernel
theorem dX12_byPackages_94 : decode cX12_byPackages 94 = .ok (.iload_n 3, 1) := by decide +kernel
theorem dX12_byPackages_95 : decode cX12_byPackages 95 = .ok (.iconst 2, 1) := by decide +kernel
theorem dX12_byPackages_96 : decode cX12_byPackages 96 = .ok (.iload 5, 2) := by decide +kernel
theorem dX12_byPackages_98 : decode cX12_byPackages 98 = .ok (.imul, 1) := by decide +kernel
theorem dX12_byPackages_99 : decode cX12_byPackages 99 = .ok (.iadd, 1) := by decide +kernel
theorem dX12_byPackages_100 : decode cX12_byPackages 100 = .ok (.iconst 1, 1) := by decide +kernel
theorem dX12_byPackages_101 : decode cX12_byPackages 101 = .ok (.iadd, 1) := by decide +kernel
theorem dX12_byPackages_102 : decode cX12_byPackages 102 = .ok (.iaload, 1) := by decide +kernel
theorem dX12_byPackages_103 : decode cX12_byPackages 103 = .ok (.iadd, 1) := by decide +kernel
theorem dX12_byPackages_104 : decode cX12_byPackages 104 = .ok (.goto 4, 3) := by decide +kernel
theorem dX12_byPackages_107 : decode cX12_byPackages 107 = .ok (.iconst 0, 1) := by decide +kernel
theorem dX12_byPackages_108 : decode cX12_byPackages 108 = .ok (.istore 8, 2) := by decide +kernel
theorem dX12_byPackages_110 : decode cX12_byPackages 110 = .ok (.iload 4, 2) := by decide +kernel
theorem dX12_byPackages_112 : decode cX12_byPackages 112 = .ok (.aload_n 0, 1) := by decide +kernel
theorem dX12_byPackages_113 : decode cX12_byPackages 113 = .ok (.getfield 116, 3) := by decide +kernel
theorem dX12_byPackages_116 : decode cX12_byPackages 116 = .ok (.if_icmp .ge 31, 3) := by decide +kernel
theorem dX12_byPackages_119 : decode cX12_byPackages 119 = .ok (.iload 5, 2) := by decide +kernel
theorem dX12_byPackages_121 : decode cX12_byPackages 121 = .ok (.iload 6, 2) := by decide +kernel
theorem dX12_byPackages_123 : decode cX12_byPackages 123 = .ok (.if_icmp .eq 20, 3) := by decide +kernel
theorem dX12_byPackages_126 : decode cX12_byPackages 126 = .ok (.aload_n 0, 1) := by decide +kernel
theorem dX12_byPackages_127 : decode cX12_byPackages 127 = .ok (.getfield 33, 3) := by decide +kernel
theorem dX12_byPackages_130 : decode cX12_byPackages 130 = .ok (.aload_n 0, 1) := by decide +kernel
theorem dX12_byPackages_131 : decode cX12_byPackages 131 = .ok (.getfield 45, 3) := by decide +kernel
theorem dX12_byPackages_134 : decode cX12_byPackages 134 = .ok (.iload 4, 2) := by decide +kernel
theorem dX12_byPackages_136 : decode cX12_byPackages 136 = .ok (.iaload, 1) := by decide +kernel
theorem dX12_byPackages_137 : decode cX12_byPackages 137 = .ok (.iaload, 1) := by decide +kernel
theorem dX12_byPackages_138 : decode cX12_byPackages 138 = .ok (.iload 8, 2) := by decide +kernel
theorem dX12_byPackages_140 : decode cX12_byPackages 140 = .ok (.if_icmp .gt 7, 3) := by decide +kernel
theorem dX12_byPackages_143 : decode cX12_byPackages 143 = .ok (.iconst 1, 1) := by decide +kernel
theorem dX12_byPackages_144 : decode cX12_byPackages 144 = .ok (.goto 4, 3) := by decide +kernel
theorem dX12_byPackages_147 : decode cX12_byPackages 147 = .ok (.iconst 0, 1) := by decide +kernel
theorem dX12_byPackages_148 : decode cX12_byPackages 148 = .ok (.istore 9, 2) := by decide +kernel
theorem dX12_byPackages_150 : decode cX12_byPackages 150 = .ok (.aload_n 0, 1) := by decide +kernel
theorem dX12_byPackages_151 : decode cX12_byPackages 151 = .ok (.getfield 48, 3) := by decide +kernel
theorem dX12_byPackages_154 : decode cX12_byPackages 154 = .ok (.iload_n 2, 1) := by decide +kernel
theorem dX12_byPackages_155 : decode cX12_byPackages 155 = .ok (.iload 7, 2) := by decide +kernel
theorem dX12_byPackages_157 : decode cX12_byPackages 157 = .ok (.iadd, 1) := by decide +kernel
theorem dX12_byPackages_158 : decode cX12_byPackages 158 = .ok (.iload 9, 2) := by decide +kernel
theorem dX12_byPackages_160 : decode cX12_byPackages 160 = .ok (.ifCond .eq 18, 3) := by decide +kernel
theorem dX12_byPackages_163 : decode cX12_byPackages 163 = .ok (.aload_n 0, 1) := by decide +kernel
theorem dX12_byPackages_164 : decode cX12_byPackages 164 = .ok (.getfield 33, 3) := by decide +kernel
theorem dX12_byPackages_167 : decode cX12_byPackages 167 = .ok (.aload_n 0, 1) := by decide +kernel
theorem dX12_byPackages_168 : decode cX12_byPackages 168 = .ok (.getfield 45, 3) := by decide +kernel
theorem dX12_byPackages_171 : decode cX12_byPackages 171 = .ok (.iload 4, 2) := by decide +kernel
theorem dX12_byPackages_173 : decode cX12_byPackages 173 = .ok (.iaload, 1) := by decide +kernel
theorem dX12_byPackages_174 : decode cX12_byPackages 174 = .ok (.iaload, 1) := by decide +kernel
theorem dX12_byPackages_175 : decode cX12_byPackages 175 = .ok (.goto 5, 3) := by decide +kernel
theorem dX12_byPackages_178 : decode cX12_byPackages 178 = .ok (.iload 8, 2) := by decide +kernel
theorem dX12_byPackages_180 : decode cX12_byPackages 180 = .ok (.iastore, 1) := by decide +kernel
theorem dX12_byPackages_181 : decode cX12_byPackages 181 = .ok (.aload_n 0, 1) := by decide +kernel
theorem dX12_byPackages_182 : decode cX12_byPackages 182 = .ok (.getfield 51, 3) := by decide +kernel
theorem dX12_byPackages_185 : decode cX12_byPackages 185 = .ok (.iload_n 2, 1) := by decide +kernel
theorem dX12_byPackages_186 : decode cX12_byPackages 186 = .ok (.iload 7, 2) := by decide +kernel
theorem dX12_byPackages_188 : decode cX12_byPackages 188 = .ok (.iadd, 1) := by decide +kernel
theorem dX12_byPackages_189 : decode cX12_byPackages 189 = .ok (.iload 9, 2) := by decide +kernel
theorem dX12_byPackages_191 : decode cX12_byPackages 191 = .ok (.bastore, 1) := by decide +kernel
theorem dX12_byPackages_192 : decode cX12_byPackages 192 = .ok (.iload 4, 2) := by decide +kernel
theorem dX12_byPackages_194 : decode cX12_byPackages 194 = .ok (.iload 9, 2) := by decide +kernel
theorem dX12_byPackages_196 : decode cX12_byPackages 196 = .ok (.ifCond .eq 7, 3) := by decide +kernel
theorem dX12_byPackages_199 : decode cX12_byPackages 199 = .ok (.iconst 1, 1) := by decide +kernel
theorem dX12_byPackages_200 : decode cX12_byPackages 200 = .ok (.goto 4, 3) := by decide +kernel
theorem dX12_byPackages_203 : decode cX12_byPackages 203 = .ok (.iconst 0, 1) := by decide +kernel
theorem dX12_byPackages_204 : decode cX12_byPackages 204 = .ok (.iadd, 1) := by decide +kernel
theorem dX12_byPackages_205 : decode cX12_byPackages 205 = .ok (.istore 4, 2) := by decide +kernel
theorem dX12_byPackages_207 : decode cX12_byPackages 207 = .ok (.iload 5, 2) := by decide +kernel
theorem dX12_byPackages_209 : decode cX12_byPackages 209 = .ok (.iload 9, 2) := by decide +kernel
theorem dX12_byPackages_211 : decode cX12_byPackages 211 = .ok (.ifCond .eq 7, 3) := by decide +kernel
theorem dX12_byPackages_214 : decode cX12_byPackages 214 = .ok (.iconst 0, 1) := by decide +kernel
theorem dX12_byPackages_215 : decode cX12_byPackages 215 = .ok (.goto 4, 3) := by decide +kernel
theorem dX12_byPackages_218 : decode cX12_byPackages 218 = .ok (.iconst 1, 1) := by decide +kernel
theorem dX12_byPackages_219 : decode cX12_byPackages 219 = .ok (.iadd, 1) := by decide +kernel
theorem dX12_byPackages_220 : decode cX12_byPackages 220 = .ok (.istore 5, 2) := by decide +kernel
theorem dX12_byPackages_222 : decode cX12_byPackages 222 = .ok (.iinc 7 1, 3) := by decide +kernel
theorem dX12_byPackages_225 : decode cX12_byPackages 225 = .ok (.goto (-169), 3) := by decide +kernel
theorem dX12_byPackages_228 : decode cX12_byPackages 228 = .ok (.aload_n 0, 1) := by decide +kernel
theorem dX12_byPackages_229 : decode cX12_byPackages 229 = .ok (.getfield 54, 3) := by decide +kernel
theorem dX12_byPackages_232 : decode cX12_byPackages 232 = .ok (.iload_n 1, 1) := by decide +kernel
theorem dX12_byPackages_233 : decode cX12_byPackages 233 = .ok (.iload 7, 2) := by decide +kernel
theorem dX12_byPackages_235 : decode cX12_byPackages 235 = .ok (.iastore, 1) := by decide +kernel
theorem dX12_byPackages_236 : decode cX12_byPackages 236 = .ok (.iinc 1 1, 3) := by decide +kernel
theorem dX12_byPackages_239 : decode cX12_byPackages 239 = .ok (.goto (-232), 3) := by decide +kernel
theorem dX12_byPackages_242 : decode cX12_byPackages 242 = .ok (.iconst 0, 1) := by decide +kernel
theorem dX12_byPackages_243 : decode cX12_byPackages 243 = .ok (.istore_n 1, 1) := by decide +kernel
theorem dX12_byPackages_244 : decode cX12_byPackages 244 = .ok (.iload_n 1, 1) := by decide +kernel
theorem dX12_byPackages_245 : decode cX12_byPackages 245 = .ok (.aload_n 0, 1) := by decide +kernel
theorem dX12_byPackages_246 : decode cX12_byPackages 246 = .ok (.getfield 116, 3) := by decide +kernel
theorem dX12_byPackages_249 : decode cX12_byPackages 249 = .ok (.if_icmp .ge 16, 3) := by decide +kernel
theorem dX12_byPackages_252 : decode cX12_byPackages 252 = .ok (.aload_n 0, 1) := by decide +kernel
theorem dX12_byPackages_253 : decode cX12_byPackages 253 = .ok (.getfield 36, 3) := by decide +kernel
theorem dX12_byPackages_256 : decode cX12_byPackages 256 = .ok (.iload_n 1, 1) := by decide +kernel
theorem dX12_byPackages_257 : decode cX12_byPackages 257 = .ok (.iconst 0, 1) := by decide +kernel
theorem dX12_byPackages_258 : decode cX12_byPackages 258 = .ok (.iastore, 1) := by decide +kernel
theorem dX12_byPackages_259 : decode cX12_byPackages 259 = .ok (.iinc 1 1, 3) := by decide +kernel
theorem dX12_byPackages_262 : decode cX12_byPackages 262 = .ok (.goto (-18), 3) := by decide +kernel
theorem dX12_byPackages_265 : decode cX12_byPackages 265 = .ok (.iconst 2, 1) := by decide +kernel
theorem dX12_byPackages_266 : decode cX12_byPackages 266 = .ok (.aload_n 0, 1) := by decide +kernel
theorem dX12_byPackages_267 : decode cX12_byPackages 267 = .ok (.getfield 116, 3) := by decide +kernel
theorem dX12_byPackages_270 : decode cX12_byPackages 270 = .ok (.imul, 1) := by decide +kernel
theorem dX12_byPackages_271 : decode cX12_byPackages 271 = .ok (.iconst 2, 1) := by decide +kernel
theorem dX12_byPackages_272 : decode cX12_byPackages 272 = .ok (.isub, 1) := by decide +kernel
theorem dX12_byPackages_273 : decode cX12_byPackages 273 = .ok (.istore_n 1, 1) := by decide +kernel
theorem dX12_byPackages_274 : decode cX12_byPackages 274 = .ok (.aload_n 0, 1) := by decide +kernel
theorem dX12_byPackages_275 : decode cX12_byPackages 275 = .ok (.getfield 96, 3) := by decide +kernel
theorem dX12_byPackages_278 : decode cX12_byPackages 278 = .ok (.iconst 1, 1) := by decide +kernel
theorem dX12_byPackages_279 : decode cX12_byPackages 279 = .ok (.isub, 1) := by decide +kernel
theorem dX12_byPackages_280 : decode cX12_byPackages 280 = .ok (.istore_n 2, 1) := by decide +kernel
theorem dX12_byPackages_281 : decode cX12_byPackages 281 = .ok (.iload_n 2, 1) := by decide +kernel
theorem dX12_byPackages_282 : decode cX12_byPackages 282 = .ok (.ifCond .lt 66, 3) := by decide +kernel
theorem dX12_byPackages_285 : decode cX12_byPackages 285 = .ok (.iconst 0, 1) := by decide +kernel
theorem dX12_byPackages_286 : decode cX12_byPackages 286 = .ok (.istore_n 3, 1) := by decide +kernel
theorem dX12_byPackages_287 : decode cX12_byPackages 287 = .ok (.iconst 0, 1) := by decide +kernel
theorem dX12_byPackages_288 : decode cX12_byPackages 288 = .ok (.istore 4, 2) := by decide +kernel
theorem dX12_byPackages_290 : decode cX12_byPackages 290 = .ok (.iload 4, 2) := by decide +kernel
theorem dX12_byPackages_292 : decode cX12_byPackages 292 = .ok (.iload_n 1, 1) := by decide +kernel
theorem dX12_byPackages_293 : decode cX12_byPackages 293 = .ok (.if_icmp .ge 43, 3) := by decide +kernel
theorem dX12_byPackages_296 : decode cX12_byPackages 296 = .ok (.aload_n 0, 1) := by decide +kernel
theorem dX12_byPackages_297 : decode cX12_byPackages 297 = .ok (.getfield 51, 3) := by decide +kernel
theorem dX12_byPackages_300 : decode cX12_byPackages 300 = .ok (.sipush 192, 3) := by decide +kernel
theorem dX12_byPackages_303 : decode cX12_byPackages 303 = .ok (.iload_n 2, 1) := by decide +kernel
theorem dX12_byPackages_304 : decode cX12_byPackages 304 = .ok (.imul, 1) := by decide +kernel
theorem dX12_byPackages_305 : decode cX12_byPackages 305 = .ok (.iload 4, 2) := by decide +kernel
theorem dX12_byPackages_307 : decode cX12_byPackages 307 = .ok (.iadd, 1) := by decide +kernel
theorem dX12_byPackages_308 : decode cX12_byPackages 308 = .ok (.baload, 1) := by decide +kernel
theorem dX12_byPackages_309 : decode cX12_byPackages 309 = .ok (.ifCond .eq 21, 3) := by decide +kernel
theorem dX12_byPackages_312 : decode cX12_byPackages 312 = .ok (.aload_n 0, 1) := by decide +kernel
theorem dX12_byPackages_313 : decode cX12_byPackages 313 = .ok (.getfield 36, 3) := by decide +kernel
theorem dX12_byPackages_316 : decode cX12_byPackages 316 = .ok (.aload_n 0, 1) := by decide +kernel
theorem dX12_byPackages_317 : decode cX12_byPackages 317 = .ok (.getfield 45, 3) := by decide +kernel
theorem dX12_byPackages_320 : decode cX12_byPackages 320 = .ok (.iload_n 3, 1) := by decide +kernel
theorem dX12_byPackages_321 : decode cX12_byPackages 321 = .ok (.iaload, 1) := by decide +kernel
theorem dX12_byPackages_322 : decode cX12_byPackages 322 = .ok (.dup2, 1) := by decide +kernel
theorem dX12_byPackages_323 : decode cX12_byPackages 323 = .ok (.iaload, 1) := by decide +kernel
theorem dX12_byPackages_324 : decode cX12_byPackages 324 = .ok (.iconst 1, 1) := by decide +kernel
theorem dX12_byPackages_325 : decode cX12_byPackages 325 = .ok (.iadd, 1) := by decide +kernel
theorem dX12_byPackages_326 : decode cX12_byPackages 326 = .ok (.iastore, 1) := by decide +kernel
theorem dX12_byPackages_327 : decode cX12_byPackages 327 = .ok (.iinc 3 1, 3) := by decide +kernel
theorem dX12_byPackages_330 : decode cX12_byPackages 330 = .ok (.iinc 4 1, 3) := by decide +kernel
theorem dX12_byPackages_333 : decode cX12_byPackages 333 = .ok (.goto (-43), 3) := by decide +kernel
theorem dX12_byPackages_336 : decode cX12_byPackages 336 = .ok (.iconst 2, 1) := by decide +kernel
theorem dX12_byPackages_337 : decode cX12_byPackages 337 = .ok (.iload_n 1, 1) := by decide +kernel
theorem dX12_byPackages_338 : decode cX12_byPackages 338 = .ok (.iload_n 3, 1) := by decide +kernel
theorem dX12_byPackages_339 : decode cX12_byPackages 339 = .ok (.isub, 1) := by decide +kernel
theorem dX12_byPackages_340 : decode cX12_byPackages 340 = .ok (.imul, 1) := by decide +kernel
theorem dX12_byPackages_341 : decode cX12_byPackages 341 = .ok (.istore_n 1, 1) := by decide +kernel
theorem dX12_byPackages_342 : decode cX12_byPackages 342 = .ok (.iinc 2 (-1), 3) := by decide +kernel
theorem dX12_byPackages_345 : decode cX12_byPackages 345 = .ok (.goto (-64), 3) := by decide +kernel
theorem dX12_byPackages_348 : decode cX12_byPackages 348 = .ok (.return_, 1) := by decide +kernel
theorem dX12_inOrders_0 : decode cX12_inOrders 0 = .ok (.iconst 1, 1) := by decide +kernel
theorem dX12_inOrders_1 : decode cX12_inOrders 1 = .ok (.istore_n 1, 1) := by decide +kernel
theorem dX12_inOrders_2 : decode cX12_inOrders 2 = .ok (.iload_n 1, 1) := by decide +kernel
theorem dX12_inOrders_3 : decode cX12_inOrders 3 = .ok (.aload_n 0, 1) := by decide +kernel
theorem dX12_inOrders_4 : decode cX12_inOrders 4 = .ok (.getfield 116, 3) := by decide +kernel
theorem dX12_inOrders_7 : decode cX12_inOrders 7 = .ok (.if_icmp .gt 157, 3) := by decide +kernel
theorem dX12_inOrders_10 : decode cX12_inOrders 10 = .ok (.iconst 0, 1) := by decide +kernel
theorem dX12_inOrders_11 : decode cX12_inOrders 11 = .ok (.istore_n 2, 1) := by decide +kernel
theorem dX12_inOrders_12 : decode cX12_inOrders 12 = .ok (.iload_n 2, 1) := by decide +kernel
theorem dX12_inOrders_13 : decode cX12_inOrders 13 = .ok (.iload_n 1, 1) := by decide +kernel
theorem dX12_inOrders_14 : decode cX12_inOrders 14 = .ok (.iadd, 1) := by decide +kernel
theorem dX12_inOrders_15 : decode cX12_inOrders 15 = .ok (.aload_n 0, 1) := by decide +kernel
theorem dX12_inOrders_16 : decode cX12_inOrders 16 = .ok (.getfield 116, 3) := by decide +kernel
theorem dX12_inOrders_19 : decode cX12_inOrders 19 = .ok (.if_icmp .gt 139, 3) := by decide +kernel
theorem dX12_inOrders_22 : decode cX12_inOrders 22 = .ok (.iconst 0, 1) := by decide +kernel
theorem dX12_inOrders_23 : decode cX12_inOrders 23 = .ok (.istore_n 3, 1) := by decide +kernel
theorem dX12_inOrders_24 : decode cX12_inOrders 24 = .ok (.iload_n 2, 1) := by decide +kernel
theorem dX12_inOrders_25 : decode cX12_inOrders 25 = .ok (.istore 4, 2) := by decide +kernel
theorem dX12_inOrders_27 : decode cX12_inOrders 27 = .ok (.iload 4, 2) := by decide +kernel
theorem dX12_inOrders_29 : decode cX12_inOrders 29 = .ok (.iload_n 2, 1) := by decide +kernel
theorem dX12_inOrders_30 : decode cX12_inOrders 30 = .ok (.iload_n 1, 1) := by decide +kernel
theorem dX12_inOrders_31 : decode cX12_inOrders 31 = .ok (.iadd, 1) := by decide +kernel
theorem dX12_inOrders_32 : decode cX12_inOrders 32 = .ok (.if_icmp .ge 19, 3) := by decide +kernel
theorem dX12_inOrders_35 : decode cX12_inOrders 35 = .ok (.iload_n 3, 1) := by decide +kernel
theorem dX12_inOrders_36 : decode cX12_inOrders 36 = .ok (.aload_n 0, 1) := by decide +kernel
theorem dX12_inOrders_37 : decode cX12_inOrders 37 = .ok (.getfield 33, 3) := by decide +kernel
theorem dX12_inOrders_40 : decode cX12_inOrders 40 = .ok (.iload 4, 2) := by decide +kernel
theorem dX12_inOrders_42 : decode cX12_inOrders 42 = .ok (.iaload, 1) := by decide +kernel
theorem dX12_inOrders_43 : decode cX12_inOrders 43 = .ok (.iadd, 1) := by decide +kernel
theorem dX12_inOrders_44 : decode cX12_inOrders 44 = .ok (.istore_n 3, 1) := by decide +kernel
theorem dX12_inOrders_45 : decode cX12_inOrders 45 = .ok (.iinc 4 1, 3) := by decide +kernel
theorem dX12_inOrders_48 : decode cX12_inOrders 48 = .ok (.goto (-21), 3) := by decide +kernel
theorem dX12_inOrders_51 : decode cX12_inOrders 51 = .ok (.iconst 0, 1) := by decide +kernel
theorem dX12_inOrders_52 : decode cX12_inOrders 52 = .ok (.istore 4, 2) := by decide +kernel
theorem dX12_inOrders_54 : decode cX12_inOrders 54 = .ok (.iconst 0, 1) := by decide +kernel
theorem dX12_inOrders_55 : decode cX12_inOrders 55 = .ok (.istore 5, 2) := by decide +kernel
theorem dX12_inOrders_57 : decode cX12_inOrders 57 = .ok (.iconst 1, 1) := by decide +kernel
theorem dX12_inOrders_58 : decode cX12_inOrders 58 = .ok (.istore 6, 2) := by decide +kernel
theorem dX12_inOrders_60 : decode cX12_inOrders 60 = .ok (.iload 6, 2) := by decide +kernel
theorem dX12_inOrders_62 : decode cX12_inOrders 62 = .ok (.iload_n 1, 1) := by decide +kernel
theorem dX12_inOrders_63 : decode cX12_inOrders 63 = .ok (.if_icmp .ge 63, 3) := by decide +kernel
theorem dX12_inOrders_66 : decode cX12_inOrders 66 = .ok (.aload_n 0, 1) := by decide +kernel
theorem dX12_inOrders_67 : decode cX12_inOrders 67 = .ok (.getfield 57, 3) := by decide +kernel
theorem dX12_inOrders_70 : decode cX12_inOrders 70 = .ok (.bipush 97, 2) := by decide +kernel
theorem dX12_inOrders_72 : decode cX12_inOrders 72 = .ok (.iload_n 2, 1) := by decide +kernel
theorem dX12_inOrders_73 : decode cX12_inOrders 73 = .ok (.imul, 1) := by decide +kernel
theorem dX12_inOrders_74 : decode cX12_inOrders 74 = .ok (.iload 6, 2) := by decide +kernel
theorem dX12_inOrders_76 : decode cX12_inOrders 76 = .ok (.iadd, 1) := by decide +kernel
theorem dX12_inOrders_77 : decode cX12_inOrders 77 = .ok (.iaload, 1) := by decide +kernel
theorem dX12_inOrders_78 : decode cX12_inOrders 78 = .ok (.aload_n 0, 1) := by decide +kernel
theorem dX12_inOrders_79 : decode cX12_inOrders 79 = .ok (.getfield 57, 3) := by decide +kernel
theorem dX12_inOrders_82 : decode cX12_inOrders 82 = .ok (.bipush 97, 2) := by decide +kernel
theorem dX12_inOrders_84 : decode cX12_inOrders 84 = .ok (.iload_n 2, 1) := by decide +kernel
theorem dX12_inOrders_85 : decode cX12_inOrders 85 = .ok (.iload 6, 2) := by decide +kernel
theorem dX12_inOrders_87 : decode cX12_inOrders 87 = .ok (.iadd, 1) := by decide +kernel
theorem dX12_inOrders_88 : decode cX12_inOrders 88 = .ok (.imul, 1) := by decide +kernel
theorem dX12_inOrders_89 : decode cX12_inOrders 89 = .ok (.iload_n 1, 1) := by decide +kernel
theorem dX12_inOrders_90 : decode cX12_inOrders 90 = .ok (.iadd, 1) := by decide +kernel
theorem dX12_inOrders_91 : decode cX12_inOrders 91 = .ok (.iload 6, 2) := by decide +kernel
theorem dX12_inOrders_93 : decode cX12_inOrders 93 = .ok (.isub, 1) := by decide +kernel
theorem dX12_inOrders_94 : decode cX12_inOrders 94 = .ok (.iaload, 1) := by decide +kernel
theorem dX12_inOrders_95 : decode cX12_inOrders 95 = .ok (.iadd, 1) := by decide +kernel
theorem dX12_inOrders_96 : decode cX12_inOrders 96 = .ok (.iload_n 3, 1) := by decide +kernel
theorem dX12_inOrders_97 : decode cX12_inOrders 97 = .ok (.iadd, 1) := by decide +kernel
theorem dX12_inOrders_98 : decode cX12_inOrders 98 = .ok (.istore 7, 2) := by decide +kernel
theorem dX12_inOrders_100 : decode cX12_inOrders 100 = .ok (.iload 5, 2) := by decide +kernel
theorem dX12_inOrders_102 : decode cX12_inOrders 102 = .ok (.ifCond .eq 10, 3) := by decide +kernel
theorem dX12_inOrders_105 : decode cX12_inOrders 105 = .ok (.iload 7, 2) := by decide +kernel
theorem dX12_inOrders_107 : decode cX12_inOrders 107 = .ok (.iload 4, 2) := by decide +kernel
theorem dX12_inOrders_109 : decode cX12_inOrders 109 = .ok (.if_icmp .ge 11, 3) := by decide +kernel
theorem dX12_inOrders_112 : decode cX12_inOrders 112 = .ok (.iload 7, 2) := by decide +kernel
theorem dX12_inOrders_114 : decode cX12_inOrders 114 = .ok (.istore 4, 2) := by decide +kernel
theorem dX12_inOrders_116 : decode cX12_inOrders 116 = .ok (.iload 6, 2) := by decide +kernel
theorem dX12_inOrders_118 : decode cX12_inOrders 118 = .ok (.istore 5, 2) := by decide +kernel
theorem dX12_inOrders_120 : decode cX12_inOrders 120 = .ok (.iinc 6 1, 3) := by decide +kernel
theorem dX12_inOrders_123 : decode cX12_inOrders 123 = .ok (.goto (-63), 3) := by decide +kernel
theorem dX12_inOrders_126 : decode cX12_inOrders 126 = .ok (.aload_n 0, 1) := by decide +kernel
theorem dX12_inOrders_127 : decode cX12_inOrders 127 = .ok (.getfield 57, 3) := by decide +kernel
theorem dX12_inOrders_130 : decode cX12_inOrders 130 = .ok (.bipush 97, 2) := by decide +kernel
theorem dX12_inOrders_132 : decode cX12_inOrders 132 = .ok (.iload_n 2, 1) := by decide +kernel
theorem dX12_inOrders_133 : decode cX12_inOrders 133 = .ok (.imul, 1) := by decide +kernel
theorem dX12_inOrders_134 : decode cX12_inOrders 134 = .ok (.iload_n 1, 1) := by decide +kernel
theorem dX12_inOrders_135 : decode cX12_inOrders 135 = .ok (.iadd, 1) := by decide +kernel
theorem dX12_inOrders_136 : decode cX12_inOrders 136 = .ok (.iload 4, 2) := by decide +kernel
theorem dX12_inOrders_138 : decode cX12_inOrders 138 = .ok (.iastore, 1) := by decide +kernel
theorem dX12_inOrders_139 : decode cX12_inOrders 139 = .ok (.aload_n 0, 1) := by decide +kernel
theorem dX12_inOrders_140 : decode cX12_inOrders 140 = .ok (.getfield 60, 3) := by decide +kernel
theorem dX12_inOrders_143 : decode cX12_inOrders 143 = .ok (.bipush 97, 2) := by decide +kernel
theorem dX12_inOrders_145 : decode cX12_inOrders 145 = .ok (.iload_n 2, 1) := by decide +kernel
theorem dX12_inOrders_146 : decode cX12_inOrders 146 = .ok (.imul, 1) := by decide +kernel
theorem dX12_inOrders_147 : decode cX12_inOrders 147 = .ok (.iload_n 1, 1) := by decide +kernel
theorem dX12_inOrders_148 : decode cX12_inOrders 148 = .ok (.iadd, 1) := by decide +kernel
theorem dX12_inOrders_149 : decode cX12_inOrders 149 = .ok (.iload 5, 2) := by decide +kernel
theorem dX12_inOrders_151 : decode cX12_inOrders 151 = .ok (.iastore, 1) := by decide +kernel
theorem dX12_inOrders_152 : decode cX12_inOrders 152 = .ok (.iinc 2 1, 3) := by decide +kernel
theorem dX12_inOrders_155 : decode cX12_inOrders 155 = .ok (.goto (-143), 3) := by decide +kernel
theorem dX12_inOrders_158 : decode cX12_inOrders 158 = .ok (.iinc 1 1, 3) := by decide +kernel
theorem dX12_inOrders_161 : decode cX12_inOrders 161 = .ok (.goto (-159), 3) := by decide +kernel
theorem dX12_inOrders_164 : decode cX12_inOrders 164 = .ok (.aload_n 0, 1) := by decide +kernel
theorem dX12_inOrders_165 : decode cX12_inOrders 165 = .ok (.getfield 63, 3) := by decide +kernel
theorem dX12_inOrders_168 : decode cX12_inOrders 168 = .ok (.iconst 0, 1) := by decide +kernel
theorem dX12_inOrders_169 : decode cX12_inOrders 169 = .ok (.iconst 0, 1) := by decide +kernel
theorem dX12_inOrders_170 : decode cX12_inOrders 170 = .ok (.iastore, 1) := by decide +kernel
theorem dX12_inOrders_171 : decode cX12_inOrders 171 = .ok (.aload_n 0, 1) := by decide +kernel
theorem dX12_inOrders_172 : decode cX12_inOrders 172 = .ok (.getfield 63, 3) := by decide +kernel
theorem dX12_inOrders_175 : decode cX12_inOrders 175 = .ok (.iconst 1, 1) := by decide +kernel
theorem dX12_inOrders_176 : decode cX12_inOrders 176 = .ok (.aload_n 0, 1) := by decide +kernel
theorem dX12_inOrders_177 : decode cX12_inOrders 177 = .ok (.getfield 116, 3) := by decide +kernel
theorem dX12_inOrders_180 : decode cX12_inOrders 180 = .ok (.iastore, 1) := by decide +kernel
theorem dX12_inOrders_181 : decode cX12_inOrders 181 = .ok (.aload_n 0, 1) := by decide +kernel
theorem dX12_inOrders_182 : decode cX12_inOrders 182 = .ok (.getfield 63, 3) := by decide +kernel
theorem dX12_inOrders_185 : decode cX12_inOrders 185 = .ok (.iconst 2, 1) := by decide +kernel
theorem dX12_inOrders_186 : decode cX12_inOrders 186 = .ok (.iconst 0, 1) := by decide +kernel
theorem dX12_inOrders_187 : decode cX12_inOrders 187 = .ok (.iastore, 1) := by decide +kernel
theorem dX12_inOrders_188 : decode cX12_inOrders 188 = .ok (.iconst 3, 1) := by decide +kernel
theorem dX12_inOrders_189 : decode cX12_inOrders 189 = .ok (.istore_n 1, 1) := by decide +kernel
theorem dX12_inOrders_190 : decode cX12_inOrders 190 = .ok (.iload_n 1, 1) := by decide +kernel
theorem dX12_inOrders_191 : decode cX12_inOrders 191 = .ok (.ifCond .le 132, 3) := by decide +kernel
theorem dX12_inOrders_194 : decode cX12_inOrders 194 = .ok (.iinc 1 (-3), 3) := by decide +kernel
theorem dX12_inOrders_197 : decode cX12_inOrders 197 = .ok (.aload_n 0, 1) := by decide +kernel
theorem dX12_inOrders_198 : decode cX12_inOrders 198 = .ok (.getfield 63, 3) := by decide +kernel
theorem dX12_inOrders_201 : decode cX12_inOrders 201 = .ok (.iload_n 1, 1) := by decide +kernel
theorem dX12_inOrders_202 : decode cX12_inOrders 202 = .ok (.iaload, 1) := by decide +kernel
theorem dX12_inOrders_203 : decode cX12_inOrders 203 = .ok (.istore_n 2, 1) := by decide +kernel
theorem dX12_inOrders_204 : decode cX12_inOrders 204 = .ok (.aload_n 0, 1) := by decide +kernel
theorem dX12_inOrders_205 : decode cX12_inOrders 205 = .ok (.getfield 63, 3) := by decide +kernel
theorem dX12_inOrders_208 : decode cX12_inOrders 208 = .ok (.iload_n 1, 1) := by decide +kernel
theorem dX12_inOrders_209 : decode cX12_inOrders 209 = .ok (.iconst 1, 1) := by decide +kernel
theorem dX12_inOrders_210 : decode cX12_inOrders 210 = .ok (.iadd, 1) := by decide +kernel
theorem dX12_inOrders_211 : decode cX12_inOrders 211 = .ok (.iaload, 1) := by decide +kernel
theorem dX12_inOrders_212 : decode cX12_inOrders 212 = .ok (.istore_n 3, 1) := by decide +kernel
theorem dX12_inOrders_213 : decode cX12_inOrders 213 = .ok (.aload_n 0, 1) := by decide +kernel
theorem dX12_inOrders_214 : decode cX12_inOrders 214 = .ok (.getfield 63, 3) := by decide +kernel
theorem dX12_inOrders_217 : decode cX12_inOrders 217 = .ok (.iload_n 1, 1) := by decide +kernel
theorem dX12_inOrders_218 : decode cX12_inOrders 218 = .ok (.iconst 2, 1) := by decide +kernel
theorem dX12_inOrders_219 : decode cX12_inOrders 219 = .ok (.iadd, 1) := by decide +kernel
theorem dX12_inOrders_220 : decode cX12_inOrders 220 = .ok (.iaload, 1) := by decide +kernel
theorem dX12_inOrders_221 : decode cX12_inOrders 221 = .ok (.istore 4, 2) := by decide +kernel
theorem dX12_inOrders_223 : decode cX12_inOrders 223 = .ok (.iload_n 3, 1) := by decide +kernel
theorem dX12_inOrders_224 : decode cX12_inOrders 224 = .ok (.iconst 1, 1) := by decide +kernel
theorem dX12_inOrders_225 : decode cX12_inOrders 225 = .ok (.if_icmp .ne 14, 3) := by decide +kernel
theorem dX12_inOrders_228 : decode cX12_inOrders 228 = .ok (.aload_n 0, 1) := by decide +kernel
theorem dX12_inOrders_229 : decode cX12_inOrders 229 = .ok (.getfield 36, 3) := by decide +kernel
theorem dX12_inOrders_232 : decode cX12_inOrders 232 = .ok (.iload_n 2, 1) := by decide +kernel
theorem dX12_inOrders_233 : decode cX12_inOrders 233 = .ok (.iload 4, 2) := by decide +kernel
theorem dX12_inOrders_235 : decode cX12_inOrders 235 = .ok (.iastore, 1) := by decide +kernel
theorem dX12_inOrders_236 : decode cX12_inOrders 236 = .ok (.goto (-46), 3) := by decide +kernel
theorem dX12_inOrders_239 : decode cX12_inOrders 239 = .ok (.aload_n 0, 1) := by decide +kernel
theorem dX12_inOrders_240 : decode cX12_inOrders 240 = .ok (.getfield 60, 3) := by decide +kernel
theorem dX12_inOrders_243 : decode cX12_inOrders 243 = .ok (.bipush 97, 2) := by decide +kernel
theorem dX12_inOrders_245 : decode cX12_inOrders 245 = .ok (.iload_n 2, 1) := by decide +kernel
theorem dX12_inOrders_246 : decode cX12_inOrders 246 = .ok (.imul, 1) := by decide +kernel
theorem dX12_inOrders_247 : decode cX12_inOrders 247 = .ok (.iload_n 3, 1) := by decide +kernel
theorem dX12_inOrders_248 : decode cX12_inOrders 248 = .ok (.iadd, 1) := by decide +kernel
theorem dX12_inOrders_249 : decode cX12_inOrders 249 = .ok (.iaload, 1) := by decide +kernel
theorem dX12_inOrders_250 : decode cX12_inOrders 250 = .ok (.istore 5, 2) := by decide +kernel
theorem dX12_inOrders_252 : decode cX12_inOrders 252 = .ok (.aload_n 0, 1) := by decide +kernel
theorem dX12_inOrders_253 : decode cX12_inOrders 253 = .ok (.getfield 63, 3) := by decide +kernel
theorem dX12_inOrders_256 : decode cX12_inOrders 256 = .ok (.iload_n 1, 1) := by decide +kernel
theorem dX12_inOrders_257 : decode cX12_inOrders 257 = .ok (.iload_n 2, 1) := by decide +kernel
theorem dX12_inOrders_258 : decode cX12_inOrders 258 = .ok (.iastore, 1) := by decide +kernel
theorem dX12_inOrders_259 : decode cX12_inOrders 259 = .ok (.aload_n 0, 1) := by decide +kernel
theorem dX12_inOrders_260 : decode cX12_inOrders 260 = .ok (.getfield 63, 3) := by decide +kernel
theorem dX12_inOrders_263 : decode cX12_inOrders 263 = .ok (.iload_n 1, 1) := by decide +kernel
theorem dX12_inOrders_264 : decode cX12_inOrders 264 = .ok (.iconst 1, 1) := by decide +kernel
theorem dX12_inOrders_265 : decode cX12_inOrders 265 = .ok (.iadd, 1) := by decide +kernel
theorem dX12_inOrders_266 : decode cX12_inOrders 266 = .ok (.iload 5, 2) := by decide +kernel
theorem dX12_inOrders_268 : decode cX12_inOrders 268 = .ok (.iastore, 1) := by decide +kernel
theorem dX12_inOrders_269 : decode cX12_inOrders 269 = .ok (.aload_n 0, 1) := by decide +kernel
theorem dX12_inOrders_270 : decode cX12_inOrders 270 = .ok (.getfield 63, 3) := by decide +kernel
theorem dX12_inOrders_273 : decode cX12_inOrders 273 = .ok (.iload_n 1, 1) := by decide +kernel
theorem dX12_inOrders_274 : decode cX12_inOrders 274 = .ok (.iconst 2, 1) := by decide +kernel
theorem dX12_inOrders_275 : decode cX12_inOrders 275 = .ok (.iadd, 1) := by decide +kernel
theorem dX12_inOrders_276 : decode cX12_inOrders 276 = .ok (.iload 4, 2) := by decide +kernel
theorem dX12_inOrders_278 : decode cX12_inOrders 278 = .ok (.iconst 1, 1) := by decide +kernel
theorem dX12_inOrders_279 : decode cX12_inOrders 279 = .ok (.iadd, 1) := by decide +kernel
theorem dX12_inOrders_280 : decode cX12_inOrders 280 = .ok (.iastore, 1) := by decide +kernel
theorem dX12_inOrders_281 : decode cX12_inOrders 281 = .ok (.aload_n 0, 1) := by decide +kernel
theorem dX12_inOrders_282 : decode cX12_inOrders 282 = .ok (.getfield 63, 3) := by decide +kernel
theorem dX12_inOrders_285 : decode cX12_inOrders 285 = .ok (.iload_n 1, 1) := by decide +kernel
theorem dX12_inOrders_286 : decode cX12_inOrders 286 = .ok (.iconst 3, 1) := by decide +kernel
theorem dX12_inOrders_287 : decode cX12_inOrders 287 = .ok (.iadd, 1) := by decide +kernel
theorem dX12_inOrders_288 : decode cX12_inOrders 288 = .ok (.iload_n 2, 1) := by decide +kernel
theorem dX12_inOrders_289 : decode cX12_inOrders 289 = .ok (.iload 5, 2) := by decide +kernel
theorem dX12_inOrders_291 : decode cX12_inOrders 291 = .ok (.iadd, 1) := by decide +kernel
theorem dX12_inOrders_292 : decode cX12_inOrders 292 = .ok (.iastore, 1) := by decide +kernel
theorem dX12_inOrders_293 : decode cX12_inOrders 293 = .ok (.aload_n 0, 1) := by decide +kernel
theorem dX12_inOrders_294 : decode cX12_inOrders 294 = .ok (.getfield 63, 3) := by decide +kernel
theorem dX12_inOrders_297 : decode cX12_inOrders 297 = .ok (.iload_n 1, 1) := by decide +kernel
theorem dX12_inOrders_298 : decode cX12_inOrders 298 = .ok (.iconst 4, 1) := by decide +kernel
theorem dX12_inOrders_299 : decode cX12_inOrders 299 = .ok (.iadd, 1) := by decide +kernel
theorem dX12_inOrders_300 : decode cX12_inOrders 300 = .ok (.iload_n 3, 1) := by decide +kernel
theorem dX12_inOrders_301 : decode cX12_inOrders 301 = .ok (.iload 5, 2) := by decide +kernel
theorem dX12_inOrders_303 : decode cX12_inOrders 303 = .ok (.isub, 1) := by decide +kernel
theorem dX12_inOrders_304 : decode cX12_inOrders 304 = .ok (.iastore, 1) := by decide +kernel
theorem dX12_inOrders_305 : decode cX12_inOrders 305 = .ok (.aload_n 0, 1) := by decide +kernel
theorem dX12_inOrders_306 : decode cX12_inOrders 306 = .ok (.getfield 63, 3) := by decide +kernel
theorem dX12_inOrders_309 : decode cX12_inOrders 309 = .ok (.iload_n 1, 1) := by decide +kernel
theorem dX12_inOrders_310 : decode cX12_inOrders 310 = .ok (.iconst 5, 1) := by decide +kernel
theorem dX12_inOrders_311 : decode cX12_inOrders 311 = .ok (.iadd, 1) := by decide +kernel
theorem dX12_inOrders_312 : decode cX12_inOrders 312 = .ok (.iload 4, 2) := by decide +kernel
theorem dX12_inOrders_314 : decode cX12_inOrders 314 = .ok (.iconst 1, 1) := by decide +kernel
theorem dX12_inOrders_315 : decode cX12_inOrders 315 = .ok (.iadd, 1) := by decide +kernel
theorem dX12_inOrders_316 : decode cX12_inOrders 316 = .ok (.iastore, 1) := by decide +kernel
theorem dX12_inOrders_317 : decode cX12_inOrders 317 = .ok (.iinc 1 6, 3) := by decide +kernel
theorem dX12_inOrders_320 : decode cX12_inOrders 320 = .ok (.goto (-130), 3) := by decide +kernel
theorem dX12_inOrders_323 : decode cX12_inOrders 323 = .ok (.return_, 1) := by decide +kernel
set_option maxRecDepth 20000 in
theorem ggX12_byHalves_X12_sort : GoodIn wsX12_byHalves wsX12_sort := goodIn_r _ [10, 2, 5, 4, 11, 12, 13, 14, 15, 16, 17, 18, 19, 20, 21, 22, 23, 24, 25, 26, 27, 28, 29, 30, 31, 32, 33, 34, 35, 36, 37, 38, 39, 40, 41, 42, 43, 44, 45, 46, 47, 48, 49] (by decide +kernel) (by decide +kernel)
set_option maxRecDepth 20000 in
theorem gX12_byHalves_X12_sort : GoodIn wsX12_byHalves (wsV RX12 126 RX12 yX12_sort wsX12_sort) := goodIn_app (goodIn_of _ (by decide +kernel)) ggX12_byHalves_X12_sort
theorem dX12_byHalves_0 : decode cX12_byHalves 0 = .ok (.aload_n 0, 1) := by decide +kernel
theorem dX12_byHalves_1 : decode cX12_byHalves 1 = .ok (.iconst 0, 1) := by decide +kernel
theorem dX12_byHalves_2 : decode cX12_byHalves 2 = .ok (.invokevirtual 126, 3) := by decide +kernel
theorem dX12_byHalves_5 : decode cX12_byHalves 5 = .ok (.aload_n 0, 1) := by decide +kernel
theorem dX12_byHalves_6 : decode cX12_byHalves 6 = .ok (.getfield 63, 3) := by decide +kernel
theorem dX12_byHalves_9 : decode cX12_byHalves 9 = .ok (.iconst 0, 1) := by decide +kernel
theorem dX12_byHalves_10 : decode cX12_byHalves 10 = .ok (.iconst 0, 1) := by decide +kernel
theorem dX12_byHalves_11 : decode cX12_byHalves 11 = .ok (.iastore, 1) := by decide +kernel
theorem dX12_byHalves_12 : decode cX12_byHalves 12 = .ok (.aload_n 0, 1) := by decide +kernel
theorem dX12_byHalves_13 : decode cX12_byHalves 13 = .ok (.getfield 63, 3) := by decide +kernel
theorem dX12_byHalves_16 : decode cX12_byHalves 16 = .ok (.iconst 1, 1) := by decide +kernel
theorem dX12_byHalves_17 : decode cX12_byHalves 17 = .ok (.aload_n 0, 1) := by decide +kernel
theorem dX12_byHalves_18 : decode cX12_byHalves 18 = .ok (.getfield 116, 3) := by decide +kernel
theorem dX12_byHalves_21 : decode cX12_byHalves 21 = .ok (.iastore, 1) := by decide +kernel
theorem dX12_byHalves_22 : decode cX12_byHalves 22 = .ok (.aload_n 0, 1) := by decide +kernel
theorem dX12_byHalves_23 : decode cX12_byHalves 23 = .ok (.getfield 63, 3) := by decide +kernel
theorem dX12_byHalves_26 : decode cX12_byHalves 26 = .ok (.iconst 2, 1) := by decide +kernel
theorem dX12_byHalves_27 : decode cX12_byHalves 27 = .ok (.iconst 0, 1) := by decide +kernel
theorem dX12_byHalves_28 : decode cX12_byHalves 28 = .ok (.iastore, 1) := by decide +kernel
theorem dX12_byHalves_29 : decode cX12_byHalves 29 = .ok (.iconst 3, 1) := by decide +kernel
theorem dX12_byHalves_30 : decode cX12_byHalves 30 = .ok (.istore_n 1, 1) := by decide +kernel
theorem dX12_byHalves_31 : decode cX12_byHalves 31 = .ok (.iload_n 1, 1) := by decide +kernel
theorem dX12_byHalves_32 : decode cX12_byHalves 32 = .ok (.ifCond .le 219, 3) := by decide +kernel
theorem dX12_byHalves_35 : decode cX12_byHalves 35 = .ok (.iinc 1 (-3), 3) := by decide +kernel
theorem dX12_byHalves_38 : decode cX12_byHalves 38 = .ok (.aload_n 0, 1) := by decide +kernel
theorem dX12_byHalves_39 : decode cX12_byHalves 39 = .ok (.getfield 63, 3) := by decide +kernel
theorem dX12_byHalves_42 : decode cX12_byHalves 42 = .ok (.iload_n 1, 1) := by decide +kernel
theorem dX12_byHalves_43 : decode cX12_byHalves 43 = .ok (.iaload, 1) := by decide +kernel
theorem dX12_byHalves_44 : decode cX12_byHalves 44 = .ok (.istore_n 2, 1) := by decide +kernel
theorem dX12_byHalves_45 : decode cX12_byHalves 45 = .ok (.aload_n 0, 1) := by decide +kernel
theorem dX12_byHalves_46 : decode cX12_byHalves 46 = .ok (.getfield 63, 3) := by decide +kernel
theorem dX12_byHalves_49 : decode cX12_byHalves 49 = .ok (.iload_n 1, 1) := by decide +kernel
theorem dX12_byHalves_50 : decode cX12_byHalves 50 = .ok (.iconst 1, 1) := by decide +kernel
theorem dX12_byHalves_51 : decode cX12_byHalves 51 = .ok (.iadd, 1) := by decide +kernel
theorem dX12_byHalves_52 : decode cX12_byHalves 52 = .ok (.iaload, 1) := by decide +kernel
theorem dX12_byHalves_53 : decode cX12_byHalves 53 = .ok (.istore_n 3, 1) := by decide +kernel
theorem dX12_byHalves_54 : decode cX12_byHalves 54 = .ok (.aload_n 0, 1) := by decide +kernel
theorem dX12_byHalves_55 : decode cX12_byHalves 55 = .ok (.getfield 63, 3) := by decide +kernel
theorem dX12_byHalves_58 : decode cX12_byHalves 58 = .ok (.iload_n 1, 1) := by decide +kernel
theorem dX12_byHalves_59 : decode cX12_byHalves 59 = .ok (.iconst 2, 1) := by decide +kernel
theorem dX12_byHalves_60 : decode cX12_byHalves 60 = .ok (.iadd, 1) := by decide +kernel
theorem dX12_byHalves_61 : decode cX12_byHalves 61 = .ok (.iaload, 1) := by decide +kernel
theorem dX12_byHalves_62 : decode cX12_byHalves 62 = .ok (.istore 4, 2) := by decide +kernel
theorem dX12_byHalves_64 : decode cX12_byHalves 64 = .ok (.iload_n 3, 1) := by decide +kernel
theorem dX12_byHalves_65 : decode cX12_byHalves 65 = .ok (.iconst 1, 1) := by decide +kernel
theorem dX12_byHalves_66 : decode cX12_byHalves 66 = .ok (.if_icmp .ne 19, 3) := by decide +kernel
theorem dX12_byHalves_69 : decode cX12_byHalves 69 = .ok (.aload_n 0, 1) := by decide +kernel
theorem dX12_byHalves_70 : decode cX12_byHalves 70 = .ok (.getfield 36, 3) := by decide +kernel
theorem dX12_byHalves_73 : decode cX12_byHalves 73 = .ok (.aload_n 0, 1) := by decide +kernel
theorem dX12_byHalves_74 : decode cX12_byHalves 74 = .ok (.getfield 45, 3) := by decide +kernel
theorem dX12_byHalves_77 : decode cX12_byHalves 77 = .ok (.iload_n 2, 1) := by decide +kernel
theorem dX12_byHalves_78 : decode cX12_byHalves 78 = .ok (.iaload, 1) := by decide +kernel
theorem dX12_byHalves_79 : decode cX12_byHalves 79 = .ok (.iload 4, 2) := by decide +kernel
theorem dX12_byHalves_81 : decode cX12_byHalves 81 = .ok (.iastore, 1) := by decide +kernel
theorem dX12_byHalves_82 : decode cX12_byHalves 82 = .ok (.goto (-51), 3) := by decide +kernel
theorem dX12_byHalves_85 : decode cX12_byHalves 85 = .ok (.iconst 0, 1) := by decide +kernel
theorem dX12_byHalves_86 : decode cX12_byHalves 86 = .ok (.istore 5, 2) := by decide +kernel
theorem dX12_byHalves_88 : decode cX12_byHalves 88 = .ok (.iload_n 2, 1) := by decide +kernel
theorem dX12_byHalves_89 : decode cX12_byHalves 89 = .ok (.istore 6, 2) := by decide +kernel
theorem dX12_byHalves_91 : decode cX12_byHalves 91 = .ok (.iload 6, 2) := by decide +kernel
theorem dX12_byHalves_93 : decode cX12_byHalves 93 = .ok (.iload_n 2, 1) := by decide +kernel
theorem dX12_byHalves_94 : decode cX12_byHalves 94 = .ok (.iload_n 3, 1) := by decide +kernel
theorem dX12_byHalves_95 : decode cX12_byHalves 95 = .ok (.iadd, 1) := by decide +kernel
theorem dX12_byHalves_96 : decode cX12_byHalves 96 = .ok (.if_icmp .ge 26, 3) := by decide +kernel
theorem dX12_byHalves_99 : decode cX12_byHalves 99 = .ok (.iload 5, 2) := by decide +kernel
theorem dX12_byHalves_101 : decode cX12_byHalves 101 = .ok (.aload_n 0, 1) := by decide +kernel
theorem dX12_byHalves_102 : decode cX12_byHalves 102 = .ok (.getfield 33, 3) := by decide +kernel
theorem dX12_byHalves_105 : decode cX12_byHalves 105 = .ok (.aload_n 0, 1) := by decide +kernel
theorem dX12_byHalves_106 : decode cX12_byHalves 106 = .ok (.getfield 45, 3) := by decide +kernel
theorem dX12_byHalves_109 : decode cX12_byHalves 109 = .ok (.iload 6, 2) := by decide +kernel
theorem dX12_byHalves_111 : decode cX12_byHalves 111 = .ok (.iaload, 1) := by decide +kernel
theorem dX12_byHalves_112 : decode cX12_byHalves 112 = .ok (.iaload, 1) := by decide +kernel
theorem dX12_byHalves_113 : decode cX12_byHalves 113 = .ok (.iadd, 1) := by decide +kernel
theorem dX12_byHalves_114 : decode cX12_byHalves 114 = .ok (.istore 5, 2) := by decide +kernel
theorem dX12_byHalves_116 : decode cX12_byHalves 116 = .ok (.iinc 6 1, 3) := by decide +kernel
theorem dX12_byHalves_119 : decode cX12_byHalves 119 = .ok (.goto (-28), 3) := by decide +kernel
theorem dX12_byHalves_122 : decode cX12_byHalves 122 = .ok (.iconst 1, 1) := by decide +kernel
theorem dX12_byHalves_123 : decode cX12_byHalves 123 = .ok (.istore 6, 2) := by decide +kernel
theorem dX12_byHalves_125 : decode cX12_byHalves 125 = .ok (.aload_n 0, 1) := by decide +kernel
theorem dX12_byHalves_126 : decode cX12_byHalves 126 = .ok (.getfield 33, 3) := by decide +kernel
theorem dX12_byHalves_129 : decode cX12_byHalves 129 = .ok (.aload_n 0, 1) := by decide +kernel
theorem dX12_byHalves_130 : decode cX12_byHalves 130 = .ok (.getfield 45, 3) := by decide +kernel
theorem dX12_byHalves_133 : decode cX12_byHalves 133 = .ok (.iload_n 2, 1) := by decide +kernel
theorem dX12_byHalves_134 : decode cX12_byHalves 134 = .ok (.iaload, 1) := by decide +kernel
theorem dX12_byHalves_135 : decode cX12_byHalves 135 = .ok (.iaload, 1) := by decide +kernel
theorem dX12_byHalves_136 : decode cX12_byHalves 136 = .ok (.istore 7, 2) := by decide +kernel
theorem dX12_byHalves_138 : decode cX12_byHalves 138 = .ok (.iload 6, 2) := by decide +kernel
theorem dX12_byHalves_140 : decode cX12_byHalves 140 = .ok (.iload_n 3, 1) := by decide +kernel
theorem dX12_byHalves_141 : decode cX12_byHalves 141 = .ok (.iconst 1, 1) := by decide +kernel
theorem dX12_byHalves_142 : decode cX12_byHalves 142 = .ok (.isub, 1) := by decide +kernel
theorem dX12_byHalves_143 : decode cX12_byHalves 143 = .ok (.if_icmp .ge 37, 3) := by decide +kernel
theorem dX12_byHalves_146 : decode cX12_byHalves 146 = .ok (.iconst 2, 1) := by decide +kernel
theorem dX12_byHalves_147 : decode cX12_byHalves 147 = .ok (.iload 7, 2) := by decide +kernel
theorem dX12_byHalves_149 : decode cX12_byHalves 149 = .ok (.imul, 1) := by decide +kernel
theorem dX12_byHalves_150 : decode cX12_byHalves 150 = .ok (.iload 5, 2) := by decide +kernel
theorem dX12_byHalves_152 : decode cX12_byHalves 152 = .ok (.if_icmp .ge 28, 3) := by decide +kernel
theorem dX12_byHalves_155 : decode cX12_byHalves 155 = .ok (.iload 7, 2) := by decide +kernel
theorem dX12_byHalves_157 : decode cX12_byHalves 157 = .ok (.aload_n 0, 1) := by decide +kernel
theorem dX12_byHalves_158 : decode cX12_byHalves 158 = .ok (.getfield 33, 3) := by decide +kernel
theorem dX12_byHalves_161 : decode cX12_byHalves 161 = .ok (.aload_n 0, 1) := by decide +kernel
theorem dX12_byHalves_162 : decode cX12_byHalves 162 = .ok (.getfield 45, 3) := by decide +kernel
theorem dX12_byHalves_165 : decode cX12_byHalves 165 = .ok (.iload_n 2, 1) := by decide +kernel
theorem dX12_byHalves_166 : decode cX12_byHalves 166 = .ok (.iload 6, 2) := by decide +kernel
theorem dX12_byHalves_168 : decode cX12_byHalves 168 = .ok (.iadd, 1) := by decide +kernel
theorem dX12_byHalves_169 : decode cX12_byHalves 169 = .ok (.iaload, 1) := by decide +kernel
theorem dX12_byHalves_170 : decode cX12_byHalves 170 = .ok (.iaload, 1) := by decide +kernel
theorem dX12_byHalves_171 : decode cX12_byHalves 171 = .ok (.iadd, 1) := by decide +kernel
theorem dX12_byHalves_172 : decode cX12_byHalves 172 = .ok (.istore 7, 2) := by decide +kernel
theorem dX12_byHalves_174 : decode cX12_byHalves 174 = .ok (.iinc 6 1, 3) := by decide +kernel
theorem dX12_byHalves_177 : decode cX12_byHalves 177 = .ok (.goto (-39), 3) := by decide +kernel
theorem dX12_byHalves_180 : decode cX12_byHalves 180 = .ok (.aload_n 0, 1) := by decide +kernel
theorem dX12_byHalves_181 : decode cX12_byHalves 181 = .ok (.getfield 63, 3) := by decide +kernel
theorem dX12_byHalves_184 : decode cX12_byHalves 184 = .ok (.iload_n 1, 1) := by decide +kernel
theorem dX12_byHalves_185 : decode cX12_byHalves 185 = .ok (.iload_n 2, 1) := by decide +kernel
theorem dX12_byHalves_186 : decode cX12_byHalves 186 = .ok (.iastore, 1) := by decide +kernel
theorem dX12_byHalves_187 : decode cX12_byHalves 187 = .ok (.aload_n 0, 1) := by decide +kernel
theorem dX12_byHalves_188 : decode cX12_byHalves 188 = .ok (.getfield 63, 3) := by decide +kernel
theorem dX12_byHalves_191 : decode cX12_byHalves 191 = .ok (.iload_n 1, 1) := by decide +kernel
theorem dX12_byHalves_192 : decode cX12_byHalves 192 = .ok (.iconst 1, 1) := by decide +kernel
theorem dX12_byHalves_193 : decode cX12_byHalves 193 = .ok (.iadd, 1) := by decide +kernel
theorem dX12_byHalves_194 : decode cX12_byHalves 194 = .ok (.iload 6, 2) := by decide +kernel
theorem dX12_byHalves_196 : decode cX12_byHalves 196 = .ok (.iastore, 1) := by decide +kernel
theorem dX12_byHalves_197 : decode cX12_byHalves 197 = .ok (.aload_n 0, 1) := by decide +kernel
theorem dX12_byHalves_198 : decode cX12_byHalves 198 = .ok (.getfield 63, 3) := by decide +kernel
theorem dX12_byHalves_201 : decode cX12_byHalves 201 = .ok (.iload_n 1, 1) := by decide +kernel
theorem dX12_byHalves_202 : decode cX12_byHalves 202 = .ok (.iconst 2, 1) := by decide +kernel
theorem dX12_byHalves_203 : decode cX12_byHalves 203 = .ok (.iadd, 1) := by decide +kernel
theorem dX12_byHalves_204 : decode cX12_byHalves 204 = .ok (.iload 4, 2) := by decide +kernel
theorem dX12_byHalves_206 : decode cX12_byHalves 206 = .ok (.iconst 1, 1) := by decide +kernel
theorem dX12_byHalves_207 : decode cX12_byHalves 207 = .ok (.iadd, 1) := by decide +kernel
theorem dX12_byHalves_208 : decode cX12_byHalves 208 = .ok (.iastore, 1) := by decide +kernel
theorem dX12_byHalves_209 : decode cX12_byHalves 209 = .ok (.aload_n 0, 1) := by decide +kernel
theorem dX12_byHalves_210 : decode cX12_byHalves 210 = .ok (.getfield 63, 3) := by decide +kernel
theorem dX12_byHalves_213 : decode cX12_byHalves 213 = .ok (.iload_n 1, 1) := by decide +kernel
theorem dX12_byHalves_214 : decode cX12_byHalves 214 = .ok (.iconst 3, 1) := by decide +kernel
theorem dX12_byHalves_215 : decode cX12_byHalves 215 = .ok (.iadd, 1) := by decide +kernel
theorem dX12_byHalves_216 : decode cX12_byHalves 216 = .ok (.iload_n 2, 1) := by decide +kernel
theorem dX12_byHalves_217 : decode cX12_byHalves 217 = .ok (.iload 6, 2) := by decide +kernel
theorem dX12_byHalves_219 : decode cX12_byHalves 219 = .ok (.iadd, 1) := by decide +kernel
theorem dX12_byHalves_220 : decode cX12_byHalves 220 = .ok (.iastore, 1) := by decide +kernel
theorem dX12_byHalves_221 : decode cX12_byHalves 221 = .ok (.aload_n 0, 1) := by decide +kernel
theorem dX12_byHalves_222 : decode cX12_byHalves 222 = .ok (.getfield 63, 3) := by decide +kernel
theorem dX12_byHalves_225 : decode cX12_byHalves 225 = .ok (.iload_n 1, 1) := by decide +kernel
theorem dX12_byHalves_226 : decode cX12_byHalves 226 = .ok (.iconst 4, 1) := by decide +kernel
theorem dX12_byHalves_227 : decode cX12_byHalves 227 = .ok (.iadd, 1) := by decide +kernel
theorem dX12_byHalves_228 : decode cX12_byHalves 228 = .ok (.iload_n 3, 1) := by decide +kernel
theorem dX12_byHalves_229 : decode cX12_byHalves 229 = .ok (.iload 6, 2) := by decide +kernel
theorem dX12_byHalves_231 : decode cX12_byHalves 231 = .ok (.isub, 1) := by decide +kernel
theorem dX12_byHalves_232 : decode cX12_byHalves 232 = .ok (.iastore, 1) := by decide +kernel
theorem dX12_byHalves_233 : decode cX12_byHalves 233 = .ok (.aload_n 0, 1) := by decide +kernel
theorem dX12_byHalves_234 : decode cX12_byHalves 234 = .ok (.getfield 63, 3) := by decide +kernel
theorem dX12_byHalves_237 : decode cX12_byHalves 237 = .ok (.iload_n 1, 1) := by decide +kernel
theorem dX12_byHalves_238 : decode cX12_byHalves 238 = .ok (.iconst 5, 1) := by decide +kernel
theorem dX12_byHalves_239 : decode cX12_byHalves 239 = .ok (.iadd, 1) := by decide +kernel
theorem dX12_byHalves_240 : decode cX12_byHalves 240 = .ok (.iload 4, 2) := by decide +kernel
theorem dX12_byHalves_242 : decode cX12_byHalves 242 = .ok (.iconst 1, 1) := by decide +kernel
theorem dX12_byHalves_243 : decode cX12_byHalves 243 = .ok (.iadd, 1) := by decide +kernel
theorem dX12_byHalves_244 : decode cX12_byHalves 244 = .ok (.iastore, 1) := by decide +kernel
theorem dX12_byHalves_245 : decode cX12_byHalves 245 = .ok (.iinc 1 6, 3) := by decide +kernel
theorem dX12_byHalves_248 : decode cX12_byHalves 248 = .ok (.goto (-217), 3) := by decide +kernel
theorem dX12_byHalves_251 : decode cX12_byHalves 251 = .ok (.return_, 1) := by decide +kernel
theorem dX12_longest_0 : decode cX12_longest 0 = .ok (.iconst 0, 1) := by decide +kernel
theorem dX12_longest_1 : decode cX12_longest 1 = .ok (.istore_n 1, 1) := by decide +kernel
theorem dX12_longest_2 : decode cX12_longest 2 = .ok (.iconst 0, 1) := by decide +kernel
theorem dX12_longest_3 : decode cX12_longest 3 = .ok (.istore_n 2, 1) := by decide +kernel
theorem dX12_longest_4 : decode cX12_longest 4 = .ok (.iload_n 2, 1) := by decide +kernel
theorem dX12_longest_5 : decode cX12_longest 5 = .ok (.aload_n 0, 1) := by decide +kernel
theorem dX12_longest_6 : decode cX12_longest 6 = .ok (.getfield 116, 3) := by decide +kernel
theorem dX12_longest_9 : decode cX12_longest 9 = .ok (.if_icmp .ge 30, 3) := by decide +kernel
theorem dX12_longest_12 : decode cX12_longest 12 = .ok (.aload_n 0, 1) := by decide +kernel
theorem dX12_longest_13 : decode cX12_longest 13 = .ok (.getfield 36, 3) := by decide +kernel
theorem dX12_longest_16 : decode cX12_longest 16 = .ok (.iload_n 2, 1) := by decide +kernel
theorem dX12_longest_17 : decode cX12_longest 17 = .ok (.iaload, 1) := by decide +kernel
theorem dX12_longest_18 : decode cX12_longest 18 = .ok (.iload_n 1, 1) := by decide +kernel
theorem dX12_longest_19 : decode cX12_longest 19 = .ok (.if_icmp .le 12, 3) := by decide +kernel
theorem dX12_longest_22 : decode cX12_longest 22 = .ok (.aload_n 0, 1) := by decide +kernel
theorem dX12_longest_23 : decode cX12_longest 23 = .ok (.getfield 36, 3) := by decide +kernel
theorem dX12_longest_26 : decode cX12_longest 26 = .ok (.iload_n 2, 1) := by decide +kernel
theorem dX12_longest_27 : decode cX12_longest 27 = .ok (.iaload, 1) := by decide +kernel
theorem dX12_longest_28 : decode cX12_longest 28 = .ok (.goto 4, 3) := by decide +kernel
theorem dX12_longest_31 : decode cX12_longest 31 = .ok (.iload_n 1, 1) := by decide +kernel
theorem dX12_longest_32 : decode cX12_longest 32 = .ok (.istore_n 1, 1) := by decide +kernel
theorem dX12_longest_33 : decode cX12_longest 33 = .ok (.iinc 2 1, 3) := by decide +kernel
theorem dX12_longest_36 : decode cX12_longest 36 = .ok (.goto (-32), 3) := by decide +kernel
theorem dX12_longest_39 : decode cX12_longest 39 = .ok (.iload_n 1, 1) := by decide +kernel
theorem dX12_longest_40 : decode cX12_longest 40 = .ok (.ireturn, 1) := by decide +kernel
set_option maxRecDepth 20000 in
theorem ggX12_build_X12_within : GoodIn wsX12_build wsX12_within := goodIn_r _ [18] (by decide +kernel) (by decide +kernel)
set_option maxRecDepth 20000 in
theorem gX12_build_X12_within : GoodIn wsX12_build (va_wsS RX12 99 yX12_within wsX12_within) := goodIn_app (goodIn_of _ (by decide +kernel)) ggX12_build_X12_within
set_option maxRecDepth 20000 in
theorem ggX12_build_X12_findUsed : GoodIn wsX12_build wsX12_findUsed := goodIn_r _ [22, 5, 9, 11, 12, 23, 24, 25, 17, 26, 2, 27, 87, 88, 89, 90, 91, 92, 93, 94, 95, 96, 97, 98, 99, 100, 101, 102, 103, 104, 105, 106, 107, 108, 109, 110, 111, 112, 113, 114, 115, 116, 117, 118, 119, 120, 121, 122, 123, 124, 125] (by decide +kernel) (by decide +kernel)
set_option maxRecDepth 20000 in
theorem gX12_build_X12_findUsed : GoodIn wsX12_build (wsV RX12 134 RX12 yX12_findUsed wsX12_findUsed) := goodIn_app (goodIn_of _ (by decide +kernel)) ggX12_build_X12_findUsed
set_option maxRecDepth 20000 in
theorem ggX12_build_X12_byHeap : GoodIn wsX12_build wsX12_byHeap := goodIn_r _ [31, 5, 32, 12, 33, 34, 35, 36, 17, 37, 38, 39, 40, 41, 7, 87, 88, 89, 90, 91, 92, 93, 94, 95, 96, 97, 98, 99, 100, 101, 102, 103, 104, 105, 106, 107, 108, 109, 110, 111, 112, 113, 114, 115, 116, 117, 118, 119, 120, 121, 122, 123, 124, 125] (by decide +kernel) (by decide +kernel)
set_option maxRecDepth 20000 in
theorem gX12_build_X12_byHeap : GoodIn wsX12_build (wsV RX12 139 RX12 yX12_byHeap wsX12_byHeap) := goodIn_app (goodIn_of _ (by decide +kernel)) ggX12_build_X12_byHeap
set_option maxRecDepth 20000 in
theorem ggX12_build_X12_byQueues : GoodIn wsX12_build wsX12_byQueues := goodIn_r _ [45, 5, 32, 12, 33, 46, 47, 48, 49, 17, 50, 38, 39, 40, 41, 7, 87, 88, 89, 90, 91, 92, 93, 94, 95, 96, 97, 98, 99, 100, 101, 102, 103, 104, 105, 106, 107, 108, 109, 110, 111, 112, 113, 114, 115, 116, 117, 118, 119, 120, 121, 122, 123, 124, 125] (by decide +kernel) (by decide +kernel)
set_option maxRecDepth 20000 in
theorem gX12_build_X12_byQueues : GoodIn wsX12_build (wsV RX12 142 RX12 yX12_byQueues wsX12_byQueues) := goodIn_app (goodIn_of _ (by decide +kernel)) ggX12_build_X12_byQueues
set_option maxRecDepth 20000 in
theorem ggX12_build_X12_byPackages : GoodIn wsX12_build wsX12_byPackages := goodIn_r _ [54, 4, 55, 5, 56, 12, 46, 57, 7, 47, 48, 49, 17, 50, 87, 88, 89, 90, 91, 92, 93, 94, 95, 96, 97, 98, 99, 100, 101, 102, 103, 104, 105, 106, 107, 108, 109, 110, 111, 112, 113, 114, 115, 116, 117, 118, 119, 120, 121, 122, 123, 124, 125] (by decide +kernel) (by decide +kernel)
set_option maxRecDepth 20000 in
theorem gX12_build_X12_byPackages : GoodIn wsX12_build (wsV RX12 145 RX12 yX12_byPackages wsX12_byPackages) := goodIn_app (goodIn_of _ (by decide +kernel)) ggX12_build_X12_byPackages
set_option maxRecDepth 20000 in
theorem ggX12_build_X12_inOrders : GoodIn wsX12_build wsX12_inOrders := goodIn_r _ [61, 5, 12, 62, 63, 64, 7, 87, 88, 89, 90, 91, 92, 93, 94, 95, 96, 97, 98, 99, 100, 101, 102, 103, 104, 105, 106, 107, 108, 109, 110, 111, 112, 113, 114, 115, 116, 117, 118, 119, 120, 121, 122, 123, 124, 125] (by decide +kernel) (by decide +kernel)
set_option maxRecDepth 20000 in
theorem gX12_build_X12_inOrders : GoodIn wsX12_build (wsV RX12 148 RX12 yX12_inOrders wsX12_inOrders) := goodIn_app (goodIn_of _ (by decide +kernel)) ggX12_build_X12_inOrders
set_option maxRecDepth 20000 in
theorem ggX12_build_X12_byHalves : GoodIn wsX12_build wsX12_byHalves := goodIn_r _ [68, 64, 5, 7, 46, 12, 47, 48, 49, 17, 50, 87, 88, 89, 90, 91, 92, 93, 94, 95, 96, 97, 98, 99, 100, 101, 102, 103, 104, 105, 106, 107, 108, 109, 110, 111, 112, 113, 114, 115, 116, 117, 118, 119, 120, 121, 122, 123, 124, 125] (by decide +kernel) (by decide +kernel)
set_option maxRecDepth 20000 in
theorem gX12_build_X12_byHalves : GoodIn wsX12_build (wsV RX12 151 RX12 yX12_byHalves wsX12_byHalves) := goodIn_app (goodIn_of _ (by decide +kernel)) ggX12_build_X12_byHalves
set_option maxRecDepth 20000 in
theorem ggX12_build_X12_longest : GoodIn wsX12_build wsX12_longest := goodIn_r _ [72, 5, 7, 87, 88, 89, 90, 91, 92, 93, 94, 95, 96, 97, 98, 99, 100, 101, 102, 103, 104, 105, 106, 107, 108, 109, 110, 111, 112, 113, 114, 115, 116, 117, 118, 119, 120, 121, 122, 123, 124, 125] (by decide +kernel) (by decide +kernel)
set_option maxRecDepth 20000 in
theorem gX12_build_X12_longest : GoodIn wsX12_build (wsV RX12 154 RX12 yX12_longest wsX12_longest) := goodIn_app (goodIn_of _ (by decide +kernel)) ggX12_build_X12_longest
set_option maxRecDepth 20000 in
theorem ggX12_build_X12_makeCodes : GoodIn wsX12_build wsX12_makeCodes := goodIn_r _ [76, 77, 13, 9, 10, 78, 79, 80, 81, 17, 82, 83, 84, 85, 86, 87, 88, 89, 90, 91, 92, 93, 94, 95, 96, 97, 98, 99, 100, 101, 102, 103, 104, 105, 106, 107, 108, 109, 110, 111, 112, 113, 114, 115, 116, 117, 118, 119, 120, 121, 122, 123, 124, 125] (by decide +kernel) (by decide +kernel)
set_option maxRecDepth 20000 in
theorem gX12_build_X12_makeCodes : GoodIn wsX12_build (wsV RX12 167 RX12 yX12_makeCodes wsX12_makeCodes) := goodIn_app (goodIn_of _ (by decide +kernel)) ggX12_build_X12_makeCodes
theorem dX12_build_0 : decode cX12_build 0 = .ok (.iload_n 1, 1) := by decide +kernel
theorem dX12_build_1 : decode cX12_build 1 = .ok (.iconst 0, 1) := by decide +kernel
theorem dX12_build_2 : decode cX12_build 2 = .ok (.iconst 4, 1) := by decide +kernel
theorem dX12_build_3 : decode cX12_build 3 = .ok (.invokestatic 99, 3) := by decide +kernel
theorem dX12_build_6 : decode cX12_build 6 = .ok (.ifCond .ne 7, 3) := by decide +kernel
theorem dX12_build_9 : decode cX12_build 9 = .ok (.ldc2_w 130, 3) := by decide +kernel
theorem dX12_build_12 : decode cX12_build 12 = .ok (.lreturn, 1) := by decide +kernel
theorem dX12_build_13 : decode cX12_build 13 = .ok (.aload_n 0, 1) := by decide +kernel
theorem dX12_build_14 : decode cX12_build 14 = .ok (.getfield 107, 3) := by decide +kernel
theorem dX12_build_17 : decode cX12_build 17 = .ok (.ifCond .ne 7, 3) := by decide +kernel
theorem dX12_build_20 : decode cX12_build 20 = .ok (.ldc2_w 132, 3) := by decide +kernel
theorem dX12_build_23 : decode cX12_build 23 = .ok (.lreturn, 1) := by decide +kernel
theorem dX12_build_24 : decode cX12_build 24 = .ok (.aload_n 0, 1) := by decide +kernel
theorem dX12_build_25 : decode cX12_build 25 = .ok (.invokevirtual 134, 3) := by decide +kernel
theorem dX12_build_28 : decode cX12_build 28 = .ok (.iconst 1, 1) := by decide +kernel
theorem dX12_build_29 : decode cX12_build 29 = .ok (.aload_n 0, 1) := by decide +kernel
theorem dX12_build_30 : decode cX12_build 30 = .ok (.getfield 96, 3) := by decide +kernel
theorem dX12_build_33 : decode cX12_build 33 = .ok (.ishl, 1) := by decide +kernel
theorem dX12_build_34 : decode cX12_build 34 = .ok (.aload_n 0, 1) := by decide +kernel
theorem dX12_build_35 : decode cX12_build 35 = .ok (.getfield 116, 3) := by decide +kernel
theorem dX12_build_38 : decode cX12_build 38 = .ok (.if_icmp .ge 7, 3) := by decide +kernel
theorem dX12_build_41 : decode cX12_build 41 = .ok (.ldc2_w 137, 3) := by decide +kernel
theorem dX12_build_44 : decode cX12_build 44 = .ok (.lreturn, 1) := by decide +kernel
theorem dX12_build_45 : decode cX12_build 45 = .ok (.aload_n 0, 1) := by decide +kernel
theorem dX12_build_46 : decode cX12_build 46 = .ok (.getfield 116, 3) := by decide +kernel
theorem dX12_build_49 : decode cX12_build 49 = .ok (.iconst 1, 1) := by decide +kernel
theorem dX12_build_50 : decode cX12_build 50 = .ok (.if_icmp .ne 13, 3) := by decide +kernel
theorem dX12_build_53 : decode cX12_build 53 = .ok (.aload_n 0, 1) := by decide +kernel
theorem dX12_build_54 : decode cX12_build 54 = .ok (.getfield 36, 3) := by decide +kernel
theorem dX12_build_57 : decode cX12_build 57 = .ok (.iconst 0, 1) := by decide +kernel
theorem dX12_build_58 : decode cX12_build 58 = .ok (.iconst 1, 1) := by decide +kernel
theorem dX12_build_59 : decode cX12_build 59 = .ok (.iastore, 1) := by decide +kernel
theorem dX12_build_60 : decode cX12_build 60 = .ok (.goto 54, 3) := by decide +kernel
theorem dX12_build_63 : decode cX12_build 63 = .ok (.iload_n 1, 1) := by decide +kernel
theorem dX12_build_64 : decode cX12_build 64 = .ok (.ifCond .ne 10, 3) := by decide +kernel
theorem dX12_build_67 : decode cX12_build 67 = .ok (.aload_n 0, 1) := by decide +kernel
theorem dX12_build_68 : decode cX12_build 68 = .ok (.invokevirtual 139, 3) := by decide +kernel
theorem dX12_build_71 : decode cX12_build 71 = .ok (.goto 43, 3) := by decide +kernel
theorem dX12_build_74 : decode cX12_build 74 = .ok (.iload_n 1, 1) := by decide +kernel
theorem dX12_build_75 : decode cX12_build 75 = .ok (.iconst 1, 1) := by decide +kernel
theorem dX12_build_76 : decode cX12_build 76 = .ok (.if_icmp .ne 10, 3) := by decide +kernel
theorem dX12_build_79 : decode cX12_build 79 = .ok (.aload_n 0, 1) := by decide +kernel
theorem dX12_build_80 : decode cX12_build 80 = .ok (.invokevirtual 142, 3) := by decide +kernel
theorem dX12_build_83 : decode cX12_build 83 = .ok (.goto 31, 3) := by decide +kernel
theorem dX12_build_86 : decode cX12_build 86 = .ok (.iload_n 1, 1) := by decide +kernel
theorem dX12_build_87 : decode cX12_build 87 = .ok (.iconst 2, 1) := by decide +kernel
theorem dX12_build_88 : decode cX12_build 88 = .ok (.if_icmp .ne 10, 3) := by decide +kernel
theorem dX12_build_91 : decode cX12_build 91 = .ok (.aload_n 0, 1) := by decide +kernel
theorem dX12_build_92 : decode cX12_build 92 = .ok (.invokevirtual 145, 3) := by decide +kernel
theorem dX12_build_95 : decode cX12_build 95 = .ok (.goto 19, 3) := by decide +kernel
theorem dX12_build_98 : decode cX12_build 98 = .ok (.iload_n 1, 1) := by decide +kernel
theorem dX12_build_99 : decode cX12_build 99 = .ok (.iconst 3, 1) := by decide +kernel
theorem dX12_build_100 : decode cX12_build 100 = .ok (.if_icmp .ne 10, 3) := by decide +kernel
theorem dX12_build_103 : decode cX12_build 103 = .ok (.aload_n 0, 1) := by decide +kernel
theorem dX12_build_104 : decode cX12_build 104 = .ok (.invokevirtual 148, 3) := by decide +kernel
theorem dX12_build_107 : decode cX12_build 107 = .ok (.goto 7, 3) := by decide +kernel
theorem dX12_build_110 : decode cX12_build 110 = .ok (.aload_n 0, 1) := by decide +kernel
theorem dX12_build_111 : decode cX12_build 111 = .ok (.invokevirtual 151, 3) := by decide +kernel
theorem dX12_build_114 : decode cX12_build 114 = .ok (.aload_n 0, 1) := by decide +kernel
theorem dX12_build_115 : decode cX12_build 115 = .ok (.invokevirtual 154, 3) := by decide +kernel
theorem dX12_build_118 : decode cX12_build 118 = .ok (.aload_n 0, 1) := by decide +kernel
theorem dX12_build_119 : decode cX12_build 119 = .ok (.getfield 96, 3) := by decide +kernel
theorem dX12_build_122 : decode cX12_build 122 = .ok (.if_icmp .le 16, 3) := by decide +kernel
theorem dX12_build_125 : decode cX12_build 125 = .ok (.iload_n 1, 1) := by decide +kernel
theorem dX12_build_126 : decode cX12_build 126 = .ok (.iconst 2, 1) := by decide +kernel
theorem dX12_build_127 : decode cX12_build 127 = .ok (.if_icmp .le 7, 3) := by decide +kernel
theorem dX12_build_130 : decode cX12_build 130 = .ok (.ldc2_w 158, 3) := by decide +kernel
theorem dX12_build_133 : decode cX12_build 133 = .ok (.lreturn, 1) := by decide +kernel
theorem dX12_build_134 : decode cX12_build 134 = .ok (.aload_n 0, 1) := by decide +kernel
theorem dX12_build_135 : decode cX12_build 135 = .ok (.invokevirtual 145, 3) := by decide +kernel
theorem dX12_build_138 : decode cX12_build 138 = .ok (.iconst 0, 1) := by decide +kernel
theorem dX12_build_139 : decode cX12_build 139 = .ok (.istore_n 2, 1) := by decide +kernel
theorem dX12_build_140 : decode cX12_build 140 = .ok (.iload_n 2, 1) := by decide +kernel
theorem dX12_build_141 : decode cX12_build 141 = .ok (.aload_n 0, 1) := by decide +kernel
theorem dX12_build_142 : decode cX12_build 142 = .ok (.getfield 93, 3) := by decide +kernel
theorem dX12_build_145 : decode cX12_build 145 = .ok (.if_icmp .ge 16, 3) := by decide +kernel
theorem dX12_build_148 : decode cX12_build 148 = .ok (.aload_n 0, 1) := by decide +kernel
theorem dX12_build_149 : decode cX12_build 149 = .ok (.getfield 13, 3) := by decide +kernel
theorem dX12_build_152 : decode cX12_build 152 = .ok (.iload_n 2, 1) := by decide +kernel
theorem dX12_build_153 : decode cX12_build 153 = .ok (.iconst 0, 1) := by decide +kernel
theorem dX12_build_154 : decode cX12_build 154 = .ok (.iastore, 1) := by decide +kernel
theorem dX12_build_155 : decode cX12_build 155 = .ok (.iinc 2 1, 3) := by decide +kernel
theorem dX12_build_158 : decode cX12_build 158 = .ok (.goto (-18), 3) := by decide +kernel
theorem dX12_build_161 : decode cX12_build 161 = .ok (.lconst 0, 1) := by decide +kernel
theorem dX12_build_162 : decode cX12_build 162 = .ok (.lstore_n 2, 1) := by decide +kernel
theorem dX12_build_163 : decode cX12_build 163 = .ok (.iconst 0, 1) := by decide +kernel
theorem dX12_build_164 : decode cX12_build 164 = .ok (.istore 4, 2) := by decide +kernel
theorem dX12_build_166 : decode cX12_build 166 = .ok (.iload 4, 2) := by decide +kernel
theorem dX12_build_168 : decode cX12_build 168 = .ok (.aload_n 0, 1) := by decide +kernel
theorem dX12_build_169 : decode cX12_build 169 = .ok (.getfield 116, 3) := by decide +kernel
theorem dX12_build_172 : decode cX12_build 172 = .ok (.if_icmp .ge 48, 3) := by decide +kernel
theorem dX12_build_175 : decode cX12_build 175 = .ok (.aload_n 0, 1) := by decide +kernel
theorem dX12_build_176 : decode cX12_build 176 = .ok (.getfield 13, 3) := by decide +kernel
theorem dX12_build_179 : decode cX12_build 179 = .ok (.aload_n 0, 1) := by decide +kernel
theorem dX12_build_180 : decode cX12_build 180 = .ok (.getfield 30, 3) := by decide +kernel
theorem dX12_build_183 : decode cX12_build 183 = .ok (.iload 4, 2) := by decide +kernel
theorem dX12_build_185 : decode cX12_build 185 = .ok (.iaload, 1) := by decide +kernel
theorem dX12_build_186 : decode cX12_build 186 = .ok (.aload_n 0, 1) := by decide +kernel
theorem dX12_build_187 : decode cX12_build 187 = .ok (.getfield 36, 3) := by decide +kernel
theorem dX12_build_190 : decode cX12_build 190 = .ok (.iload 4, 2) := by decide +kernel
theorem dX12_build_192 : decode cX12_build 192 = .ok (.iaload, 1) := by decide +kernel
theorem dX12_build_193 : decode cX12_build 193 = .ok (.iastore, 1) := by decide +kernel
theorem dX12_build_194 : decode cX12_build 194 = .ok (.lload_n 2, 1) := by decide +kernel
theorem dX12_build_195 : decode cX12_build 195 = .ok (.aload_n 0, 1) := by decide +kernel
theorem dX12_build_196 : decode cX12_build 196 = .ok (.getfield 33, 3) := by decide +kernel
theorem dX12_build_199 : decode cX12_build 199 = .ok (.iload 4, 2) := by decide +kernel
theorem dX12_build_201 : decode cX12_build 201 = .ok (.iaload, 1) := by decide +kernel
theorem dX12_build_202 : decode cX12_build 202 = .ok (.i2l, 1) := by decide +kernel
theorem dX12_build_203 : decode cX12_build 203 = .ok (.aload_n 0, 1) := by decide +kernel
theorem dX12_build_204 : decode cX12_build 204 = .ok (.getfield 36, 3) := by decide +kernel
theorem dX12_build_207 : decode cX12_build 207 = .ok (.iload 4, 2) := by decide +kernel
theorem dX12_build_209 : decode cX12_build 209 = .ok (.iaload, 1) := by decide +kernel
theorem dX12_build_210 : decode cX12_build 210 = .ok (.i2l, 1) := by decide +kernel
theorem dX12_build_211 : decode cX12_build 211 = .ok (.lmul, 1) := by decide +kernel
theorem dX12_build_212 : decode cX12_build 212 = .ok (.ladd, 1) := by decide +kernel
theorem dX12_build_213 : decode cX12_build 213 = .ok (.lstore_n 2, 1) := by decide +kernel
theorem dX12_build_214 : decode cX12_build 214 = .ok (.iinc 4 1, 3) := by decide +kernel
theorem dX12_build_217 : decode cX12_build 217 = .ok (.goto (-51), 3) := by decide +kernel
theorem dX12_build_220 : decode cX12_build 220 = .ok (.aload_n 0, 1) := by decide +kernel
theorem dX12_build_221 : decode cX12_build 221 = .ok (.iload_n 1, 1) := by decide +kernel
theorem dX12_build_222 : decode cX12_build 222 = .ok (.iconst 3, 1) := by decide +kernel
theorem dX12_build_223 : decode cX12_build 223 = .ok (.if_icmp .ne 7, 3) := by decide +kernel
theorem dX12_build_226 : decode cX12_build 226 = .ok (.iconst 1, 1) := by decide +kernel
theorem dX12_build_227 : decode cX12_build 227 = .ok (.goto 4, 3) := by decide +kernel
theorem dX12_build_230 : decode cX12_build 230 = .ok (.iconst 0, 1) := by decide +kernel
theorem dX12_build_231 : decode cX12_build 231 = .ok (.putfield 160, 3) := by decide +kernel
theorem dX12_build_234 : decode cX12_build 234 = .ok (.aload_n 0, 1) := by decide +kernel
theorem dX12_build_235 : decode cX12_build 235 = .ok (.iconst 1, 1) := by decide +kernel
theorem dX12_build_236 : decode cX12_build 236 = .ok (.putfield 164, 3) := by decide +kernel
theorem dX12_build_239 : decode cX12_build 239 = .ok (.aload_n 0, 1) := by decide +kernel
theorem dX12_build_240 : decode cX12_build 240 = .ok (.invokevirtual 167, 3) := by decide +kernel
theorem dX12_build_243 : decode cX12_build 243 = .ok (.pop, 1) := by decide +kernel
theorem dX12_build_244 : decode cX12_build 244 = .ok (.lload_n 2, 1) := by decide +kernel
theorem dX12_build_245 : decode cX12_build 245 = .ok (.lreturn, 1) := by decide +kernel
theorem dX12_sumOf_0 : decode cX12_sumOf 0 = .ok (.iconst 0, 1) := by decide +kernel
theorem dX12_sumOf_1 : decode cX12_sumOf 1 = .ok (.istore_n 1, 1) := by decide +kernel
theorem dX12_sumOf_2 : decode cX12_sumOf 2 = .ok (.iconst 0, 1) := by decide +kernel
theorem dX12_sumOf_3 : decode cX12_sumOf 3 = .ok (.istore_n 2, 1) := by decide +kernel
theorem dX12_sumOf_4 : decode cX12_sumOf 4 = .ok (.iload_n 2, 1) := by decide +kernel
theorem dX12_sumOf_5 : decode cX12_sumOf 5 = .ok (.aload_n 0, 1) := by decide +kernel
theorem dX12_sumOf_6 : decode cX12_sumOf 6 = .ok (.getfield 93, 3) := by decide +kernel
theorem dX12_sumOf_9 : decode cX12_sumOf 9 = .ok (.if_icmp .ge 42, 3) := by decide +kernel
theorem dX12_sumOf_12 : decode cX12_sumOf 12 = .ok (.iload_n 1, 1) := by decide +kernel
theorem dX12_sumOf_13 : decode cX12_sumOf 13 = .ok (.ldc 171, 2) := by decide +kernel
theorem dX12_sumOf_15 : decode cX12_sumOf 15 = .ok (.if_icmp .gt 36, 3) := by decide +kernel
theorem dX12_sumOf_18 : decode cX12_sumOf 18 = .ok (.iload_n 1, 1) := by decide +kernel
theorem dX12_sumOf_19 : decode cX12_sumOf 19 = .ok (.aload_n 0, 1) := by decide +kernel
theorem dX12_sumOf_20 : decode cX12_sumOf 20 = .ok (.getfield 13, 3) := by decide +kernel
theorem dX12_sumOf_23 : decode cX12_sumOf 23 = .ok (.iload_n 2, 1) := by decide +kernel
theorem dX12_sumOf_24 : decode cX12_sumOf 24 = .ok (.iaload, 1) := by decide +kernel
theorem dX12_sumOf_25 : decode cX12_sumOf 25 = .ok (.ifCond .ne 7, 3) := by decide +kernel
theorem dX12_sumOf_28 : decode cX12_sumOf 28 = .ok (.iconst 0, 1) := by decide +kernel
theorem dX12_sumOf_29 : decode cX12_sumOf 29 = .ok (.goto 14, 3) := by decide +kernel
theorem dX12_sumOf_32 : decode cX12_sumOf 32 = .ok (.iconst 1, 1) := by decide +kernel
theorem dX12_sumOf_33 : decode cX12_sumOf 33 = .ok (.bipush 24, 2) := by decide +kernel
theorem dX12_sumOf_35 : decode cX12_sumOf 35 = .ok (.aload_n 0, 1) := by decide +kernel
theorem dX12_sumOf_36 : decode cX12_sumOf 36 = .ok (.getfield 13, 3) := by decide +kernel
theorem dX12_sumOf_39 : decode cX12_sumOf 39 = .ok (.iload_n 2, 1) := by decide +kernel
theorem dX12_sumOf_40 : decode cX12_sumOf 40 = .ok (.iaload, 1) := by decide +kernel
theorem dX12_sumOf_41 : decode cX12_sumOf 41 = .ok (.isub, 1) := by decide +kernel
theorem dX12_sumOf_42 : decode cX12_sumOf 42 = .ok (.ishl, 1) := by decide +kernel
theorem dX12_sumOf_43 : decode cX12_sumOf 43 = .ok (.iadd, 1) := by decide +kernel
theorem dX12_sumOf_44 : decode cX12_sumOf 44 = .ok (.istore_n 1, 1) := by decide +kernel
theorem dX12_sumOf_45 : decode cX12_sumOf 45 = .ok (.iinc 2 1, 3) := by decide +kernel
theorem dX12_sumOf_48 : decode cX12_sumOf 48 = .ok (.goto (-44), 3) := by decide +kernel
theorem dX12_sumOf_51 : decode cX12_sumOf 51 = .ok (.iload_n 1, 1) := by decide +kernel
theorem dX12_sumOf_52 : decode cX12_sumOf 52 = .ok (.ireturn, 1) := by decide +kernel
