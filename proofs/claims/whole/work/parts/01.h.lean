theorem dX12_push_0 : decode cX12_push 0 = .ok (.iload_n 2, 1) := by decide +kernel
theorem dX12_push_1 : decode cX12_push 1 = .ok (.iconst 1, 1) := by decide +kernel
theorem dX12_push_2 : decode cX12_push 2 = .ok (.bipush 32, 2) := by decide +kernel
theorem dX12_push_4 : decode cX12_push 4 = .ok (.invokestatic 99, 3) := by decide +kernel
theorem dX12_push_7 : decode cX12_push 7 = .ok (.ifCond .ne 5, 3) := by decide +kernel
theorem dX12_push_10 : decode cX12_push 10 = .ok (.iconst (-1), 1) := by decide +kernel
theorem dX12_push_11 : decode cX12_push 11 = .ok (.ireturn, 1) := by decide +kernel
theorem dX12_push_12 : decode cX12_push 12 = .ok (.aload_n 0, 1) := by decide +kernel
theorem dX12_push_13 : decode cX12_push 13 = .ok (.getfield 178, 3) := by decide +kernel
theorem dX12_push_16 : decode cX12_push 16 = .ok (.iload_n 2, 1) := by decide +kernel
theorem dX12_push_17 : decode cX12_push 17 = .ok (.iadd, 1) := by decide +kernel
theorem dX12_push_18 : decode cX12_push 18 = .ok (.sipush 6000, 3) := by decide +kernel
theorem dX12_push_21 : decode cX12_push 21 = .ok (.if_icmp .le 6, 3) := by decide +kernel
theorem dX12_push_24 : decode cX12_push 24 = .ok (.bipush (-2), 2) := by decide +kernel
theorem dX12_push_26 : decode cX12_push 26 = .ok (.ireturn, 1) := by decide +kernel
theorem dX12_push_27 : decode cX12_push 27 = .ok (.aload_n 0, 1) := by decide +kernel
theorem dX12_push_28 : decode cX12_push 28 = .ok (.iload_n 1, 1) := by decide +kernel
theorem dX12_push_29 : decode cX12_push 29 = .ok (.iload_n 2, 1) := by decide +kernel
theorem dX12_push_30 : decode cX12_push 30 = .ok (.invokevirtual 181, 3) := by decide +kernel
theorem dX12_push_33 : decode cX12_push 33 = .ok (.aload_n 0, 1) := by decide +kernel
theorem dX12_push_34 : decode cX12_push 34 = .ok (.getfield 178, 3) := by decide +kernel
theorem dX12_push_37 : decode cX12_push 37 = .ok (.ireturn, 1) := by decide +kernel
set_option maxRecDepth 20000 in
theorem ggX12_cut_X12_within : GoodIn wsX12_cut wsX12_within := goodIn_r _ [5] (by decide +kernel) (by decide +kernel)
set_option maxRecDepth 20000 in
theorem gX12_cut_X12_within : GoodIn wsX12_cut (va_wsS RX12 99 yX12_within wsX12_within) := goodIn_app (goodIn_of _ (by decide +kernel)) ggX12_cut_X12_within
theorem dX12_cut_0 : decode cX12_cut 0 = .ok (.iload_n 1, 1) := by decide +kernel
theorem dX12_cut_1 : decode cX12_cut 1 = .ok (.iconst 0, 1) := by decide +kernel
theorem dX12_cut_2 : decode cX12_cut 2 = .ok (.aload_n 0, 1) := by decide +kernel
theorem dX12_cut_3 : decode cX12_cut 3 = .ok (.getfield 178, 3) := by decide +kernel
theorem dX12_cut_6 : decode cX12_cut 6 = .ok (.invokestatic 99, 3) := by decide +kernel
theorem dX12_cut_9 : decode cX12_cut 9 = .ok (.ifCond .ne 5, 3) := by decide +kernel
theorem dX12_cut_12 : decode cX12_cut 12 = .ok (.iconst (-1), 1) := by decide +kernel
theorem dX12_cut_13 : decode cX12_cut 13 = .ok (.ireturn, 1) := by decide +kernel
theorem dX12_cut_14 : decode cX12_cut 14 = .ok (.aload_n 0, 1) := by decide +kernel
theorem dX12_cut_15 : decode cX12_cut 15 = .ok (.getfield 178, 3) := by decide +kernel
theorem dX12_cut_18 : decode cX12_cut 18 = .ok (.istore_n 2, 1) := by decide +kernel
theorem dX12_cut_19 : decode cX12_cut 19 = .ok (.aload_n 0, 1) := by decide +kernel
theorem dX12_cut_20 : decode cX12_cut 20 = .ok (.iload_n 1, 1) := by decide +kernel
theorem dX12_cut_21 : decode cX12_cut 21 = .ok (.putfield 178, 3) := by decide +kernel
theorem dX12_cut_24 : decode cX12_cut 24 = .ok (.iload_n 2, 1) := by decide +kernel
theorem dX12_cut_25 : decode cX12_cut 25 = .ok (.ireturn, 1) := by decide +kernel
set_option maxRecDepth 20000 in
theorem ggX12_bit_X12_within : GoodIn wsX12_bit wsX12_within := goodIn_r _ [6] (by decide +kernel) (by decide +kernel)
set_option maxRecDepth 20000 in
theorem gX12_bit_X12_within : GoodIn wsX12_bit (va_wsS RX12 99 yX12_within wsX12_within) := goodIn_app (goodIn_of _ (by decide +kernel)) ggX12_bit_X12_within
theorem dX12_bit_0 : decode cX12_bit 0 = .ok (.iload_n 1, 1) := by decide +kernel
theorem dX12_bit_1 : decode cX12_bit 1 = .ok (.iconst 0, 1) := by decide +kernel
theorem dX12_bit_2 : decode cX12_bit 2 = .ok (.aload_n 0, 1) := by decide +kernel
theorem dX12_bit_3 : decode cX12_bit 3 = .ok (.getfield 178, 3) := by decide +kernel
theorem dX12_bit_6 : decode cX12_bit 6 = .ok (.iconst 1, 1) := by decide +kernel
theorem dX12_bit_7 : decode cX12_bit 7 = .ok (.isub, 1) := by decide +kernel
theorem dX12_bit_8 : decode cX12_bit 8 = .ok (.invokestatic 99, 3) := by decide +kernel
theorem dX12_bit_11 : decode cX12_bit 11 = .ok (.ifCond .eq 20, 3) := by decide +kernel
theorem dX12_bit_14 : decode cX12_bit 14 = .ok (.aload_n 0, 1) := by decide +kernel
theorem dX12_bit_15 : decode cX12_bit 15 = .ok (.getfield 19, 3) := by decide +kernel
theorem dX12_bit_18 : decode cX12_bit 18 = .ok (.iload_n 1, 1) := by decide +kernel
theorem dX12_bit_19 : decode cX12_bit 19 = .ok (.baload, 1) := by decide +kernel
theorem dX12_bit_20 : decode cX12_bit 20 = .ok (.ifCond .eq 7, 3) := by decide +kernel
theorem dX12_bit_23 : decode cX12_bit 23 = .ok (.iconst 1, 1) := by decide +kernel
theorem dX12_bit_24 : decode cX12_bit 24 = .ok (.goto 8, 3) := by decide +kernel
theorem dX12_bit_27 : decode cX12_bit 27 = .ok (.iconst 0, 1) := by decide +kernel
theorem dX12_bit_28 : decode cX12_bit 28 = .ok (.goto 4, 3) := by decide +kernel
theorem dX12_bit_31 : decode cX12_bit 31 = .ok (.iconst (-1), 1) := by decide +kernel
theorem dX12_bit_32 : decode cX12_bit 32 = .ok (.ireturn, 1) := by decide +kernel
set_option maxRecDepth 20000 in
theorem ggX12_turn_X12_within : GoodIn wsX12_turn wsX12_within := goodIn_r _ [6] (by decide +kernel) (by decide +kernel)
set_option maxRecDepth 20000 in
theorem gX12_turn_X12_within : GoodIn wsX12_turn (va_wsS RX12 99 yX12_within wsX12_within) := goodIn_app (goodIn_of _ (by decide +kernel)) ggX12_turn_X12_within
theorem dX12_turn_0 : decode cX12_turn 0 = .ok (.iload_n 1, 1) := by decide +kernel
theorem dX12_turn_1 : decode cX12_turn 1 = .ok (.iconst 0, 1) := by decide +kernel
theorem dX12_turn_2 : decode cX12_turn 2 = .ok (.aload_n 0, 1) := by decide +kernel
theorem dX12_turn_3 : decode cX12_turn 3 = .ok (.getfield 178, 3) := by decide +kernel
theorem dX12_turn_6 : decode cX12_turn 6 = .ok (.iconst 1, 1) := by decide +kernel
theorem dX12_turn_7 : decode cX12_turn 7 = .ok (.isub, 1) := by decide +kernel
theorem dX12_turn_8 : decode cX12_turn 8 = .ok (.invokestatic 99, 3) := by decide +kernel
theorem dX12_turn_11 : decode cX12_turn 11 = .ok (.ifCond .ne 5, 3) := by decide +kernel
theorem dX12_turn_14 : decode cX12_turn 14 = .ok (.iconst (-1), 1) := by decide +kernel
theorem dX12_turn_15 : decode cX12_turn 15 = .ok (.ireturn, 1) := by decide +kernel
theorem dX12_turn_16 : decode cX12_turn 16 = .ok (.aload_n 0, 1) := by decide +kernel
theorem dX12_turn_17 : decode cX12_turn 17 = .ok (.getfield 19, 3) := by decide +kernel
theorem dX12_turn_20 : decode cX12_turn 20 = .ok (.iload_n 1, 1) := by decide +kernel
theorem dX12_turn_21 : decode cX12_turn 21 = .ok (.aload_n 0, 1) := by decide +kernel
theorem dX12_turn_22 : decode cX12_turn 22 = .ok (.getfield 19, 3) := by decide +kernel
theorem dX12_turn_25 : decode cX12_turn 25 = .ok (.iload_n 1, 1) := by decide +kernel
theorem dX12_turn_26 : decode cX12_turn 26 = .ok (.baload, 1) := by decide +kernel
theorem dX12_turn_27 : decode cX12_turn 27 = .ok (.ifCond .ne 7, 3) := by decide +kernel
theorem dX12_turn_30 : decode cX12_turn 30 = .ok (.iconst 1, 1) := by decide +kernel
theorem dX12_turn_31 : decode cX12_turn 31 = .ok (.goto 4, 3) := by decide +kernel
theorem dX12_turn_34 : decode cX12_turn 34 = .ok (.iconst 0, 1) := by decide +kernel
theorem dX12_turn_35 : decode cX12_turn 35 = .ok (.bastore, 1) := by decide +kernel
theorem dX12_turn_36 : decode cX12_turn 36 = .ok (.aload_n 0, 1) := by decide +kernel
theorem dX12_turn_37 : decode cX12_turn 37 = .ok (.getfield 19, 3) := by decide +kernel
theorem dX12_turn_40 : decode cX12_turn 40 = .ok (.iload_n 1, 1) := by decide +kernel
theorem dX12_turn_41 : decode cX12_turn 41 = .ok (.baload, 1) := by decide +kernel
theorem dX12_turn_42 : decode cX12_turn 42 = .ok (.ifCond .eq 7, 3) := by decide +kernel
theorem dX12_turn_45 : decode cX12_turn 45 = .ok (.iconst 1, 1) := by decide +kernel
theorem dX12_turn_46 : decode cX12_turn 46 = .ok (.goto 4, 3) := by decide +kernel
theorem dX12_turn_49 : decode cX12_turn 49 = .ok (.iconst 0, 1) := by decide +kernel
theorem dX12_turn_50 : decode cX12_turn 50 = .ok (.ireturn, 1) := by decide +kernel
set_option maxRecDepth 20000 in
theorem ggX12_out_X12_within : GoodIn wsX12_out wsX12_within := goodIn_r _ [6] (by decide +kernel) (by decide +kernel)
set_option maxRecDepth 20000 in
theorem gX12_out_X12_within : GoodIn wsX12_out (va_wsS RX12 99 yX12_within wsX12_within) := goodIn_app (goodIn_of _ (by decide +kernel)) ggX12_out_X12_within
theorem dX12_out_0 : decode cX12_out 0 = .ok (.iload_n 1, 1) := by decide +kernel
theorem dX12_out_1 : decode cX12_out 1 = .ok (.iconst 0, 1) := by decide +kernel
theorem dX12_out_2 : decode cX12_out 2 = .ok (.aload_n 0, 1) := by decide +kernel
theorem dX12_out_3 : decode cX12_out 3 = .ok (.getfield 197, 3) := by decide +kernel
theorem dX12_out_6 : decode cX12_out 6 = .ok (.iconst 1, 1) := by decide +kernel
theorem dX12_out_7 : decode cX12_out 7 = .ok (.isub, 1) := by decide +kernel
theorem dX12_out_8 : decode cX12_out 8 = .ok (.invokestatic 99, 3) := by decide +kernel
theorem dX12_out_11 : decode cX12_out 11 = .ok (.ifCond .eq 12, 3) := by decide +kernel
theorem dX12_out_14 : decode cX12_out 14 = .ok (.aload_n 0, 1) := by decide +kernel
theorem dX12_out_15 : decode cX12_out 15 = .ok (.getfield 23, 3) := by decide +kernel
theorem dX12_out_18 : decode cX12_out 18 = .ok (.iload_n 1, 1) := by decide +kernel
theorem dX12_out_19 : decode cX12_out 19 = .ok (.iaload, 1) := by decide +kernel
theorem dX12_out_20 : decode cX12_out 20 = .ok (.goto 4, 3) := by decide +kernel
theorem dX12_out_23 : decode cX12_out 23 = .ok (.iconst (-1), 1) := by decide +kernel
theorem dX12_out_24 : decode cX12_out 24 = .ok (.ireturn, 1) := by decide +kernel
theorem dX12_place_0 : decode cX12_place 0 = .ok (.aload_n 0, 1) := by decide +kernel
theorem dX12_place_1 : decode cX12_place 1 = .ok (.getfield 26, 3) := by decide +kernel
theorem dX12_place_4 : decode cX12_place 4 = .ok (.ireturn, 1) := by decide +kernel
theorem dX12_beginning_0 : decode cX12_beginning 0 = .ok (.iconst 0, 1) := by decide +kernel
theorem dX12_beginning_1 : decode cX12_beginning 1 = .ok (.istore_n 3, 1) := by decide +kernel
theorem dX12_beginning_2 : decode cX12_beginning 2 = .ok (.iload_n 3, 1) := by decide +kernel
theorem dX12_beginning_3 : decode cX12_beginning 3 = .ok (.aload_n 0, 1) := by decide +kernel
theorem dX12_beginning_4 : decode cX12_beginning 4 = .ok (.getfield 221, 3) := by decide +kernel
theorem dX12_beginning_7 : decode cX12_beginning 7 = .ok (.if_icmp .ge 29, 3) := by decide +kernel
theorem dX12_beginning_10 : decode cX12_beginning 10 = .ok (.aload_n 0, 1) := by decide +kernel
theorem dX12_beginning_11 : decode cX12_beginning 11 = .ok (.getfield 72, 3) := by decide +kernel
theorem dX12_beginning_14 : decode cX12_beginning 14 = .ok (.iload_n 3, 1) := by decide +kernel
theorem dX12_beginning_15 : decode cX12_beginning 15 = .ok (.iaload, 1) := by decide +kernel
theorem dX12_beginning_16 : decode cX12_beginning 16 = .ok (.iload_n 1, 1) := by decide +kernel
theorem dX12_beginning_17 : decode cX12_beginning 17 = .ok (.if_icmp .ne 13, 3) := by decide +kernel
theorem dX12_beginning_20 : decode cX12_beginning 20 = .ok (.aload_n 0, 1) := by decide +kernel
theorem dX12_beginning_21 : decode cX12_beginning 21 = .ok (.getfield 75, 3) := by decide +kernel
theorem dX12_beginning_24 : decode cX12_beginning 24 = .ok (.iload_n 3, 1) := by decide +kernel
theorem dX12_beginning_25 : decode cX12_beginning 25 = .ok (.iaload, 1) := by decide +kernel
theorem dX12_beginning_26 : decode cX12_beginning 26 = .ok (.iload_n 2, 1) := by decide +kernel
theorem dX12_beginning_27 : decode cX12_beginning 27 = .ok (.if_icmp .eq 9, 3) := by decide +kernel
theorem dX12_beginning_30 : decode cX12_beginning 30 = .ok (.iinc 3 1, 3) := by decide +kernel
theorem dX12_beginning_33 : decode cX12_beginning 33 = .ok (.goto (-31), 3) := by decide +kernel
theorem dX12_beginning_36 : decode cX12_beginning 36 = .ok (.iload_n 3, 1) := by decide +kernel
theorem dX12_beginning_37 : decode cX12_beginning 37 = .ok (.ireturn, 1) := by decide +kernel
theorem dX12_isCode_0 : decode cX12_isCode 0 = .ok (.iconst 0, 1) := by decide +kernel
theorem dX12_isCode_1 : decode cX12_isCode 1 = .ok (.istore_n 3, 1) := by decide +kernel
theorem dX12_isCode_2 : decode cX12_isCode 2 = .ok (.iconst 0, 1) := by decide +kernel
theorem dX12_isCode_3 : decode cX12_isCode 3 = .ok (.istore 4, 2) := by decide +kernel
theorem dX12_isCode_5 : decode cX12_isCode 5 = .ok (.iload 4, 2) := by decide +kernel
theorem dX12_isCode_7 : decode cX12_isCode 7 = .ok (.aload_n 0, 1) := by decide +kernel
theorem dX12_isCode_8 : decode cX12_isCode 8 = .ok (.getfield 93, 3) := by decide +kernel
theorem dX12_isCode_11 : decode cX12_isCode 11 = .ok (.if_icmp .ge 45, 3) := by decide +kernel
theorem dX12_isCode_14 : decode cX12_isCode 14 = .ok (.iload_n 3, 1) := by decide +kernel
theorem dX12_isCode_15 : decode cX12_isCode 15 = .ok (.ifCond .ne 29, 3) := by decide +kernel
theorem dX12_isCode_18 : decode cX12_isCode 18 = .ok (.aload_n 0, 1) := by decide +kernel
theorem dX12_isCode_19 : decode cX12_isCode 19 = .ok (.getfield 13, 3) := by decide +kernel
theorem dX12_isCode_22 : decode cX12_isCode 22 = .ok (.iload 4, 2) := by decide +kernel
theorem dX12_isCode_24 : decode cX12_isCode 24 = .ok (.iaload, 1) := by decide +kernel
theorem dX12_isCode_25 : decode cX12_isCode 25 = .ok (.iload_n 2, 1) := by decide +kernel
theorem dX12_isCode_26 : decode cX12_isCode 26 = .ok (.if_icmp .ne 22, 3) := by decide +kernel
theorem dX12_isCode_29 : decode cX12_isCode 29 = .ok (.iload_n 2, 1) := by decide +kernel
theorem dX12_isCode_30 : decode cX12_isCode 30 = .ok (.ifCond .le 18, 3) := by decide +kernel
theorem dX12_isCode_33 : decode cX12_isCode 33 = .ok (.aload_n 0, 1) := by decide +kernel
theorem dX12_isCode_34 : decode cX12_isCode 34 = .ok (.getfield 16, 3) := by decide +kernel
theorem dX12_isCode_37 : decode cX12_isCode 37 = .ok (.iload 4, 2) := by decide +kernel
theorem dX12_isCode_39 : decode cX12_isCode 39 = .ok (.iaload, 1) := by decide +kernel
theorem dX12_isCode_40 : decode cX12_isCode 40 = .ok (.iload_n 1, 1) := by decide +kernel
theorem dX12_isCode_41 : decode cX12_isCode 41 = .ok (.if_icmp .ne 7, 3) := by decide +kernel
theorem dX12_isCode_44 : decode cX12_isCode 44 = .ok (.iconst 1, 1) := by decide +kernel
theorem dX12_isCode_45 : decode cX12_isCode 45 = .ok (.goto 4, 3) := by decide +kernel
theorem dX12_isCode_48 : decode cX12_isCode 48 = .ok (.iconst 0, 1) := by decide +kernel
theorem dX12_isCode_49 : decode cX12_isCode 49 = .ok (.istore_n 3, 1) := by decide +kernel
theorem dX12_isCode_50 : decode cX12_isCode 50 = .ok (.iinc 4 1, 3) := by decide +kernel
theorem dX12_isCode_53 : decode cX12_isCode 53 = .ok (.goto (-48), 3) := by decide +kernel
theorem dX12_isCode_56 : decode cX12_isCode 56 = .ok (.iload_n 3, 1) := by decide +kernel
theorem dX12_isCode_57 : decode cX12_isCode 57 = .ok (.ireturn, 1) := by decide +kernel
set_option maxRecDepth 20000 in
theorem ggX12_findBeginnings_X12_beginning : GoodIn wsX12_findBeginnings wsX12_beginning := goodIn_r _ [12, 1, 2, 3, 17, 18, 19, 20, 21, 22, 23, 24, 25, 26, 27, 28, 29, 30, 31, 32, 33, 34, 35, 36, 37, 38, 39, 40, 41, 42, 43, 44, 45, 46, 47, 48, 49, 50, 51, 52, 53, 54, 55] (by decide +kernel) (by decide +kernel)
set_option maxRecDepth 20000 in
theorem gX12_findBeginnings_X12_beginning : GoodIn wsX12_findBeginnings (wsV RX12 224 RX12 yX12_beginning wsX12_beginning) := goodIn_app (goodIn_of _ (by decide +kernel)) ggX12_findBeginnings_X12_beginning
set_option maxRecDepth 20000 in
theorem ggX12_findBeginnings_X12_isCode : GoodIn wsX12_findBeginnings wsX12_isCode := goodIn_r _ [16, 4, 5, 6, 17, 18, 19, 20, 21, 22, 23, 24, 25, 26, 27, 28, 29, 30, 31, 32, 33, 34, 35, 36, 37, 38, 39, 40, 41, 42, 43, 44, 45, 46, 47, 48, 49, 50, 51, 52, 53, 54, 55] (by decide +kernel) (by decide +kernel)
set_option maxRecDepth 20000 in
theorem gX12_findBeginnings_X12_isCode : GoodIn wsX12_findBeginnings (wsV RX12 227 RX12 yX12_isCode wsX12_isCode) := goodIn_app (goodIn_of _ (by decide +kernel)) ggX12_findBeginnings_X12_isCode
theorem dX12_findBeginnings_0 : decode cX12_findBeginnings 0 = .ok (.aload_n 0, 1) := by decide +kernel
theorem dX12_findBeginnings_1 : decode cX12_findBeginnings 1 = .ok (.iconst 1, 1) := by decide +kernel
theorem dX12_findBeginnings_2 : decode cX12_findBeginnings 2 = .ok (.putfield 221, 3) := by decide +kernel
theorem dX12_findBeginnings_5 : decode cX12_findBeginnings 5 = .ok (.aload_n 0, 1) := by decide +kernel
theorem dX12_findBeginnings_6 : decode cX12_findBeginnings 6 = .ok (.getfield 72, 3) := by decide +kernel
theorem dX12_findBeginnings_9 : decode cX12_findBeginnings 9 = .ok (.iconst 0, 1) := by decide +kernel
theorem dX12_findBeginnings_10 : decode cX12_findBeginnings 10 = .ok (.iconst 0, 1) := by decide +kernel
theorem dX12_findBeginnings_11 : decode cX12_findBeginnings 11 = .ok (.iastore, 1) := by decide +kernel
theorem dX12_findBeginnings_12 : decode cX12_findBeginnings 12 = .ok (.aload_n 0, 1) := by decide +kernel
theorem dX12_findBeginnings_13 : decode cX12_findBeginnings 13 = .ok (.getfield 75, 3) := by decide +kernel
theorem dX12_findBeginnings_16 : decode cX12_findBeginnings 16 = .ok (.iconst 0, 1) := by decide +kernel
theorem dX12_findBeginnings_17 : decode cX12_findBeginnings 17 = .ok (.iconst 0, 1) := by decide +kernel
theorem dX12_findBeginnings_18 : decode cX12_findBeginnings 18 = .ok (.iastore, 1) := by decide +kernel
theorem dX12_findBeginnings_19 : decode cX12_findBeginnings 19 = .ok (.iconst 0, 1) := by decide +kernel
theorem dX12_findBeginnings_20 : decode cX12_findBeginnings 20 = .ok (.istore_n 1, 1) := by decide +kernel
theorem dX12_findBeginnings_21 : decode cX12_findBeginnings 21 = .ok (.iload_n 1, 1) := by decide +kernel
theorem dX12_findBeginnings_22 : decode cX12_findBeginnings 22 = .ok (.aload_n 0, 1) := by decide +kernel
theorem dX12_findBeginnings_23 : decode cX12_findBeginnings 23 = .ok (.getfield 93, 3) := by decide +kernel
theorem dX12_findBeginnings_26 : decode cX12_findBeginnings 26 = .ok (.if_icmp .ge 86, 3) := by decide +kernel
theorem dX12_findBeginnings_29 : decode cX12_findBeginnings 29 = .ok (.iconst 1, 1) := by decide +kernel
theorem dX12_findBeginnings_30 : decode cX12_findBeginnings 30 = .ok (.istore_n 2, 1) := by decide +kernel
theorem dX12_findBeginnings_31 : decode cX12_findBeginnings 31 = .ok (.iload_n 2, 1) := by decide +kernel
theorem dX12_findBeginnings_32 : decode cX12_findBeginnings 32 = .ok (.aload_n 0, 1) := by decide +kernel
theorem dX12_findBeginnings_33 : decode cX12_findBeginnings 33 = .ok (.getfield 13, 3) := by decide +kernel
theorem dX12_findBeginnings_36 : decode cX12_findBeginnings 36 = .ok (.iload_n 1, 1) := by decide +kernel
theorem dX12_findBeginnings_37 : decode cX12_findBeginnings 37 = .ok (.iaload, 1) := by decide +kernel
theorem dX12_findBeginnings_38 : decode cX12_findBeginnings 38 = .ok (.if_icmp .ge 68, 3) := by decide +kernel
theorem dX12_findBeginnings_41 : decode cX12_findBeginnings 41 = .ok (.aload_n 0, 1) := by decide +kernel
theorem dX12_findBeginnings_42 : decode cX12_findBeginnings 42 = .ok (.getfield 16, 3) := by decide +kernel
theorem dX12_findBeginnings_45 : decode cX12_findBeginnings 45 = .ok (.iload_n 1, 1) := by decide +kernel
theorem dX12_findBeginnings_46 : decode cX12_findBeginnings 46 = .ok (.iaload, 1) := by decide +kernel
theorem dX12_findBeginnings_47 : decode cX12_findBeginnings 47 = .ok (.aload_n 0, 1) := by decide +kernel
theorem dX12_findBeginnings_48 : decode cX12_findBeginnings 48 = .ok (.getfield 13, 3) := by decide +kernel
theorem dX12_findBeginnings_51 : decode cX12_findBeginnings 51 = .ok (.iload_n 1, 1) := by decide +kernel
theorem dX12_findBeginnings_52 : decode cX12_findBeginnings 52 = .ok (.iaload, 1) := by decide +kernel
theorem dX12_findBeginnings_53 : decode cX12_findBeginnings 53 = .ok (.iload_n 2, 1) := by decide +kernel
theorem dX12_findBeginnings_54 : decode cX12_findBeginnings 54 = .ok (.isub, 1) := by decide +kernel
theorem dX12_findBeginnings_55 : decode cX12_findBeginnings 55 = .ok (.ishr, 1) := by decide +kernel
theorem dX12_findBeginnings_56 : decode cX12_findBeginnings 56 = .ok (.istore_n 3, 1) := by decide +kernel
theorem dX12_findBeginnings_57 : decode cX12_findBeginnings 57 = .ok (.aload_n 0, 1) := by decide +kernel
theorem dX12_findBeginnings_58 : decode cX12_findBeginnings 58 = .ok (.iload_n 3, 1) := by decide +kernel
theorem dX12_findBeginnings_59 : decode cX12_findBeginnings 59 = .ok (.iload_n 2, 1) := by decide +kernel
theorem dX12_findBeginnings_60 : decode cX12_findBeginnings 60 = .ok (.invokevirtual 224, 3) := by decide +kernel
theorem dX12_findBeginnings_63 : decode cX12_findBeginnings 63 = .ok (.aload_n 0, 1) := by decide +kernel
theorem dX12_findBeginnings_64 : decode cX12_findBeginnings 64 = .ok (.getfield 221, 3) := by decide +kernel
theorem dX12_findBeginnings_67 : decode cX12_findBeginnings 67 = .ok (.if_icmp .ne 33, 3) := by decide +kernel
theorem dX12_findBeginnings_70 : decode cX12_findBeginnings 70 = .ok (.aload_n 0, 1) := by decide +kernel
theorem dX12_findBeginnings_71 : decode cX12_findBeginnings 71 = .ok (.getfield 72, 3) := by decide +kernel
theorem dX12_findBeginnings_74 : decode cX12_findBeginnings 74 = .ok (.aload_n 0, 1) := by decide +kernel
theorem dX12_findBeginnings_75 : decode cX12_findBeginnings 75 = .ok (.getfield 221, 3) := by decide +kernel
theorem dX12_findBeginnings_78 : decode cX12_findBeginnings 78 = .ok (.iload_n 3, 1) := by decide +kernel
theorem dX12_findBeginnings_79 : decode cX12_findBeginnings 79 = .ok (.iastore, 1) := by decide +kernel
theorem dX12_findBeginnings_80 : decode cX12_findBeginnings 80 = .ok (.aload_n 0, 1) := by decide +kernel
theorem dX12_findBeginnings_81 : decode cX12_findBeginnings 81 = .ok (.getfield 75, 3) := by decide +kernel
theorem dX12_findBeginnings_84 : decode cX12_findBeginnings 84 = .ok (.aload_n 0, 1) := by decide +kernel
theorem dX12_findBeginnings_85 : decode cX12_findBeginnings 85 = .ok (.getfield 221, 3) := by decide +kernel
theorem dX12_findBeginnings_88 : decode cX12_findBeginnings 88 = .ok (.iload_n 2, 1) := by decide +kernel
theorem dX12_findBeginnings_89 : decode cX12_findBeginnings 89 = .ok (.iastore, 1) := by decide +kernel
theorem dX12_findBeginnings_90 : decode cX12_findBeginnings 90 = .ok (.aload_n 0, 1) := by decide +kernel
theorem dX12_findBeginnings_91 : decode cX12_findBeginnings 91 = .ok (.dup, 1) := by decide +kernel
theorem dX12_findBeginnings_92 : decode cX12_findBeginnings 92 = .ok (.getfield 221, 3) := by decide +kernel
theorem dX12_findBeginnings_95 : decode cX12_findBeginnings 95 = .ok (.iconst 1, 1) := by decide +kernel
theorem dX12_findBeginnings_96 : decode cX12_findBeginnings 96 = .ok (.iadd, 1) := by decide +kernel
theorem dX12_findBeginnings_97 : decode cX12_findBeginnings 97 = .ok (.putfield 221, 3) := by decide +kernel
theorem dX12_findBeginnings_100 : decode cX12_findBeginnings 100 = .ok (.iinc 2 1, 3) := by decide +kernel
theorem dX12_findBeginnings_103 : decode cX12_findBeginnings 103 = .ok (.goto (-72), 3) := by decide +kernel
theorem dX12_findBeginnings_106 : decode cX12_findBeginnings 106 = .ok (.iinc 1 1, 3) := by decide +kernel
theorem dX12_findBeginnings_109 : decode cX12_findBeginnings 109 = .ok (.goto (-88), 3) := by decide +kernel
theorem dX12_findBeginnings_112 : decode cX12_findBeginnings 112 = .ok (.iconst 0, 1) := by decide +kernel
theorem dX12_findBeginnings_113 : decode cX12_findBeginnings 113 = .ok (.istore_n 1, 1) := by decide +kernel
theorem dX12_findBeginnings_114 : decode cX12_findBeginnings 114 = .ok (.iload_n 1, 1) := by decide +kernel
theorem dX12_findBeginnings_115 : decode cX12_findBeginnings 115 = .ok (.aload_n 0, 1) := by decide +kernel
theorem dX12_findBeginnings_116 : decode cX12_findBeginnings 116 = .ok (.getfield 221, 3) := by decide +kernel
theorem dX12_findBeginnings_119 : decode cX12_findBeginnings 119 = .ok (.if_icmp .ge 76, 3) := by decide +kernel
theorem dX12_findBeginnings_122 : decode cX12_findBeginnings 122 = .ok (.iconst 0, 1) := by decide +kernel
theorem dX12_findBeginnings_123 : decode cX12_findBeginnings 123 = .ok (.istore_n 2, 1) := by decide +kernel
theorem dX12_findBeginnings_124 : decode cX12_findBeginnings 124 = .ok (.iload_n 2, 1) := by decide +kernel
theorem dX12_findBeginnings_125 : decode cX12_findBeginnings 125 = .ok (.iconst 2, 1) := by decide +kernel
theorem dX12_findBeginnings_126 : decode cX12_findBeginnings 126 = .ok (.if_icmp .ge 63, 3) := by decide +kernel
theorem dX12_findBeginnings_129 : decode cX12_findBeginnings 129 = .ok (.iconst 2, 1) := by decide +kernel
theorem dX12_findBeginnings_130 : decode cX12_findBeginnings 130 = .ok (.aload_n 0, 1) := by decide +kernel
theorem dX12_findBeginnings_131 : decode cX12_findBeginnings 131 = .ok (.getfield 72, 3) := by decide +kernel
theorem dX12_findBeginnings_134 : decode cX12_findBeginnings 134 = .ok (.iload_n 1, 1) := by decide +kernel
theorem dX12_findBeginnings_135 : decode cX12_findBeginnings 135 = .ok (.iaload, 1) := by decide +kernel
theorem dX12_findBeginnings_136 : decode cX12_findBeginnings 136 = .ok (.imul, 1) := by decide +kernel
theorem dX12_findBeginnings_137 : decode cX12_findBeginnings 137 = .ok (.iload_n 2, 1) := by decide +kernel
theorem dX12_findBeginnings_138 : decode cX12_findBeginnings 138 = .ok (.iadd, 1) := by decide +kernel
theorem dX12_findBeginnings_139 : decode cX12_findBeginnings 139 = .ok (.istore_n 3, 1) := by decide +kernel
theorem dX12_findBeginnings_140 : decode cX12_findBeginnings 140 = .ok (.aload_n 0, 1) := by decide +kernel
theorem dX12_findBeginnings_141 : decode cX12_findBeginnings 141 = .ok (.getfield 78, 3) := by decide +kernel
theorem dX12_findBeginnings_144 : decode cX12_findBeginnings 144 = .ok (.iconst 2, 1) := by decide +kernel
theorem dX12_findBeginnings_145 : decode cX12_findBeginnings 145 = .ok (.iload_n 1, 1) := by decide +kernel
theorem dX12_findBeginnings_146 : decode cX12_findBeginnings 146 = .ok (.imul, 1) := by decide +kernel
theorem dX12_findBeginnings_147 : decode cX12_findBeginnings 147 = .ok (.iload_n 2, 1) := by decide +kernel
theorem dX12_findBeginnings_148 : decode cX12_findBeginnings 148 = .ok (.iadd, 1) := by decide +kernel
theorem dX12_findBeginnings_149 : decode cX12_findBeginnings 149 = .ok (.aload_n 0, 1) := by decide +kernel
theorem dX12_findBeginnings_150 : decode cX12_findBeginnings 150 = .ok (.iload_n 3, 1) := by decide +kernel
theorem dX12_findBeginnings_151 : decode cX12_findBeginnings 151 = .ok (.aload_n 0, 1) := by decide +kernel
theorem dX12_findBeginnings_152 : decode cX12_findBeginnings 152 = .ok (.getfield 75, 3) := by decide +kernel
theorem dX12_findBeginnings_155 : decode cX12_findBeginnings 155 = .ok (.iload_n 1, 1) := by decide +kernel
theorem dX12_findBeginnings_156 : decode cX12_findBeginnings 156 = .ok (.iaload, 1) := by decide +kernel
theorem dX12_findBeginnings_157 : decode cX12_findBeginnings 157 = .ok (.iconst 1, 1) := by decide +kernel
theorem dX12_findBeginnings_158 : decode cX12_findBeginnings 158 = .ok (.iadd, 1) := by decide +kernel
theorem dX12_findBeginnings_159 : decode cX12_findBeginnings 159 = .ok (.invokevirtual 227, 3) := by decide +kernel
theorem dX12_findBeginnings_162 : decode cX12_findBeginnings 162 = .ok (.ifCond .eq 7, 3) := by decide +kernel
theorem dX12_findBeginnings_165 : decode cX12_findBeginnings 165 = .ok (.iconst 0, 1) := by decide +kernel
theorem dX12_findBeginnings_166 : decode cX12_findBeginnings 166 = .ok (.goto 16, 3) := by decide +kernel
theorem dX12_findBeginnings_169 : decode cX12_findBeginnings 169 = .ok (.aload_n 0, 1) := by decide +kernel
theorem dX12_findBeginnings_170 : decode cX12_findBeginnings 170 = .ok (.iload_n 3, 1) := by decide +kernel
theorem dX12_findBeginnings_171 : decode cX12_findBeginnings 171 = .ok (.aload_n 0, 1) := by decide +kernel
theorem dX12_findBeginnings_172 : decode cX12_findBeginnings 172 = .ok (.getfield 75, 3) := by decide +kernel
theorem dX12_findBeginnings_175 : decode cX12_findBeginnings 175 = .ok (.iload_n 1, 1) := by decide +kernel
theorem dX12_findBeginnings_176 : decode cX12_findBeginnings 176 = .ok (.iaload, 1) := by decide +kernel
theorem dX12_findBeginnings_177 : decode cX12_findBeginnings 177 = .ok (.iconst 1, 1) := by decide +kernel
theorem dX12_findBeginnings_178 : decode cX12_findBeginnings 178 = .ok (.iadd, 1) := by decide +kernel
theorem dX12_findBeginnings_179 : decode cX12_findBeginnings 179 = .ok (.invokevirtual 224, 3) := by decide +kernel
theorem dX12_findBeginnings_182 : decode cX12_findBeginnings 182 = .ok (.iastore, 1) := by decide +kernel
theorem dX12_findBeginnings_183 : decode cX12_findBeginnings 183 = .ok (.iinc 2 1, 3) := by decide +kernel
theorem dX12_findBeginnings_186 : decode cX12_findBeginnings 186 = .ok (.goto (-62), 3) := by decide +kernel
theorem dX12_findBeginnings_189 : decode cX12_findBeginnings 189 = .ok (.iinc 1 1, 3) := by decide +kernel
theorem dX12_findBeginnings_192 : decode cX12_findBeginnings 192 = .ok (.goto (-78), 3) := by decide +kernel
theorem dX12_findBeginnings_195 : decode cX12_findBeginnings 195 = .ok (.return_, 1) := by decide +kernel
theorem dX12_step_0 : decode cX12_step 0 = .ok (.iconst 0, 1) := by decide +kernel
theorem dX12_step_1 : decode cX12_step 1 = .ok (.istore_n 3, 1) := by decide +kernel
theorem dX12_step_2 : decode cX12_step 2 = .ok (.iconst 0, 1) := by decide +kernel
theorem dX12_step_3 : decode cX12_step 3 = .ok (.istore 4, 2) := by decide +kernel
theorem dX12_step_5 : decode cX12_step 5 = .ok (.iload 4, 2) := by decide +kernel
theorem dX12_step_7 : decode cX12_step 7 = .ok (.aload_n 0, 1) := by decide +kernel
theorem dX12_step_8 : decode cX12_step 8 = .ok (.getfield 221, 3) := by decide +kernel
theorem dX12_step_11 : decode cX12_step 11 = .ok (.if_icmp .ge 39, 3) := by decide +kernel
theorem dX12_step_14 : decode cX12_step 14 = .ok (.iload_n 3, 1) := by decide +kernel
theorem dX12_step_15 : decode cX12_step 15 = .ok (.iload_n 1, 1) := by decide +kernel
theorem dX12_step_16 : decode cX12_step 16 = .ok (.iload 4, 2) := by decide +kernel
theorem dX12_step_18 : decode cX12_step 18 = .ok (.ishr, 1) := by decide +kernel
theorem dX12_step_19 : decode cX12_step 19 = .ok (.iconst 1, 1) := by decide +kernel
theorem dX12_step_20 : decode cX12_step 20 = .ok (.iand, 1) := by decide +kernel
theorem dX12_step_21 : decode cX12_step 21 = .ok (.iconst 1, 1) := by decide +kernel
theorem dX12_step_22 : decode cX12_step 22 = .ok (.if_icmp .ne 19, 3) := by decide +kernel
theorem dX12_step_25 : decode cX12_step 25 = .ok (.iconst 1, 1) := by decide +kernel
theorem dX12_step_26 : decode cX12_step 26 = .ok (.aload_n 0, 1) := by decide +kernel
theorem dX12_step_27 : decode cX12_step 27 = .ok (.getfield 78, 3) := by decide +kernel
theorem dX12_step_30 : decode cX12_step 30 = .ok (.iconst 2, 1) := by decide +kernel
theorem dX12_step_31 : decode cX12_step 31 = .ok (.iload 4, 2) := by decide +kernel
theorem dX12_step_33 : decode cX12_step 33 = .ok (.imul, 1) := by decide +kernel
theorem dX12_step_34 : decode cX12_step 34 = .ok (.iload_n 2, 1) := by decide +kernel
theorem dX12_step_35 : decode cX12_step 35 = .ok (.iadd, 1) := by decide +kernel
theorem dX12_step_36 : decode cX12_step 36 = .ok (.iaload, 1) := by decide +kernel
theorem dX12_step_37 : decode cX12_step 37 = .ok (.ishl, 1) := by decide +kernel
theorem dX12_step_38 : decode cX12_step 38 = .ok (.goto 4, 3) := by decide +kernel
theorem dX12_step_41 : decode cX12_step 41 = .ok (.iconst 0, 1) := by decide +kernel
theorem dX12_step_42 : decode cX12_step 42 = .ok (.ior, 1) := by decide +kernel
theorem dX12_step_43 : decode cX12_step 43 = .ok (.istore_n 3, 1) := by decide +kernel
theorem dX12_step_44 : decode cX12_step 44 = .ok (.iinc 4 1, 3) := by decide +kernel
theorem dX12_step_47 : decode cX12_step 47 = .ok (.goto (-42), 3) := by decide +kernel
theorem dX12_step_50 : decode cX12_step 50 = .ok (.iload_n 3, 1) := by decide +kernel
theorem dX12_step_51 : decode cX12_step 51 = .ok (.ireturn, 1) := by decide +kernel
set_option maxRecDepth 20000 in
theorem ggX12_key_X12_codesThere : GoodIn wsX12_key wsX12_codesThere := goodIn_r _ [12, 13, 14, 47, 48, 49, 50, 51, 52, 53, 54, 55, 56, 57, 58, 59, 60, 61, 62, 63, 64, 65, 66, 67, 68, 69, 70, 71, 72, 73, 74, 75, 76, 77, 78, 79, 80, 81, 82, 83, 84, 85] (by decide +kernel) (by decide +kernel)
set_option maxRecDepth 20000 in
theorem gX12_key_X12_codesThere : GoodIn wsX12_key (wsV RX12 172 RX12 yX12_codesThere wsX12_codesThere) := goodIn_app (goodIn_of _ (by decide +kernel)) ggX12_key_X12_codesThere
set_option maxRecDepth 20000 in
theorem ggX12_key_X12_sumOf : GoodIn wsX12_key wsX12_sumOf := goodIn_r _ [18, 13, 3, 14, 47, 48, 49, 50, 51, 52, 53, 54, 55, 56, 57, 58, 59, 60, 61, 62, 63, 64, 65, 66, 67, 68, 69, 70, 71, 72, 73, 74, 75, 76, 77, 78, 79, 80, 81, 82, 83, 84, 85] (by decide +kernel) (by decide +kernel)
set_option maxRecDepth 20000 in
theorem gX12_key_X12_sumOf : GoodIn wsX12_key (wsV RX12 175 RX12 yX12_sumOf wsX12_sumOf) := goodIn_app (goodIn_of _ (by decide +kernel)) ggX12_key_X12_sumOf
set_option maxRecDepth 20000 in
theorem ggX12_key_X12_within : GoodIn wsX12_key wsX12_within := goodIn_r _ [21] (by decide +kernel) (by decide +kernel)
set_option maxRecDepth 20000 in
theorem gX12_key_X12_within : GoodIn wsX12_key (va_wsS RX12 99 yX12_within wsX12_within) := goodIn_app (goodIn_of _ (by decide +kernel)) ggX12_key_X12_within
set_option maxRecDepth 20000 in
theorem ggX12_key_X12_findBeginnings : GoodIn wsX12_key wsX12_findBeginnings := goodIn_r _ [25, 5, 26, 27, 13, 14, 28, 29, 30, 31, 32, 11, 33, 34, 35, 36, 37, 47, 48, 49, 50, 51, 52, 53, 54, 55, 56, 57, 58, 59, 60, 61, 62, 63, 64, 65, 66, 67, 68, 69, 70, 71, 72, 73, 74, 75, 76, 77, 78, 79, 80, 81, 82, 83, 84, 85] (by decide +kernel) (by decide +kernel)
set_option maxRecDepth 20000 in
theorem gX12_key_X12_findBeginnings : GoodIn wsX12_key (wsV RX12 234 RX12 yX12_findBeginnings wsX12_findBeginnings) := goodIn_app (goodIn_of _ (by decide +kernel)) ggX12_key_X12_findBeginnings
set_option maxRecDepth 20000 in
theorem ggX12_key_X12_step : GoodIn wsX12_key wsX12_step := goodIn_r _ [41, 5, 29, 47, 48, 49, 50, 51, 52, 53, 54, 55, 56, 57, 58, 59, 60, 61, 62, 63, 64, 65, 66, 67, 68, 69, 70, 71, 72, 73, 74, 75, 76, 77, 78, 79, 80, 81, 82, 83, 84, 85] (by decide +kernel) (by decide +kernel)
set_option maxRecDepth 20000 in
theorem gX12_key_X12_step : GoodIn wsX12_key (wsV RX12 237 RX12 yX12_step wsX12_step) := goodIn_app (goodIn_of _ (by decide +kernel)) ggX12_key_X12_step
set_option maxRecDepth 20000 in
theorem ggX12_key_X12_tellKey : GoodIn wsX12_key wsX12_tellKey := goodIn_r _ [45, 4, 1, 46, 7, 47, 48, 49, 50, 51, 52, 53, 54, 55, 56, 57, 58, 59, 60, 61, 62, 63, 64, 65, 66, 67, 68, 69, 70, 71, 72, 73, 74, 75, 76, 77, 78, 79, 80, 81, 82, 83, 84, 85] (by decide +kernel) (by decide +kernel)
set_option maxRecDepth 20000 in
theorem gX12_key_X12_tellKey : GoodIn wsX12_key (wsV RX12 240 RX12 yX12_tellKey wsX12_tellKey) := goodIn_app (goodIn_of _ (by decide +kernel)) ggX12_key_X12_tellKey
theorem dX12_key_0 : decode cX12_key 0 = .ok (.aload_n 0, 1) := by decide +kernel
theorem dX12_key_1 : decode cX12_key 1 = .ok (.iconst 0, 1) := by decide +kernel
theorem dX12_key_2 : decode cX12_key 2 = .ok (.putfield 231, 3) := by decide +kernel
theorem dX12_key_5 : decode cX12_key 5 = .ok (.aload_n 0, 1) := by decide +kernel
theorem dX12_key_6 : decode cX12_key 6 = .ok (.invokevirtual 172, 3) := by decide +kernel
theorem dX12_key_9 : decode cX12_key 9 = .ok (.istore_n 1, 1) := by decide +kernel
theorem dX12_key_10 : decode cX12_key 10 = .ok (.aload_n 0, 1) := by decide +kernel
theorem dX12_key_11 : decode cX12_key 11 = .ok (.getfield 164, 3) := by decide +kernel
theorem dX12_key_14 : decode cX12_key 14 = .ok (.ifCond .eq 22, 3) := by decide +kernel
theorem dX12_key_17 : decode cX12_key 17 = .ok (.aload_n 0, 1) := by decide +kernel
theorem dX12_key_18 : decode cX12_key 18 = .ok (.invokevirtual 175, 3) := by decide +kernel
theorem dX12_key_21 : decode cX12_key 21 = .ok (.ldc 171, 2) := by decide +kernel
theorem dX12_key_23 : decode cX12_key 23 = .ok (.if_icmp .ne 13, 3) := by decide +kernel
theorem dX12_key_26 : decode cX12_key 26 = .ok (.iload_n 1, 1) := by decide +kernel
theorem dX12_key_27 : decode cX12_key 27 = .ok (.iconst 2, 1) := by decide +kernel
theorem dX12_key_28 : decode cX12_key 28 = .ok (.bipush 11, 2) := by decide +kernel
theorem dX12_key_30 : decode cX12_key 30 = .ok (.invokestatic 99, 3) := by decide +kernel
theorem dX12_key_33 : decode cX12_key 33 = .ok (.ifCond .ne 5, 3) := by decide +kernel
theorem dX12_key_36 : decode cX12_key 36 = .ok (.iconst (-1), 1) := by decide +kernel
theorem dX12_key_37 : decode cX12_key 37 = .ok (.ireturn, 1) := by decide +kernel
theorem dX12_key_38 : decode cX12_key 38 = .ok (.aload_n 0, 1) := by decide +kernel
theorem dX12_key_39 : decode cX12_key 39 = .ok (.invokevirtual 234, 3) := by decide +kernel
theorem dX12_key_42 : decode cX12_key 42 = .ok (.iconst 0, 1) := by decide +kernel
theorem dX12_key_43 : decode cX12_key 43 = .ok (.istore_n 2, 1) := by decide +kernel
theorem dX12_key_44 : decode cX12_key 44 = .ok (.iload_n 2, 1) := by decide +kernel
theorem dX12_key_45 : decode cX12_key 45 = .ok (.sipush 1024, 3) := by decide +kernel
theorem dX12_key_48 : decode cX12_key 48 = .ok (.if_icmp .ge 17, 3) := by decide +kernel
theorem dX12_key_51 : decode cX12_key 51 = .ok (.aload_n 0, 1) := by decide +kernel
theorem dX12_key_52 : decode cX12_key 52 = .ok (.getfield 81, 3) := by decide +kernel
theorem dX12_key_55 : decode cX12_key 55 = .ok (.iload_n 2, 1) := by decide +kernel
theorem dX12_key_56 : decode cX12_key 56 = .ok (.bipush (-2), 2) := by decide +kernel
theorem dX12_key_58 : decode cX12_key 58 = .ok (.iastore, 1) := by decide +kernel
theorem dX12_key_59 : decode cX12_key 59 = .ok (.iinc 2 1, 3) := by decide +kernel
theorem dX12_key_62 : decode cX12_key 62 = .ok (.goto (-18), 3) := by decide +kernel
theorem dX12_key_65 : decode cX12_key 65 = .ok (.iconst 1, 1) := by decide +kernel
theorem dX12_key_66 : decode cX12_key 66 = .ok (.aload_n 0, 1) := by decide +kernel
theorem dX12_key_67 : decode cX12_key 67 = .ok (.getfield 221, 3) := by decide +kernel
theorem dX12_key_70 : decode cX12_key 70 = .ok (.ishl, 1) := by decide +kernel
theorem dX12_key_71 : decode cX12_key 71 = .ok (.iconst 1, 1) := by decide +kernel
theorem dX12_key_72 : decode cX12_key 72 = .ok (.isub, 1) := by decide +kernel
theorem dX12_key_73 : decode cX12_key 73 = .ok (.istore_n 2, 1) := by decide +kernel
theorem dX12_key_74 : decode cX12_key 74 = .ok (.aload_n 0, 1) := by decide +kernel
theorem dX12_key_75 : decode cX12_key 75 = .ok (.getfield 87, 3) := by decide +kernel
theorem dX12_key_78 : decode cX12_key 78 = .ok (.iconst 0, 1) := by decide +kernel
theorem dX12_key_79 : decode cX12_key 79 = .ok (.iload_n 2, 1) := by decide +kernel
theorem dX12_key_80 : decode cX12_key 80 = .ok (.iastore, 1) := by decide +kernel
theorem dX12_key_81 : decode cX12_key 81 = .ok (.aload_n 0, 1) := by decide +kernel
theorem dX12_key_82 : decode cX12_key 82 = .ok (.getfield 81, 3) := by decide +kernel
theorem dX12_key_85 : decode cX12_key 85 = .ok (.iload_n 2, 1) := by decide +kernel
theorem dX12_key_86 : decode cX12_key 86 = .ok (.iconst (-1), 1) := by decide +kernel
theorem dX12_key_87 : decode cX12_key 87 = .ok (.iastore, 1) := by decide +kernel
theorem dX12_key_88 : decode cX12_key 88 = .ok (.iconst 1, 1) := by decide +kernel
theorem dX12_key_89 : decode cX12_key 89 = .ok (.istore_n 3, 1) := by decide +kernel
theorem dX12_key_90 : decode cX12_key 90 = .ok (.iconst 0, 1) := by decide +kernel
theorem dX12_key_91 : decode cX12_key 91 = .ok (.istore 4, 2) := by decide +kernel
theorem dX12_key_93 : decode cX12_key 93 = .ok (.iload 4, 2) := by decide +kernel
theorem dX12_key_95 : decode cX12_key 95 = .ok (.iload_n 3, 1) := by decide +kernel
theorem dX12_key_96 : decode cX12_key 96 = .ok (.if_icmp .ge 110, 3) := by decide +kernel
theorem dX12_key_99 : decode cX12_key 99 = .ok (.iconst 0, 1) := by decide +kernel
theorem dX12_key_100 : decode cX12_key 100 = .ok (.istore 5, 2) := by decide +kernel
theorem dX12_key_102 : decode cX12_key 102 = .ok (.iload 5, 2) := by decide +kernel
theorem dX12_key_104 : decode cX12_key 104 = .ok (.iconst 2, 1) := by decide +kernel
theorem dX12_key_105 : decode cX12_key 105 = .ok (.if_icmp .ge 95, 3) := by decide +kernel
theorem dX12_key_108 : decode cX12_key 108 = .ok (.aload_n 0, 1) := by decide +kernel
theorem dX12_key_109 : decode cX12_key 109 = .ok (.aload_n 0, 1) := by decide +kernel
theorem dX12_key_110 : decode cX12_key 110 = .ok (.getfield 87, 3) := by decide +kernel
theorem dX12_key_113 : decode cX12_key 113 = .ok (.iload 4, 2) := by decide +kernel
theorem dX12_key_115 : decode cX12_key 115 = .ok (.iaload, 1) := by decide +kernel
theorem dX12_key_116 : decode cX12_key 116 = .ok (.iload 5, 2) := by decide +kernel
theorem dX12_key_118 : decode cX12_key 118 = .ok (.invokevirtual 237, 3) := by decide +kernel
theorem dX12_key_121 : decode cX12_key 121 = .ok (.istore 6, 2) := by decide +kernel
theorem dX12_key_123 : decode cX12_key 123 = .ok (.iload 6, 2) := by decide +kernel
theorem dX12_key_125 : decode cX12_key 125 = .ok (.iconst 1, 1) := by decide +kernel
theorem dX12_key_126 : decode cX12_key 126 = .ok (.if_icmp .ne 22, 3) := by decide +kernel
theorem dX12_key_129 : decode cX12_key 129 = .ok (.aload_n 0, 1) := by decide +kernel
theorem dX12_key_130 : decode cX12_key 130 = .ok (.aload_n 0, 1) := by decide +kernel
theorem dX12_key_131 : decode cX12_key 131 = .ok (.getfield 87, 3) := by decide +kernel
theorem dX12_key_134 : decode cX12_key 134 = .ok (.iload 4, 2) := by decide +kernel
theorem dX12_key_136 : decode cX12_key 136 = .ok (.iaload, 1) := by decide +kernel
theorem dX12_key_137 : decode cX12_key 137 = .ok (.iload 5, 2) := by decide +kernel
theorem dX12_key_139 : decode cX12_key 139 = .ok (.iload_n 2, 1) := by decide +kernel
theorem dX12_key_140 : decode cX12_key 140 = .ok (.invokevirtual 240, 3) := by decide +kernel
theorem dX12_key_143 : decode cX12_key 143 = .ok (.aload_n 0, 1) := by decide +kernel
theorem dX12_key_144 : decode cX12_key 144 = .ok (.getfield 231, 3) := by decide +kernel
theorem dX12_key_147 : decode cX12_key 147 = .ok (.ireturn, 1) := by decide +kernel
theorem dX12_key_148 : decode cX12_key 148 = .ok (.aload_n 0, 1) := by decide +kernel
theorem dX12_key_149 : decode cX12_key 149 = .ok (.getfield 81, 3) := by decide +kernel
theorem dX12_key_152 : decode cX12_key 152 = .ok (.iload 6, 2) := by decide +kernel
theorem dX12_key_154 : decode cX12_key 154 = .ok (.iaload, 1) := by decide +kernel
theorem dX12_key_155 : decode cX12_key 155 = .ok (.bipush (-2), 2) := by decide +kernel
theorem dX12_key_157 : decode cX12_key 157 = .ok (.if_icmp .ne 37, 3) := by decide +kernel
theorem dX12_key_160 : decode cX12_key 160 = .ok (.aload_n 0, 1) := by decide +kernel
theorem dX12_key_161 : decode cX12_key 161 = .ok (.getfield 81, 3) := by decide +kernel
theorem dX12_key_164 : decode cX12_key 164 = .ok (.iload 6, 2) := by decide +kernel
theorem dX12_key_166 : decode cX12_key 166 = .ok (.aload_n 0, 1) := by decide +kernel
theorem dX12_key_167 : decode cX12_key 167 = .ok (.getfield 87, 3) := by decide +kernel
theorem dX12_key_170 : decode cX12_key 170 = .ok (.iload 4, 2) := by decide +kernel
theorem dX12_key_172 : decode cX12_key 172 = .ok (.iaload, 1) := by decide +kernel
theorem dX12_key_173 : decode cX12_key 173 = .ok (.iastore, 1) := by decide +kernel
theorem dX12_key_174 : decode cX12_key 174 = .ok (.aload_n 0, 1) := by decide +kernel
theorem dX12_key_175 : decode cX12_key 175 = .ok (.getfield 84, 3) := by decide +kernel
theorem dX12_key_178 : decode cX12_key 178 = .ok (.iload 6, 2) := by decide +kernel
theorem dX12_key_180 : decode cX12_key 180 = .ok (.iload 5, 2) := by decide +kernel
theorem dX12_key_182 : decode cX12_key 182 = .ok (.iastore, 1) := by decide +kernel
theorem dX12_key_183 : decode cX12_key 183 = .ok (.aload_n 0, 1) := by decide +kernel
theorem dX12_key_184 : decode cX12_key 184 = .ok (.getfield 87, 3) := by decide +kernel
theorem dX12_key_187 : decode cX12_key 187 = .ok (.iload_n 3, 1) := by decide +kernel
theorem dX12_key_188 : decode cX12_key 188 = .ok (.iload 6, 2) := by decide +kernel
theorem dX12_key_190 : decode cX12_key 190 = .ok (.iastore, 1) := by decide +kernel
theorem dX12_key_191 : decode cX12_key 191 = .ok (.iinc 3 1, 3) := by decide +kernel
theorem dX12_key_194 : decode cX12_key 194 = .ok (.iinc 5 1, 3) := by decide +kernel
theorem dX12_key_197 : decode cX12_key 197 = .ok (.goto (-95), 3) := by decide +kernel
theorem dX12_key_200 : decode cX12_key 200 = .ok (.iinc 4 1, 3) := by decide +kernel
theorem dX12_key_203 : decode cX12_key 203 = .ok (.goto (-110), 3) := by decide +kernel
theorem dX12_key_206 : decode cX12_key 206 = .ok (.iconst 0, 1) := by decide +kernel
theorem dX12_key_207 : decode cX12_key 207 = .ok (.ireturn, 1) := by decide +kernel
theorem dX12_tellKey_0 : decode cX12_tellKey 0 = .ok (.iconst 1, 1) := by decide +kernel
theorem dX12_tellKey_1 : decode cX12_tellKey 1 = .ok (.istore 4, 2) := by decide +kernel
theorem dX12_tellKey_3 : decode cX12_tellKey 3 = .ok (.iload_n 1, 1) := by decide +kernel
theorem dX12_tellKey_4 : decode cX12_tellKey 4 = .ok (.istore 5, 2) := by decide +kernel
theorem dX12_tellKey_6 : decode cX12_tellKey 6 = .ok (.iload 5, 2) := by decide +kernel
theorem dX12_tellKey_8 : decode cX12_tellKey 8 = .ok (.iload_n 3, 1) := by decide +kernel
theorem dX12_tellKey_9 : decode cX12_tellKey 9 = .ok (.if_icmp .eq 18, 3) := by decide +kernel
theorem dX12_tellKey_12 : decode cX12_tellKey 12 = .ok (.iinc 4 1, 3) := by decide +kernel
theorem dX12_tellKey_15 : decode cX12_tellKey 15 = .ok (.aload_n 0, 1) := by decide +kernel
theorem dX12_tellKey_16 : decode cX12_tellKey 16 = .ok (.getfield 81, 3) := by decide +kernel
theorem dX12_tellKey_19 : decode cX12_tellKey 19 = .ok (.iload 5, 2) := by decide +kernel
theorem dX12_tellKey_21 : decode cX12_tellKey 21 = .ok (.iaload, 1) := by decide +kernel
theorem dX12_tellKey_22 : decode cX12_tellKey 22 = .ok (.istore 5, 2) := by decide +kernel
theorem dX12_tellKey_24 : decode cX12_tellKey 24 = .ok (.goto (-18), 3) := by decide +kernel
theorem dX12_tellKey_27 : decode cX12_tellKey 27 = .ok (.aload_n 0, 1) := by decide +kernel
theorem dX12_tellKey_28 : decode cX12_tellKey 28 = .ok (.iload 4, 2) := by decide +kernel
theorem dX12_tellKey_30 : decode cX12_tellKey 30 = .ok (.putfield 231, 3) := by decide +kernel
theorem dX12_tellKey_33 : decode cX12_tellKey 33 = .ok (.aload_n 0, 1) := by decide +kernel
theorem dX12_tellKey_34 : decode cX12_tellKey 34 = .ok (.getfield 90, 3) := by decide +kernel
theorem dX12_tellKey_37 : decode cX12_tellKey 37 = .ok (.iload 4, 2) := by decide +kernel
theorem dX12_tellKey_39 : decode cX12_tellKey 39 = .ok (.iconst 1, 1) := by decide +kernel
theorem dX12_tellKey_40 : decode cX12_tellKey 40 = .ok (.isub, 1) := by decide +kernel
theorem dX12_tellKey_41 : decode cX12_tellKey 41 = .ok (.iload_n 2, 1) := by decide +kernel
theorem dX12_tellKey_42 : decode cX12_tellKey 42 = .ok (.iastore, 1) := by decide +kernel
theorem dX12_tellKey_43 : decode cX12_tellKey 43 = .ok (.iload 4, 2) := by decide +kernel
theorem dX12_tellKey_45 : decode cX12_tellKey 45 = .ok (.iconst 2, 1) := by decide +kernel
theorem dX12_tellKey_46 : decode cX12_tellKey 46 = .ok (.isub, 1) := by decide +kernel
theorem dX12_tellKey_47 : decode cX12_tellKey 47 = .ok (.istore 5, 2) := by decide +kernel
theorem dX12_tellKey_49 : decode cX12_tellKey 49 = .ok (.iload_n 1, 1) := by decide +kernel
theorem dX12_tellKey_50 : decode cX12_tellKey 50 = .ok (.istore 6, 2) := by decide +kernel
theorem dX12_tellKey_52 : decode cX12_tellKey 52 = .ok (.iload 6, 2) := by decide +kernel
theorem dX12_tellKey_54 : decode cX12_tellKey 54 = .ok (.iload_n 3, 1) := by decide +kernel
theorem dX12_tellKey_55 : decode cX12_tellKey 55 = .ok (.if_icmp .eq 32, 3) := by decide +kernel
theorem dX12_tellKey_58 : decode cX12_tellKey 58 = .ok (.aload_n 0, 1) := by decide +kernel
theorem dX12_tellKey_59 : decode cX12_tellKey 59 = .ok (.getfield 90, 3) := by decide +kernel
theorem dX12_tellKey_62 : decode cX12_tellKey 62 = .ok (.iload 5, 2) := by decide +kernel
theorem dX12_tellKey_64 : decode cX12_tellKey 64 = .ok (.aload_n 0, 1) := by decide +kernel
theorem dX12_tellKey_65 : decode cX12_tellKey 65 = .ok (.getfield 84, 3) := by decide +kernel
theorem dX12_tellKey_68 : decode cX12_tellKey 68 = .ok (.iload 6, 2) := by decide +kernel
theorem dX12_tellKey_70 : decode cX12_tellKey 70 = .ok (.iaload, 1) := by decide +kernel
theorem dX12_tellKey_71 : decode cX12_tellKey 71 = .ok (.iastore, 1) := by decide +kernel
theorem dX12_tellKey_72 : decode cX12_tellKey 72 = .ok (.iinc 5 (-1), 3) := by decide +kernel
theorem dX12_tellKey_75 : decode cX12_tellKey 75 = .ok (.aload_n 0, 1) := by decide +kernel
theorem dX12_tellKey_76 : decode cX12_tellKey 76 = .ok (.getfield 81, 3) := by decide +kernel
theorem dX12_tellKey_79 : decode cX12_tellKey 79 = .ok (.iload 6, 2) := by decide +kernel
theorem dX12_tellKey_81 : decode cX12_tellKey 81 = .ok (.iaload, 1) := by decide +kernel
theorem dX12_tellKey_82 : decode cX12_tellKey 82 = .ok (.istore 6, 2) := by decide +kernel
theorem dX12_tellKey_84 : decode cX12_tellKey 84 = .ok (.goto (-32), 3) := by decide +kernel
theorem dX12_tellKey_87 : decode cX12_tellKey 87 = .ok (.return_, 1) := by decide +kernel
set_option maxRecDepth 20000 in
theorem ggX12_keyBit_X12_within : GoodIn wsX12_keyBit wsX12_within := goodIn_r _ [6] (by decide +kernel) (by decide +kernel)
set_option maxRecDepth 20000 in
theorem gX12_keyBit_X12_within : GoodIn wsX12_keyBit (va_wsS RX12 99 yX12_within wsX12_within) := goodIn_app (goodIn_of _ (by decide +kernel)) ggX12_keyBit_X12_within
theorem dX12_keyBit_0 : decode cX12_keyBit 0 = .ok (.iload_n 1, 1) := by decide +kernel
theorem dX12_keyBit_1 : decode cX12_keyBit 1 = .ok (.iconst 0, 1) := by decide +kernel
theorem dX12_keyBit_2 : decode cX12_keyBit 2 = .ok (.aload_n 0, 1) := by decide +kernel
theorem dX12_keyBit_3 : decode cX12_keyBit 3 = .ok (.getfield 231, 3) := by decide +kernel
theorem dX12_keyBit_6 : decode cX12_keyBit 6 = .ok (.iconst 1, 1) := by decide +kernel
theorem dX12_keyBit_7 : decode cX12_keyBit 7 = .ok (.isub, 1) := by decide +kernel
theorem dX12_keyBit_8 : decode cX12_keyBit 8 = .ok (.invokestatic 99, 3) := by decide +kernel
theorem dX12_keyBit_11 : decode cX12_keyBit 11 = .ok (.ifCond .eq 12, 3) := by decide +kernel
theorem dX12_keyBit_14 : decode cX12_keyBit 14 = .ok (.aload_n 0, 1) := by decide +kernel
theorem dX12_keyBit_15 : decode cX12_keyBit 15 = .ok (.getfield 90, 3) := by decide +kernel
theorem dX12_keyBit_18 : decode cX12_keyBit 18 = .ok (.iload_n 1, 1) := by decide +kernel
theorem dX12_keyBit_19 : decode cX12_keyBit 19 = .ok (.iaload, 1) := by decide +kernel
theorem dX12_keyBit_20 : decode cX12_keyBit 20 = .ok (.goto 4, 3) := by decide +kernel
theorem dX12_keyBit_23 : decode cX12_keyBit 23 = .ok (.iconst (-1), 1) := by decide +kernel
theorem dX12_keyBit_24 : decode cX12_keyBit 24 = .ok (.ireturn, 1) := by decide +kernel
set_option maxRecDepth 20000 in
theorem ggX12_told_X12_countOf : GoodIn wsX12_told wsX12_countOf := goodIn_r _ [13, 3, 14, 24, 25, 26, 27, 28, 29, 30, 31, 32, 33, 34, 35, 36, 37, 38, 39, 40, 41, 42, 43, 44, 45, 46, 47, 48, 49, 50, 51, 52, 53, 54, 55, 56, 57, 58, 59, 60, 61, 62] (by decide +kernel) (by decide +kernel)
set_option maxRecDepth 20000 in
theorem gX12_told_X12_countOf : GoodIn wsX12_told (wsV RX12 112 RX12 yX12_countOf wsX12_countOf) := goodIn_app (goodIn_of _ (by decide +kernel)) ggX12_told_X12_countOf
set_option maxRecDepth 20000 in
theorem ggX12_told_X12_codesThere : GoodIn wsX12_told wsX12_codesThere := goodIn_r _ [18, 1, 19, 24, 25, 26, 27, 28, 29, 30, 31, 32, 33, 34, 35, 36, 37, 38, 39, 40, 41, 42, 43, 44, 45, 46, 47, 48, 49, 50, 51, 52, 53, 54, 55, 56, 57, 58, 59, 60, 61, 62] (by decide +kernel) (by decide +kernel)
set_option maxRecDepth 20000 in
theorem gX12_told_X12_codesThere : GoodIn wsX12_told (wsV RX12 172 RX12 yX12_codesThere wsX12_codesThere) := goodIn_app (goodIn_of _ (by decide +kernel)) ggX12_told_X12_codesThere
set_option maxRecDepth 20000 in
theorem ggX12_told_X12_sumOf : GoodIn wsX12_told wsX12_sumOf := goodIn_r _ [23, 1, 7, 19, 24, 25, 26, 27, 28, 29, 30, 31, 32, 33, 34, 35, 36, 37, 38, 39, 40, 41, 42, 43, 44, 45, 46, 47, 48, 49, 50, 51, 52, 53, 54, 55, 56, 57, 58, 59, 60, 61, 62] (by decide +kernel) (by decide +kernel)
set_option maxRecDepth 20000 in
theorem gX12_told_X12_sumOf : GoodIn wsX12_told (wsV RX12 175 RX12 yX12_sumOf wsX12_sumOf) := goodIn_app (goodIn_of _ (by decide +kernel)) ggX12_told_X12_sumOf
theorem dX12_told_0 : decode cX12_told 0 = .ok (.iload_n 1, 1) := by decide +kernel
theorem dX12_told_1 : decode cX12_told 1 = .ok (.tableswitch 169 0 9 #[55, 60, 65, 70, 106, 111, 116, 121, 134, 156], 55) := by decide +kernel
theorem dX12_told_56 : decode cX12_told 56 = .ok (.aload_n 0, 1) := by decide +kernel
theorem dX12_told_57 : decode cX12_told 57 = .ok (.getfield 93, 3) := by decide +kernel
theorem dX12_told_60 : decode cX12_told 60 = .ok (.ireturn, 1) := by decide +kernel
theorem dX12_told_61 : decode cX12_told 61 = .ok (.aload_n 0, 1) := by decide +kernel
theorem dX12_told_62 : decode cX12_told 62 = .ok (.getfield 96, 3) := by decide +kernel
theorem dX12_told_65 : decode cX12_told 65 = .ok (.ireturn, 1) := by decide +kernel
theorem dX12_told_66 : decode cX12_told 66 = .ok (.aload_n 0, 1) := by decide +kernel
theorem dX12_told_67 : decode cX12_told 67 = .ok (.getfield 107, 3) := by decide +kernel
theorem dX12_told_70 : decode cX12_told 70 = .ok (.ireturn, 1) := by decide +kernel
theorem dX12_told_71 : decode cX12_told 71 = .ok (.iconst 0, 1) := by decide +kernel
theorem dX12_told_72 : decode cX12_told 72 = .ok (.istore_n 2, 1) := by decide +kernel
theorem dX12_told_73 : decode cX12_told 73 = .ok (.iconst 0, 1) := by decide +kernel
theorem dX12_told_74 : decode cX12_told 74 = .ok (.istore_n 3, 1) := by decide +kernel
theorem dX12_told_75 : decode cX12_told 75 = .ok (.iload_n 3, 1) := by decide +kernel
theorem dX12_told_76 : decode cX12_told 76 = .ok (.aload_n 0, 1) := by decide +kernel
theorem dX12_told_77 : decode cX12_told 77 = .ok (.getfield 93, 3) := by decide +kernel
theorem dX12_told_80 : decode cX12_told 80 = .ok (.if_icmp .ge 25, 3) := by decide +kernel
theorem dX12_told_83 : decode cX12_told 83 = .ok (.iload_n 2, 1) := by decide +kernel
theorem dX12_told_84 : decode cX12_told 84 = .ok (.aload_n 0, 1) := by decide +kernel
theorem dX12_told_85 : decode cX12_told 85 = .ok (.iload_n 3, 1) := by decide +kernel
theorem dX12_told_86 : decode cX12_told 86 = .ok (.invokevirtual 112, 3) := by decide +kernel
theorem dX12_told_89 : decode cX12_told 89 = .ok (.ifCond .le 7, 3) := by decide +kernel
theorem dX12_told_92 : decode cX12_told 92 = .ok (.iconst 1, 1) := by decide +kernel
theorem dX12_told_93 : decode cX12_told 93 = .ok (.goto 4, 3) := by decide +kernel
theorem dX12_told_96 : decode cX12_told 96 = .ok (.iconst 0, 1) := by decide +kernel
theorem dX12_told_97 : decode cX12_told 97 = .ok (.iadd, 1) := by decide +kernel
theorem dX12_told_98 : decode cX12_told 98 = .ok (.istore_n 2, 1) := by decide +kernel
theorem dX12_told_99 : decode cX12_told 99 = .ok (.iinc 3 1, 3) := by decide +kernel
theorem dX12_told_102 : decode cX12_told 102 = .ok (.goto (-27), 3) := by decide +kernel
theorem dX12_told_105 : decode cX12_told 105 = .ok (.iload_n 2, 1) := by decide +kernel
theorem dX12_told_106 : decode cX12_told 106 = .ok (.ireturn, 1) := by decide +kernel
theorem dX12_told_107 : decode cX12_told 107 = .ok (.aload_n 0, 1) := by decide +kernel
theorem dX12_told_108 : decode cX12_told 108 = .ok (.getfield 178, 3) := by decide +kernel
theorem dX12_told_111 : decode cX12_told 111 = .ok (.ireturn, 1) := by decide +kernel
theorem dX12_told_112 : decode cX12_told 112 = .ok (.aload_n 0, 1) := by decide +kernel
theorem dX12_told_113 : decode cX12_told 113 = .ok (.getfield 197, 3) := by decide +kernel
theorem dX12_told_116 : decode cX12_told 116 = .ok (.ireturn, 1) := by decide +kernel
theorem dX12_told_117 : decode cX12_told 117 = .ok (.aload_n 0, 1) := by decide +kernel
theorem dX12_told_118 : decode cX12_told 118 = .ok (.invokevirtual 172, 3) := by decide +kernel
theorem dX12_told_121 : decode cX12_told 121 = .ok (.ireturn, 1) := by decide +kernel
theorem dX12_told_122 : decode cX12_told 122 = .ok (.aload_n 0, 1) := by decide +kernel
theorem dX12_told_123 : decode cX12_told 123 = .ok (.getfield 164, 3) := by decide +kernel
theorem dX12_told_126 : decode cX12_told 126 = .ok (.ifCond .eq 7, 3) := by decide +kernel
theorem dX12_told_129 : decode cX12_told 129 = .ok (.iconst 1, 1) := by decide +kernel
theorem dX12_told_130 : decode cX12_told 130 = .ok (.goto 4, 3) := by decide +kernel
theorem dX12_told_133 : decode cX12_told 133 = .ok (.iconst 0, 1) := by decide +kernel
theorem dX12_told_134 : decode cX12_told 134 = .ok (.ireturn, 1) := by decide +kernel
theorem dX12_told_135 : decode cX12_told 135 = .ok (.aload_n 0, 1) := by decide +kernel
theorem dX12_told_136 : decode cX12_told 136 = .ok (.getfield 164, 3) := by decide +kernel
theorem dX12_told_139 : decode cX12_told 139 = .ok (.ifCond .eq 16, 3) := by decide +kernel
theorem dX12_told_142 : decode cX12_told 142 = .ok (.aload_n 0, 1) := by decide +kernel
theorem dX12_told_143 : decode cX12_told 143 = .ok (.invokevirtual 175, 3) := by decide +kernel
theorem dX12_told_146 : decode cX12_told 146 = .ok (.ldc 171, 2) := by decide +kernel
theorem dX12_told_148 : decode cX12_told 148 = .ok (.if_icmp .ne 7, 3) := by decide +kernel
theorem dX12_told_151 : decode cX12_told 151 = .ok (.iconst 1, 1) := by decide +kernel
theorem dX12_told_152 : decode cX12_told 152 = .ok (.goto 4, 3) := by decide +kernel
theorem dX12_told_155 : decode cX12_told 155 = .ok (.iconst 0, 1) := by decide +kernel
theorem dX12_told_156 : decode cX12_told 156 = .ok (.ireturn, 1) := by decide +kernel
theorem dX12_told_157 : decode cX12_told 157 = .ok (.aload_n 0, 1) := by decide +kernel
theorem dX12_told_158 : decode cX12_told 158 = .ok (.getfield 160, 3) := by decide +kernel
theorem dX12_told_161 : decode cX12_told 161 = .ok (.ifCond .eq 7, 3) := by decide +kernel
theorem dX12_told_164 : decode cX12_told 164 = .ok (.iconst 1, 1) := by decide +kernel
theorem dX12_told_165 : decode cX12_told 165 = .ok (.goto 4, 3) := by decide +kernel
theorem dX12_told_168 : decode cX12_told 168 = .ok (.iconst 0, 1) := by decide +kernel
theorem dX12_told_169 : decode cX12_told 169 = .ok (.ireturn, 1) := by decide +kernel
theorem dX12_told_170 : decode cX12_told 170 = .ok (.iconst (-1), 1) := by decide +kernel
theorem dX12_told_171 : decode cX12_told 171 = .ok (.ireturn, 1) := by decide +kernel
theorem dJ9_max_7cf53_0 : decode cJ9_max_7cf53 0 = .ok (.iload_n 0, 1) := by decide +kernel
theorem dJ9_max_7cf53_1 : decode cJ9_max_7cf53 1 = .ok (.iload_n 1, 1) := by decide +kernel
theorem dJ9_max_7cf53_2 : decode cJ9_max_7cf53 2 = .ok (.if_icmp .lt 7, 3) := by decide +kernel
theorem dJ9_max_7cf53_5 : decode cJ9_max_7cf53 5 = .ok (.iload_n 0, 1) := by decide +kernel
theorem dJ9_max_7cf53_6 : decode cJ9_max_7cf53 6 = .ok (.goto 4, 3) := by decide +kernel
theorem dJ9_max_7cf53_9 : decode cJ9_max_7cf53 9 = .ok (.iload_n 1, 1) := by decide +kernel
theorem dJ9_max_7cf53_10 : decode cJ9_max_7cf53 10 = .ok (.ireturn, 1) := by decide +kernel
theorem dJ9_min_7cf53_0 : decode cJ9_min_7cf53 0 = .ok (.iload_n 0, 1) := by decide +kernel
theorem dJ9_min_7cf53_1 : decode cJ9_min_7cf53 1 = .ok (.iload_n 1, 1) := by decide +kernel
theorem dJ9_min_7cf53_2 : decode cJ9_min_7cf53 2 = .ok (.if_icmp .gt 7, 3) := by decide +kernel
theorem dJ9_min_7cf53_5 : decode cJ9_min_7cf53 5 = .ok (.iload_n 0, 1) := by decide +kernel
theorem dJ9_min_7cf53_6 : decode cJ9_min_7cf53 6 = .ok (.goto 4, 3) := by decide +kernel
theorem dJ9_min_7cf53_9 : decode cJ9_min_7cf53 9 = .ok (.iload_n 1, 1) := by decide +kernel
theorem dJ9_min_7cf53_10 : decode cJ9_min_7cf53 10 = .ok (.ireturn, 1) := by decide +kernel
theorem dJ7_fill_53178_0 : decode cJ7_fill_53178 0 = .ok (.iconst 0, 1) := by decide +kernel
theorem dJ7_fill_53178_1 : decode cJ7_fill_53178 1 = .ok (.istore_n 2, 1) := by decide +kernel
theorem dJ7_fill_53178_2 : decode cJ7_fill_53178 2 = .ok (.aload_n 0, 1) := by decide +kernel
theorem dJ7_fill_53178_3 : decode cJ7_fill_53178 3 = .ok (.arraylength, 1) := by decide +kernel
theorem dJ7_fill_53178_4 : decode cJ7_fill_53178 4 = .ok (.istore_n 3, 1) := by decide +kernel
theorem dJ7_fill_53178_5 : decode cJ7_fill_53178 5 = .ok (.iload_n 2, 1) := by decide +kernel
theorem dJ7_fill_53178_6 : decode cJ7_fill_53178 6 = .ok (.iload_n 3, 1) := by decide +kernel
theorem dJ7_fill_53178_7 : decode cJ7_fill_53178 7 = .ok (.if_icmp .ge 13, 3) := by decide +kernel
theorem dJ7_fill_53178_10 : decode cJ7_fill_53178 10 = .ok (.aload_n 0, 1) := by decide +kernel
theorem dJ7_fill_53178_11 : decode cJ7_fill_53178 11 = .ok (.iload_n 2, 1) := by decide +kernel
theorem dJ7_fill_53178_12 : decode cJ7_fill_53178 12 = .ok (.iload_n 1, 1) := by decide +kernel
theorem dJ7_fill_53178_13 : decode cJ7_fill_53178 13 = .ok (.iastore, 1) := by decide +kernel
theorem dJ7_fill_53178_14 : decode cJ7_fill_53178 14 = .ok (.iinc 2 1, 3) := by decide +kernel
theorem dJ7_fill_53178_17 : decode cJ7_fill_53178 17 = .ok (.goto (-12), 3) := by decide +kernel
theorem dJ7_fill_53178_20 : decode cJ7_fill_53178 20 = .ok (.return_, 1) := by decide +kernel
theorem dL_cell_0 : decode cL_cell 0 = .ok (.iload_n 1, 1) := by decide +kernel
theorem dL_cell_1 : decode cL_cell 1 = .ok (.aload_n 0, 1) := by decide +kernel
theorem dL_cell_2 : decode cL_cell 2 = .ok (.arraylength, 1) := by decide +kernel
theorem dL_cell_3 : decode cL_cell 3 = .ok (.if_icmp .ge 9, 3) := by decide +kernel
theorem dL_cell_6 : decode cL_cell 6 = .ok (.aload_n 0, 1) := by decide +kernel
theorem dL_cell_7 : decode cL_cell 7 = .ok (.iload_n 1, 1) := by decide +kernel
theorem dL_cell_8 : decode cL_cell 8 = .ok (.iaload, 1) := by decide +kernel
theorem dL_cell_9 : decode cL_cell 9 = .ok (.goto 4, 3) := by decide +kernel
theorem dL_cell_12 : decode cL_cell 12 = .ok (.iconst 0, 1) := by decide +kernel
theorem dL_cell_13 : decode cL_cell 13 = .ok (.ireturn, 1) := by decide +kernel
set_option maxRecDepth 20000 in
theorem ggL_law_L_cell : GoodIn wsL_law wsL_cell := goodIn_r _ [10] (by decide +kernel) (by decide +kernel)
set_option maxRecDepth 20000 in
theorem gL_law_L_cell : GoodIn wsL_law (va_wsS RL 9 yL_cell wsL_cell) := goodIn_app (goodIn_of _ (by decide +kernel)) ggL_law_L_cell
set_option maxRecDepth 20000 in
theorem ggL_law_X11_init : GoodIn wsL_law wsX11_init := goodIn_r _ [13, 14, 15, 16, 17, 18, 19, 20, 21, 22, 23, 24, 25, 26, 27, 28, 29, 30, 31, 32, 33, 34, 35, 36, 37, 38, 39, 40, 41, 42, 43, 44, 45, 46, 47, 48, 49, 50, 51, 52, 53, 54, 55, 56, 57, 58, 59, 60, 61, 62, 63, 64, 65, 66, 67, 68, 69, 70, 71, 72, 73, 74, 75, 76, 77, 78, 79, 80, 81, 82, 83, 84, 85, 86, 87, 88, 89, 90, 91, 92, 93, 94, 95, 96, 97, 98, 99, 100, 101, 102, 103, 104, 105, 106, 107, 108, 109, 110, 111, 112, 113, 114, 115, 116, 117, 118, 119, 120, 121, 122, 123, 124, 125, 126, 127, 128, 129, 130, 131, 132, 133, 134, 135, 136, 137, 138, 826, 827, 828, 829, 830, 831, 832, 833, 834, 835, 836, 837, 838, 839, 840, 841, 842, 882, 883, 884, 885, 886, 887, 888, 889, 890, 891, 892, 893, 894, 895, 896, 897, 898, 899, 900, 901, 902, 903, 904, 905, 906, 907, 908, 909, 910, 911, 912, 913, 914, 915, 916, 917, 918, 919, 920, 921, 922, 923, 924, 925, 926] (by decide +kernel) (by decide +kernel)
set_option maxRecDepth 20000 in
theorem gL_law_X11_init : GoodIn wsL_law (wsX11_init) := ggL_law_X11_init
set_option maxRecDepth 20000 in
theorem ggL_law_X12_init : GoodIn wsL_law wsX12_init := goodIn_r _ [141, 142, 15, 16, 23, 143, 144, 145, 146, 147, 148, 149, 150, 151, 152, 153, 154, 155, 156, 157, 158, 159, 160, 161, 162, 163, 164, 165, 166, 167, 168, 169, 170, 171, 172, 843, 844, 845, 846, 847, 848, 849, 850, 851, 852, 853, 854, 855, 856, 857, 858, 859, 860, 861, 862, 863, 864, 865, 866, 867, 868, 869, 870, 871, 872, 873, 874, 875, 876, 877, 878, 879, 880, 881] (by decide +kernel) (by decide +kernel)
set_option maxRecDepth 20000 in
theorem gL_law_X12_init : GoodIn wsL_law (wsX12_init) := ggL_law_X12_init
set_option maxRecDepth 20000 in
theorem ggL_law_X11_feed : GoodIn wsL_law wsX11_feed := goodIn_r _ [176, 22, 177, 178, 179, 2, 180, 17, 181, 182, 183, 184, 24, 185, 186, 187, 21, 188, 189, 68, 826, 827, 828, 829, 830, 831, 832, 833, 834, 835, 836, 837, 838, 839, 840, 841, 842, 882, 883] (by decide +kernel) (by decide +kernel)
set_option maxRecDepth 20000 in
theorem gL_law_X11_feed : GoodIn wsL_law (wsV RL 21 RX11 yX11_feed wsX11_feed) := goodIn_app (goodIn_of _ (by decide +kernel)) ggL_law_X11_feed
set_option maxRecDepth 20000 in
theorem ggL_law_X12_feed : GoodIn wsL_law wsX12_feed := goodIn_r _ [193, 194, 143, 195, 196, 197, 5, 198, 171, 199, 200, 201, 843, 844, 845, 846, 847, 848, 849, 850, 851, 852, 853, 854, 855, 856, 857, 858, 859, 860, 861, 862, 863, 864, 865, 866, 867, 868, 869, 870, 871, 872, 873, 874, 875, 876, 877, 878, 879, 880, 881] (by decide +kernel) (by decide +kernel)
set_option maxRecDepth 20000 in
theorem gL_law_X12_feed : GoodIn wsL_law (wsV RL 25 RX12 yX12_feed wsX12_feed) := goodIn_app (goodIn_of _ (by decide +kernel)) ggL_law_X12_feed
set_option maxRecDepth 20000 in
theorem ggL_law_X11_feedAll : GoodIn wsL_law wsX11_feedAll := goodIn_r _ [205, 22, 206, 207, 2, 208, 177, 178, 179, 180, 17, 181, 182, 183, 184, 24, 185, 186, 187, 21, 188, 189, 68, 826, 827, 828, 829, 830, 831, 832, 833, 834, 835, 836, 837, 838, 839, 840, 841, 842, 882, 883] (by decide +kernel) (by decide +kernel)
set_option maxRecDepth 20000 in
theorem gL_law_X11_feedAll : GoodIn wsL_law (wsV RL 28 RX11 yX11_feedAll wsX11_feedAll) := goodIn_app (goodIn_of _ (by decide +kernel)) ggL_law_X11_feedAll
set_option maxRecDepth 20000 in
theorem ggL_law_X12_feedAll : GoodIn wsL_law wsX12_feedAll := goodIn_r _ [212, 213, 194, 143, 199, 200, 5, 201, 195, 196, 197, 198, 171, 843, 844, 845, 846, 847, 848, 849, 850, 851, 852, 853, 854, 855, 856, 857, 858, 859, 860, 861, 862, 863, 864, 865, 866, 867, 868, 869, 870, 871, 872, 873, 874, 875, 876, 877, 878, 879, 880, 881] (by decide +kernel) (by decide +kernel)
set_option maxRecDepth 20000 in
theorem gL_law_X12_feedAll : GoodIn wsL_law (wsV RL 32 RX12 yX12_feedAll wsX12_feedAll) := goodIn_app (goodIn_of _ (by decide +kernel)) ggL_law_X12_feedAll
set_option maxRecDepth 20000 in
theorem ggL_law_X11_clear : GoodIn wsL_law wsX11_clear := goodIn_r _ [217, 22, 24, 218, 219, 220, 221, 826, 827, 828, 829, 830, 831, 832, 833, 834, 835, 836, 837, 838, 839, 840, 841, 842, 882, 883] (by decide +kernel) (by decide +kernel)
set_option maxRecDepth 20000 in
theorem gL_law_X11_clear : GoodIn wsL_law (wsV RL 33 RX11 yX11_clear wsX11_clear) := goodIn_app (goodIn_of _ (by decide +kernel)) ggL_law_X11_clear
set_option maxRecDepth 20000 in
theorem ggL_law_X12_clear : GoodIn wsL_law wsX12_clear := goodIn_r _ [225, 194, 843, 844, 845, 846, 847, 848, 849, 850, 851, 852, 853, 854, 855, 856, 857, 858, 859, 860, 861, 862, 863, 864, 865, 866, 867, 868, 869, 870, 871, 872, 873, 874, 875, 876, 877, 878, 879, 880, 881] (by decide +kernel) (by decide +kernel)
set_option maxRecDepth 20000 in
theorem gL_law_X12_clear : GoodIn wsL_law (wsV RL 37 RX12 yX12_clear wsX12_clear) := goodIn_app (goodIn_of _ (by decide +kernel)) ggL_law_X12_clear
set_option maxRecDepth 20000 in
theorem ggL_law_X11_count : GoodIn wsL_law wsX11_count := goodIn_r _ [229, 24, 177, 178, 179, 2, 180, 17, 826, 827, 828, 829, 830, 831, 832, 833, 834, 835, 836, 837, 838, 839, 840, 841, 842] (by decide +kernel) (by decide +kernel)
set_option maxRecDepth 20000 in
theorem gL_law_X11_count : GoodIn wsL_law (wsV RL 38 RX11 yX11_count wsX11_count) := goodIn_app (goodIn_of _ (by decide +kernel)) ggL_law_X11_count
set_option maxRecDepth 20000 in
theorem ggL_law_X12_count : GoodIn wsL_law wsX12_count := goodIn_r _ [233, 195, 196, 197, 5, 198, 171, 199, 200, 201, 234, 235, 236, 237, 194, 143, 843, 844, 845, 846, 847, 848, 849, 850, 851, 852, 853, 854, 855, 856, 857, 858, 859, 860, 861, 862, 863, 864, 865, 866, 867, 868, 869, 870, 871, 872, 873, 874, 875, 876, 877, 878, 879, 880, 881] (by decide +kernel) (by decide +kernel)
set_option maxRecDepth 20000 in
theorem gL_law_X12_count : GoodIn wsL_law (wsV RL 41 RX12 yX12_count wsX12_count) := goodIn_app (goodIn_of _ (by decide +kernel)) ggL_law_X12_count
set_option maxRecDepth 20000 in
theorem ggL_law_X11_build : GoodIn wsL_law wsX11_build := goodIn_r _ [241, 242, 22, 243, 28, 24, 18, 244, 245, 36, 56, 246, 247, 248, 27, 249, 250, 73, 74, 251, 252, 253, 2, 254, 32, 40, 44, 255, 256, 257, 31, 258, 81, 259, 260, 261, 262, 84, 263, 264, 265, 266, 267, 268, 269, 270, 271, 272, 273, 274, 275, 82, 276, 277, 278, 279, 83, 280, 281, 282, 283, 284, 285, 286, 287, 288, 289, 290, 291, 292, 293, 76, 294, 295, 296, 297, 298, 299, 300, 35, 301, 94, 89, 302, 303, 304, 305, 60, 306, 307, 308, 309, 310, 311, 312, 91, 92, 90, 313, 314, 315, 316, 317, 318, 319, 320, 99, 321, 322, 323, 324, 100, 325, 326, 327, 328, 329, 219, 220, 221, 330, 331, 332, 333, 334, 335, 336, 337, 338, 339, 340, 39, 341, 105, 104, 342, 343, 344, 345, 346, 347, 348, 349, 350, 351, 352, 353, 354, 355, 356, 357, 358, 359, 360, 361, 362, 363, 364, 365, 366, 367, 368, 108, 369, 370, 111, 112, 371, 372, 373, 374, 375, 376, 377, 378, 379, 380, 381, 382, 383, 384, 43, 385, 386, 387, 388, 389, 390, 391, 392, 393, 394, 395, 396, 397, 398, 399, 400, 401, 402, 403, 75, 404, 405, 406, 407, 408, 409, 55, 410, 135, 411, 412, 413, 414, 415, 416, 137, 417, 418, 419, 420, 421, 422, 423, 424, 133, 425, 426, 427, 428, 136, 429, 430, 431, 432, 134, 433, 434, 435, 436, 437, 438, 439, 440, 441, 442, 443, 444, 445, 446, 447, 448, 826, 827, 828, 829, 830, 831, 832, 833, 834, 835, 836, 837, 838, 839, 840, 841, 842, 882, 883, 884, 885, 886, 887, 888, 889, 890, 891, 892, 893, 894, 895, 896, 897, 898, 899, 900, 923, 924, 925, 926, 901, 902, 903, 904, 905, 906, 907, 908, 914, 915, 916, 917, 918, 919, 920, 921, 922] (by decide +kernel) (by decide +kernel)
set_option maxRecDepth 20000 in
theorem gL_law_X11_build : GoodIn wsL_law (wsV RL 42 RX11 yX11_build wsX11_build) := goodIn_app (goodIn_of _ (by decide +kernel)) ggL_law_X11_build
set_option maxRecDepth 20000 in
theorem ggL_law_X12_build : GoodIn wsL_law wsX12_build := goodIn_r _ [452, 453, 194, 454, 172, 455, 456, 152, 457, 171, 144, 150, 151, 458, 459, 199, 200, 5, 201, 460, 461, 462, 463, 234, 235, 236, 237, 143, 464, 465, 466, 467, 153, 154, 468, 469, 470, 471, 472, 473, 474, 475, 476, 477, 478, 479, 155, 480, 481, 482, 483, 484, 485, 486, 487, 158, 156, 157, 488, 489, 490, 491, 159, 160, 161, 492, 493, 494, 495, 496, 497, 498, 499, 500, 501, 502, 503, 504, 145, 505, 506, 507, 508, 509, 510, 511, 512, 843, 844, 845, 846, 847, 848, 849, 850, 851, 852, 853, 854, 855, 856, 857, 858, 859, 860, 861, 862, 863, 864, 865, 866, 867, 868, 869, 870, 871, 872, 873, 874, 875, 876, 877, 878, 879, 880, 881] (by decide +kernel) (by decide +kernel)
set_option maxRecDepth 20000 in
theorem gL_law_X12_build : GoodIn wsL_law (wsV RL 46 RX12 yX12_build wsX12_build) := goodIn_app (goodIn_of _ (by decide +kernel)) ggL_law_X12_build
set_option maxRecDepth 20000 in
theorem ggL_law_X11_length : GoodIn wsL_law wsX11_length := goodIn_r _ [516, 56, 177, 178, 179, 2, 180, 17, 826, 827, 828, 829, 830, 831, 832, 833, 834, 835, 836, 837, 838, 839, 840, 841, 842, 914, 915, 916, 917, 918, 919, 920, 921, 922] (by decide +kernel) (by decide +kernel)
set_option maxRecDepth 20000 in
theorem gL_law_X11_length : GoodIn wsL_law (wsV RL 47 RX11 yX11_length wsX11_length) := goodIn_app (goodIn_of _ (by decide +kernel)) ggL_law_X11_length
set_option maxRecDepth 20000 in
theorem ggL_law_X12_length : GoodIn wsL_law wsX12_length := goodIn_r _ [520, 144, 195, 196, 197, 5, 198, 171, 199, 200, 201, 843, 844, 845, 846, 847, 848, 849, 850, 851, 852, 853, 854, 855, 856, 857, 858, 859, 860, 861, 862, 863, 864, 865, 866, 867, 868, 869, 870, 871, 872, 873, 874, 875, 876, 877, 878, 879, 880, 881] (by decide +kernel) (by decide +kernel)
set_option maxRecDepth 20000 in
theorem gL_law_X12_length : GoodIn wsL_law (wsV RL 50 RX12 yX12_length wsX12_length) := goodIn_app (goodIn_of _ (by decide +kernel)) ggL_law_X12_length
set_option maxRecDepth 20000 in
theorem ggL_law_X11_poke : GoodIn wsL_law wsX11_poke := goodIn_r _ [524, 18, 56, 177, 178, 179, 2, 180, 17, 826, 827, 828, 829, 830, 831, 832, 833, 834, 835, 836, 837, 838, 839, 840, 841, 842, 914, 915, 916, 917, 918, 919, 920, 921, 922] (by decide +kernel) (by decide +kernel)
set_option maxRecDepth 20000 in
theorem gL_law_X11_poke : GoodIn wsL_law (wsV RL 51 RX11 yX11_poke wsX11_poke) := goodIn_app (goodIn_of _ (by decide +kernel)) ggL_law_X11_poke
set_option maxRecDepth 20000 in
theorem ggL_law_X12_poke : GoodIn wsL_law wsX12_poke := goodIn_r _ [528, 172, 144, 458, 459, 195, 196, 197, 5, 198, 171, 199, 200, 201, 843, 844, 845, 846, 847, 848, 849, 850, 851, 852, 853, 854, 855, 856, 857, 858, 859, 860, 861, 862, 863, 864, 865, 866, 867, 868, 869, 870, 871, 872, 873, 874, 875, 876, 877, 878, 879, 880, 881] (by decide +kernel) (by decide +kernel)
set_option maxRecDepth 20000 in
theorem gL_law_X12_poke : GoodIn wsL_law (wsV RL 55 RX12 yX12_poke wsX12_poke) := goodIn_app (goodIn_of _ (by decide +kernel)) ggL_law_X12_poke
set_option maxRecDepth 20000 in
theorem ggL_law_X11_load : GoodIn wsL_law wsX11_load := goodIn_r _ [532, 56, 533, 534, 535, 536, 55, 537, 133, 135, 538, 442, 443, 444, 434, 435, 436, 539, 414, 415, 416, 137, 417, 411, 418, 419, 420, 412, 219, 220, 221, 421, 422, 423, 424, 425, 426, 427, 428, 136, 429, 430, 431, 432, 134, 433, 405, 355, 406, 437, 438, 439, 440, 441, 826, 827, 828, 829, 830, 831, 832, 833, 834, 835, 836, 837, 838, 839, 840, 841, 842, 914, 915, 916, 917, 918, 919, 920, 921, 922] (by decide +kernel) (by decide +kernel)
set_option maxRecDepth 20000 in
theorem gL_law_X11_load : GoodIn wsL_law (wsV RL 56 RX11 yX11_load wsX11_load) := goodIn_app (goodIn_of _ (by decide +kernel)) ggL_law_X11_load
set_option maxRecDepth 20000 in
theorem ggL_law_X12_load : GoodIn wsL_law wsX12_load := goodIn_r _ [543, 459, 505, 506, 507, 5, 508, 171, 144, 500, 501, 502, 503, 504, 458, 145, 509, 510, 511, 512, 843, 844, 845, 846, 847, 848, 849, 850, 851, 852, 853, 854, 855, 856, 857, 858, 859, 860, 861, 862, 863, 864, 865, 866, 867, 868, 869, 870, 871, 872, 873, 874, 875, 876, 877, 878, 879, 880, 881] (by decide +kernel) (by decide +kernel)
set_option maxRecDepth 20000 in
theorem gL_law_X12_load : GoodIn wsL_law (wsV RL 59 RX12 yX12_load wsX12_load) := goodIn_app (goodIn_of _ (by decide +kernel)) ggL_law_X12_load
set_option maxRecDepth 20000 in
theorem ggL_law_X11_code : GoodIn wsL_law wsX11_code := goodIn_r _ [547, 56, 177, 178, 179, 2, 180, 17, 826, 827, 828, 829, 830, 831, 832, 833, 834, 835, 836, 837, 838, 839, 840, 841, 842, 914, 915, 916, 917, 918, 919, 920, 921, 922] (by decide +kernel) (by decide +kernel)
set_option maxRecDepth 20000 in
theorem gL_law_X11_code : GoodIn wsL_law (wsV RL 60 RX11 yX11_code wsX11_code) := goodIn_app (goodIn_of _ (by decide +kernel)) ggL_law_X11_code
set_option maxRecDepth 20000 in
theorem ggL_law_X12_code : GoodIn wsL_law wsX12_code := goodIn_r _ [551, 459, 144, 145, 195, 196, 197, 5, 198, 171, 199, 200, 201, 843, 844, 845, 846, 847, 848, 849, 850, 851, 852, 853, 854, 855, 856, 857, 858, 859, 860, 861, 862, 863, 864, 865, 866, 867, 868, 869, 870, 871, 872, 873, 874, 875, 876, 877, 878, 879, 880, 881] (by decide +kernel) (by decide +kernel)
set_option maxRecDepth 20000 in
theorem gL_law_X12_code : GoodIn wsL_law (wsV RL 63 RX12 yX12_code wsX12_code) := goodIn_app (goodIn_of _ (by decide +kernel)) ggL_law_X12_code
set_option maxRecDepth 20000 in
theorem ggL_law_X11_encode : GoodIn wsL_law wsX11_encode := goodIn_r _ [555, 62, 556, 557, 558, 2, 559, 56, 17, 24, 560, 304, 305, 60, 306, 307, 308, 561, 562, 563, 564, 22, 565, 566, 567, 568, 569, 318, 319, 320, 99, 321, 322, 323, 324, 100, 570, 571, 572, 573, 61, 826, 827, 828, 829, 830, 831, 832, 833, 834, 835, 836, 837, 838, 839, 840, 841, 842, 914, 915, 916, 917, 918, 919, 920, 921, 922, 923, 924, 925, 926, 882, 883] (by decide +kernel) (by decide +kernel)
set_option maxRecDepth 20000 in
theorem gL_law_X11_encode : GoodIn wsL_law (wsV RL 64 RX11 yX11_encode wsX11_encode) := goodIn_app (goodIn_of _ (by decide +kernel)) ggL_law_X11_encode
set_option maxRecDepth 20000 in
theorem ggL_law_X12_encode : GoodIn wsL_law wsX12_encode := goodIn_r _ [577, 459, 578, 579, 580, 581, 5, 582, 194, 144, 143, 583, 584, 585, 586, 145, 587, 588, 589, 590, 147, 843, 844, 845, 846, 847, 848, 849, 850, 851, 852, 853, 854, 855, 856, 857, 858, 859, 860, 861, 862, 863, 864, 865, 866, 867, 868, 869, 870, 871, 872, 873, 874, 875, 876, 877, 878, 879, 880, 881] (by decide +kernel) (by decide +kernel)
set_option maxRecDepth 20000 in
theorem gL_law_X12_encode : GoodIn wsL_law (wsV RL 67 RX12 yX12_encode wsX12_encode) := goodIn_app (goodIn_of _ (by decide +kernel)) ggL_law_X12_encode
set_option maxRecDepth 20000 in
theorem ggL_law_X11_decode : GoodIn wsL_law wsX11_decode := goodIn_r _ [594, 56, 48, 61, 63, 595, 596, 597, 47, 598, 599, 600, 601, 602, 603, 604, 335, 336, 60, 337, 307, 100, 605, 606, 607, 55, 608, 137, 609, 610, 611, 612, 120, 613, 186, 187, 21, 188, 189, 68, 826, 827, 828, 829, 830, 831, 832, 833, 834, 835, 836, 837, 838, 839, 840, 841, 842, 914, 915, 916, 917, 918, 919, 920, 921, 922, 909, 910, 882, 883, 923, 924, 925, 926] (by decide +kernel) (by decide +kernel)
set_option maxRecDepth 20000 in
theorem gL_law_X11_decode : GoodIn wsL_law (wsV RL 68 RX11 yX11_decode wsX11_decode) := goodIn_app (goodIn_of _ (by decide +kernel)) ggL_law_X11_decode
set_option maxRecDepth 20000 in
theorem ggL_law_X12_decode : GoodIn wsL_law wsX12_decode := goodIn_r _ [617, 459, 618, 619, 578, 149, 148, 620, 621, 622, 623, 5, 624, 147, 171, 144, 145, 843, 844, 845, 846, 847, 848, 849, 850, 851, 852, 853, 854, 855, 856, 857, 858, 859, 860, 861, 862, 863, 864, 865, 866, 867, 868, 869, 870, 871, 872, 873, 874, 875, 876, 877, 878, 879, 880, 881] (by decide +kernel) (by decide +kernel)
set_option maxRecDepth 20000 in
theorem gL_law_X12_decode : GoodIn wsL_law (wsV RL 71 RX12 yX12_decode wsX12_decode) := goodIn_app (goodIn_of _ (by decide +kernel)) ggL_law_X12_decode
set_option maxRecDepth 20000 in
theorem ggL_law_X11_pack : GoodIn wsL_law wsX11_pack := goodIn_r _ [628, 62, 17, 56, 22, 556, 557, 558, 2, 559, 24, 560, 304, 305, 60, 306, 307, 308, 565, 566, 567, 568, 569, 318, 319, 320, 99, 321, 322, 323, 324, 100, 629, 630, 631, 632, 633, 354, 355, 356, 634, 635, 636, 55, 637, 133, 135, 561, 562, 563, 564, 570, 571, 572, 573, 61, 826, 827, 828, 829, 830, 831, 832, 833, 834, 835, 836, 837, 838, 839, 840, 841, 842, 914, 915, 916, 917, 918, 919, 920, 921, 922, 882, 883, 923, 924, 925, 926] (by decide +kernel) (by decide +kernel)
set_option maxRecDepth 20000 in
theorem gL_law_X11_pack : GoodIn wsL_law (wsV RL 72 RX11 yX11_pack wsX11_pack) := goodIn_app (goodIn_of _ (by decide +kernel)) ggL_law_X11_pack
set_option maxRecDepth 20000 in
theorem ggL_law_X12_pack : GoodIn wsL_law wsX12_pack := goodIn_r _ [641, 459, 578, 171, 458, 144, 194, 579, 580, 581, 5, 582, 143, 642, 643, 644, 645, 646, 647, 648, 649, 587, 588, 589, 590, 147, 583, 584, 585, 586, 145, 843, 844, 845, 846, 847, 848, 849, 850, 851, 852, 853, 854, 855, 856, 857, 858, 859, 860, 861, 862, 863, 864, 865, 866, 867, 868, 869, 870, 871, 872, 873, 874, 875, 876, 877, 878, 879, 880, 881] (by decide +kernel) (by decide +kernel)
set_option maxRecDepth 20000 in
theorem gL_law_X12_pack : GoodIn wsL_law (wsV RL 75 RX12 yX12_pack wsX12_pack) := goodIn_app (goodIn_of _ (by decide +kernel)) ggL_law_X12_pack
set_option maxRecDepth 20000 in
theorem ggL_law_X11_unpack : GoodIn wsL_law wsX11_unpack := goodIn_r _ [653, 48, 61, 57, 64, 56, 63, 654, 655, 656, 47, 657, 599, 658, 659, 660, 661, 662, 663, 664, 665, 609, 610, 611, 612, 120, 604, 335, 336, 60, 337, 307, 100, 666, 667, 668, 669, 670, 219, 220, 221, 671, 672, 673, 55, 674, 418, 411, 675, 535, 536, 537, 133, 135, 441, 442, 443, 444, 434, 435, 436, 676, 677, 678, 679, 680, 414, 415, 416, 137, 417, 419, 420, 412, 421, 422, 423, 424, 425, 426, 427, 428, 136, 429, 430, 431, 432, 134, 433, 405, 355, 406, 437, 438, 439, 440, 600, 601, 602, 603, 605, 606, 607, 608, 613, 186, 187, 21, 188, 189, 68, 826, 827, 828, 829, 830, 831, 832, 833, 834, 835, 836, 837, 838, 839, 840, 841, 842, 909, 910, 882, 883, 923, 924, 925, 926, 914, 915, 916, 917, 918, 919, 920, 921, 922] (by decide +kernel) (by decide +kernel)
set_option maxRecDepth 20000 in
theorem gL_law_X11_unpack : GoodIn wsL_law (wsV RL 76 RX11 yX11_unpack wsX11_unpack) := goodIn_app (goodIn_of _ (by decide +kernel)) ggL_law_X11_unpack
set_option maxRecDepth 20000 in
theorem ggL_law_X12_unpack : GoodIn wsL_law wsX12_unpack := goodIn_r _ [684, 458, 459, 171, 162, 144, 619, 163, 148, 685, 686, 687, 5, 688, 618, 578, 620, 689, 690, 691, 692, 147, 693, 694, 695, 696, 149, 697, 698, 699, 700, 172, 500, 501, 502, 503, 504, 145, 505, 506, 507, 508, 509, 510, 511, 512, 621, 622, 623, 624, 843, 844, 845, 846, 847, 848, 849, 850, 851, 852, 853, 854, 855, 856, 857, 858, 859, 860, 861, 862, 863, 864, 865, 866, 867, 868, 869, 870, 871, 872, 873, 874, 875, 876, 877, 878, 879, 880, 881] (by decide +kernel) (by decide +kernel)
set_option maxRecDepth 20000 in
theorem gL_law_X12_unpack : GoodIn wsL_law (wsV RL 79 RX12 yX12_unpack wsX12_unpack) := goodIn_app (goodIn_of _ (by decide +kernel)) ggL_law_X12_unpack
set_option maxRecDepth 20000 in
theorem ggL_law_X11_push : GoodIn wsL_law wsX11_push := goodIn_r _ [704, 61, 565, 566, 567, 60, 568, 569, 318, 319, 320, 307, 99, 308, 321, 322, 323, 324, 100, 826, 827, 828, 829, 830, 831, 832, 833, 834, 835, 836, 837, 838, 839, 840, 841, 842, 923, 924, 925, 926] (by decide +kernel) (by decide +kernel)
set_option maxRecDepth 20000 in
theorem gL_law_X11_push : GoodIn wsL_law (wsV RL 80 RX11 yX11_push wsX11_push) := goodIn_app (goodIn_of _ (by decide +kernel)) ggL_law_X11_push
set_option maxRecDepth 20000 in
theorem ggL_law_X12_push : GoodIn wsL_law wsX12_push := goodIn_r _ [708, 578, 199, 200, 5, 201, 587, 588, 589, 590, 147, 843, 844, 845, 846, 847, 848, 849, 850, 851, 852, 853, 854, 855, 856, 857, 858, 859, 860, 861, 862, 863, 864, 865, 866, 867, 868, 869, 870, 871, 872, 873, 874, 875, 876, 877, 878, 879, 880, 881] (by decide +kernel) (by decide +kernel)
set_option maxRecDepth 20000 in
theorem gL_law_X12_push : GoodIn wsL_law (wsV RL 83 RX12 yX12_push wsX12_push) := goodIn_app (goodIn_of _ (by decide +kernel)) ggL_law_X12_push
set_option maxRecDepth 20000 in
theorem ggL_law_X11_cut : GoodIn wsL_law wsX11_cut := goodIn_r _ [712, 61, 826, 827, 828, 829, 830, 831, 832, 833, 834, 835, 836, 837, 838, 839, 840, 841, 842, 923, 924, 925, 926] (by decide +kernel) (by decide +kernel)
set_option maxRecDepth 20000 in
theorem gL_law_X11_cut : GoodIn wsL_law (wsV RL 84 RX11 yX11_cut wsX11_cut) := goodIn_app (goodIn_of _ (by decide +kernel)) ggL_law_X11_cut
set_option maxRecDepth 20000 in
theorem ggL_law_X12_cut : GoodIn wsL_law wsX12_cut := goodIn_r _ [716, 578, 199, 200, 5, 201, 843, 844, 845, 846, 847, 848, 849, 850, 851, 852, 853, 854, 855, 856, 857, 858, 859, 860, 861, 862, 863, 864, 865, 866, 867, 868, 869, 870, 871, 872, 873, 874, 875, 876, 877, 878, 879, 880, 881] (by decide +kernel) (by decide +kernel)
set_option maxRecDepth 20000 in
theorem gL_law_X12_cut : GoodIn wsL_law (wsV RL 87 RX12 yX12_cut wsX12_cut) := goodIn_app (goodIn_of _ (by decide +kernel)) ggL_law_X12_cut
set_option maxRecDepth 20000 in
theorem ggL_law_X11_bit : GoodIn wsL_law wsX11_bit := goodIn_r _ [720, 61, 721, 335, 336, 60, 337, 307, 100, 826, 827, 828, 829, 830, 831, 832, 833, 834, 835, 836, 837, 838, 839, 840, 841, 842, 923, 924, 925, 926] (by decide +kernel) (by decide +kernel)
set_option maxRecDepth 20000 in
theorem gL_law_X11_bit : GoodIn wsL_law (wsV RL 88 RX11 yX11_bit wsX11_bit) := goodIn_app (goodIn_of _ (by decide +kernel)) ggL_law_X11_bit
set_option maxRecDepth 20000 in
theorem ggL_law_X12_bit : GoodIn wsL_law wsX12_bit := goodIn_r _ [725, 578, 147, 199, 200, 5, 201, 843, 844, 845, 846, 847, 848, 849, 850, 851, 852, 853, 854, 855, 856, 857, 858, 859, 860, 861, 862, 863, 864, 865, 866, 867, 868, 869, 870, 871, 872, 873, 874, 875, 876, 877, 878, 879, 880, 881] (by decide +kernel) (by decide +kernel)
set_option maxRecDepth 20000 in
theorem gL_law_X12_bit : GoodIn wsL_law (wsV RL 91 RX12 yX12_bit wsX12_bit) := goodIn_app (goodIn_of _ (by decide +kernel)) ggL_law_X12_bit
set_option maxRecDepth 20000 in
theorem ggL_law_X11_turn : GoodIn wsL_law wsX11_turn := goodIn_r _ [729, 61, 721, 335, 336, 60, 337, 307, 100, 730, 322, 323, 324, 826, 827, 828, 829, 830, 831, 832, 833, 834, 835, 836, 837, 838, 839, 840, 841, 842, 923, 924, 925, 926] (by decide +kernel) (by decide +kernel)
set_option maxRecDepth 20000 in
theorem gL_law_X11_turn : GoodIn wsL_law (wsV RL 92 RX11 yX11_turn wsX11_turn) := goodIn_app (goodIn_of _ (by decide +kernel)) ggL_law_X11_turn
set_option maxRecDepth 20000 in
theorem ggL_law_X12_turn : GoodIn wsL_law wsX12_turn := goodIn_r _ [734, 578, 147, 199, 200, 5, 201, 843, 844, 845, 846, 847, 848, 849, 850, 851, 852, 853, 854, 855, 856, 857, 858, 859, 860, 861, 862, 863, 864, 865, 866, 867, 868, 869, 870, 871, 872, 873, 874, 875, 876, 877, 878, 879, 880, 881] (by decide +kernel) (by decide +kernel)
set_option maxRecDepth 20000 in
theorem gL_law_X12_turn : GoodIn wsL_law (wsV RL 95 RX12 yX12_turn wsX12_turn) := goodIn_app (goodIn_of _ (by decide +kernel)) ggL_law_X12_turn
set_option maxRecDepth 20000 in
theorem ggL_law_X11_out : GoodIn wsL_law wsX11_out := goodIn_r _ [738, 63, 739, 740, 741, 21, 742, 189, 68, 826, 827, 828, 829, 830, 831, 832, 833, 834, 835, 836, 837, 838, 839, 840, 841, 842, 882, 883] (by decide +kernel) (by decide +kernel)
set_option maxRecDepth 20000 in
theorem gL_law_X11_out : GoodIn wsL_law (wsV RL 96 RX11 yX11_out wsX11_out) := goodIn_app (goodIn_of _ (by decide +kernel)) ggL_law_X11_out
set_option maxRecDepth 20000 in
theorem ggL_law_X12_out : GoodIn wsL_law wsX12_out := goodIn_r _ [746, 619, 148, 199, 200, 5, 201, 843, 844, 845, 846, 847, 848, 849, 850, 851, 852, 853, 854, 855, 856, 857, 858, 859, 860, 861, 862, 863, 864, 865, 866, 867, 868, 869, 870, 871, 872, 873, 874, 875, 876, 877, 878, 879, 880, 881] (by decide +kernel) (by decide +kernel)
set_option maxRecDepth 20000 in
theorem gL_law_X12_out : GoodIn wsL_law (wsV RL 99 RX12 yX12_out wsX12_out) := goodIn_app (goodIn_of _ (by decide +kernel)) ggL_law_X12_out
set_option maxRecDepth 20000 in
theorem ggL_law_X11_place : GoodIn wsL_law wsX11_place := goodIn_r _ [750, 48, 826, 827, 828, 829, 830, 831, 832, 833, 834, 835, 836, 837, 838, 839, 840, 841, 842, 909, 910] (by decide +kernel) (by decide +kernel)
set_option maxRecDepth 20000 in
theorem gL_law_X11_place : GoodIn wsL_law (wsV RL 100 RX11 yX11_place wsX11_place) := goodIn_app (goodIn_of _ (by decide +kernel)) ggL_law_X11_place
set_option maxRecDepth 20000 in
theorem ggL_law_X12_place : GoodIn wsL_law wsX12_place := goodIn_r _ [754, 149, 843, 844, 845, 846, 847, 848, 849, 850, 851, 852, 853, 854, 855, 856, 857, 858, 859, 860, 861, 862, 863, 864, 865, 866, 867, 868, 869, 870, 871, 872, 873, 874, 875, 876, 877, 878, 879, 880, 881] (by decide +kernel) (by decide +kernel)
set_option maxRecDepth 20000 in
theorem gL_law_X12_place : GoodIn wsL_law (wsV RL 103 RX12 yX12_place wsX12_place) := goodIn_app (goodIn_of _ (by decide +kernel)) ggL_law_X12_place
set_option maxRecDepth 20000 in
theorem ggL_law_X11_key : GoodIn wsL_law wsX11_key := goodIn_r _ [758, 52, 56, 759, 760, 761, 51, 762, 127, 763, 304, 305, 60, 306, 307, 308, 534, 535, 536, 55, 537, 133, 135, 764, 765, 766, 767, 124, 125, 768, 219, 220, 221, 769, 770, 771, 772, 405, 355, 406, 773, 606, 607, 608, 137, 774, 775, 776, 777, 778, 318, 319, 320, 99, 321, 322, 323, 324, 100, 779, 826, 827, 828, 829, 830, 831, 832, 833, 834, 835, 836, 837, 838, 839, 840, 841, 842, 914, 915, 916, 917, 918, 919, 920, 921, 922, 911, 912, 913, 923, 924, 925, 926] (by decide +kernel) (by decide +kernel)
set_option maxRecDepth 20000 in
theorem gL_law_X11_key : GoodIn wsL_law (wsV RL 104 RX11 yX11_key wsX11_key) := goodIn_app (goodIn_of _ (by decide +kernel)) ggL_law_X11_key
set_option maxRecDepth 20000 in
theorem ggL_law_X12_key : GoodIn wsL_law wsX12_key := goodIn_r _ [783, 784, 459, 504, 167, 785, 169, 168, 505, 506, 507, 5, 508, 171, 144, 509, 510, 511, 512, 199, 200, 201, 786, 787, 788, 789, 164, 165, 145, 166, 790, 791, 792, 793, 794, 795, 796, 797, 798, 799, 800, 801, 802, 803, 804, 805, 170, 843, 844, 845, 846, 847, 848, 849, 850, 851, 852, 853, 854, 855, 856, 857, 858, 859, 860, 861, 862, 863, 864, 865, 866, 867, 868, 869, 870, 871, 872, 873, 874, 875, 876, 877, 878, 879, 880, 881] (by decide +kernel) (by decide +kernel)
set_option maxRecDepth 20000 in
theorem gL_law_X12_key : GoodIn wsL_law (wsV RL 107 RX12 yX12_key wsX12_key) := goodIn_app (goodIn_of _ (by decide +kernel)) ggL_law_X12_key
set_option maxRecDepth 20000 in
theorem ggL_law_X11_keyBit : GoodIn wsL_law wsX11_keyBit := goodIn_r _ [809, 52, 721, 335, 336, 60, 337, 307, 100, 826, 827, 828, 829, 830, 831, 832, 833, 834, 835, 836, 837, 838, 839, 840, 841, 842, 911, 912, 913, 923, 924, 925, 926] (by decide +kernel) (by decide +kernel)
set_option maxRecDepth 20000 in
theorem gL_law_X11_keyBit : GoodIn wsL_law (wsV RL 108 RX11 yX11_keyBit wsX11_keyBit) := goodIn_app (goodIn_of _ (by decide +kernel)) ggL_law_X11_keyBit
set_option maxRecDepth 20000 in
theorem ggL_law_X12_keyBit : GoodIn wsL_law wsX12_keyBit := goodIn_r _ [813, 784, 170, 199, 200, 5, 201, 843, 844, 845, 846, 847, 848, 849, 850, 851, 852, 853, 854, 855, 856, 857, 858, 859, 860, 861, 862, 863, 864, 865, 866, 867, 868, 869, 870, 871, 872, 873, 874, 875, 876, 877, 878, 879, 880, 881] (by decide +kernel) (by decide +kernel)
set_option maxRecDepth 20000 in
theorem gL_law_X12_keyBit : GoodIn wsL_law (wsV RL 111 RX12 yX12_keyBit wsX12_keyBit) := goodIn_app (goodIn_of _ (by decide +kernel)) ggL_law_X12_keyBit
set_option maxRecDepth 20000 in
theorem ggL_law_X11_told : GoodIn wsL_law wsX11_told := goodIn_r _ [817, 17, 18, 22, 61, 63, 56, 818, 819, 820, 2, 821, 24, 534, 535, 536, 55, 537, 133, 135, 826, 827, 828, 829, 830, 831, 832, 833, 834, 835, 836, 837, 838, 839, 840, 841, 842, 882, 883, 923, 924, 925, 926, 914, 915, 916, 917, 918, 919, 920, 921, 922] (by decide +kernel) (by decide +kernel)
set_option maxRecDepth 20000 in
theorem gL_law_X11_told : GoodIn wsL_law (wsV RL 112 RX11 yX11_told wsX11_told) := goodIn_app (goodIn_of _ (by decide +kernel)) ggL_law_X11_told
set_option maxRecDepth 20000 in
theorem ggL_law_X12_told : GoodIn wsL_law wsX12_told := goodIn_r _ [825, 171, 172, 194, 578, 619, 459, 504, 458, 234, 235, 236, 5, 237, 143, 505, 506, 507, 508, 144, 509, 510, 511, 512, 843, 844, 845, 846, 847, 848, 849, 850, 851, 852, 853, 854, 855, 856, 857, 858, 859, 860, 861, 862, 863, 864, 865, 866, 867, 868, 869, 870, 871, 872, 873, 874, 875, 876, 877, 878, 879, 880, 881] (by decide +kernel) (by decide +kernel)
set_option maxRecDepth 20000 in
theorem gL_law_X12_told : GoodIn wsL_law (wsV RL 115 RX12 yX12_told wsX12_told) := goodIn_app (goodIn_of _ (by decide +kernel)) ggL_law_X12_told
theorem dL_law_0 : decode cL_law 0 = .ok (.new 7, 3) := by decide +kernel
theorem dL_law_3 : decode cL_law 3 = .ok (.dup, 1) := by decide +kernel
theorem dL_law_4 : decode cL_law 4 = .ok (.aload_n 0, 1) := by decide +kernel
theorem dL_law_5 : decode cL_law 5 = .ok (.iconst 0, 1) := by decide +kernel
theorem dL_law_6 : decode cL_law 6 = .ok (.invokestatic 9, 3) := by decide +kernel
theorem dL_law_9 : decode cL_law 9 = .ok (.aload_n 0, 1) := by decide +kernel
theorem dL_law_10 : decode cL_law 10 = .ok (.iconst 1, 1) := by decide +kernel
theorem dL_law_11 : decode cL_law 11 = .ok (.invokestatic 9, 3) := by decide +kernel
theorem dL_law_14 : decode cL_law 14 = .ok (.invokespecial 15, 3) := by decide +kernel
theorem dL_law_17 : decode cL_law 17 = .ok (.astore_n 1, 1) := by decide +kernel
theorem dL_law_18 : decode cL_law 18 = .ok (.new 18, 3) := by decide +kernel
theorem dL_law_21 : decode cL_law 21 = .ok (.dup, 1) := by decide +kernel
theorem dL_law_22 : decode cL_law 22 = .ok (.aload_n 0, 1) := by decide +kernel
theorem dL_law_23 : decode cL_law 23 = .ok (.iconst 0, 1) := by decide +kernel
theorem dL_law_24 : decode cL_law 24 = .ok (.invokestatic 9, 3) := by decide +kernel
theorem dL_law_27 : decode cL_law 27 = .ok (.aload_n 0, 1) := by decide +kernel
theorem dL_law_28 : decode cL_law 28 = .ok (.iconst 1, 1) := by decide +kernel
theorem dL_law_29 : decode cL_law 29 = .ok (.invokestatic 9, 3) := by decide +kernel
theorem dL_law_32 : decode cL_law 32 = .ok (.invokespecial 20, 3) := by decide +kernel
theorem dL_law_35 : decode cL_law 35 = .ok (.astore_n 2, 1) := by decide +kernel
theorem dL_law_36 : decode cL_law 36 = .ok (.iconst 2, 1) := by decide +kernel
theorem dL_law_37 : decode cL_law 37 = .ok (.istore_n 3, 1) := by decide +kernel
theorem dL_law_38 : decode cL_law 38 = .ok (.iload_n 3, 1) := by decide +kernel
theorem dL_law_39 : decode cL_law 39 = .ok (.aload_n 0, 1) := by decide +kernel
theorem dL_law_40 : decode cL_law 40 = .ok (.arraylength, 1) := by decide +kernel
theorem dL_law_41 : decode cL_law 41 = .ok (.iconst 4, 1) := by decide +kernel
theorem dL_law_42 : decode cL_law 42 = .ok (.isub, 1) := by decide +kernel
theorem dL_law_43 : decode cL_law 43 = .ok (.if_icmp .gt 606, 3) := by decide +kernel
theorem dL_law_46 : decode cL_law 46 = .ok (.aload_n 0, 1) := by decide +kernel
theorem dL_law_47 : decode cL_law 47 = .ok (.iload_n 3, 1) := by decide +kernel
theorem dL_law_48 : decode cL_law 48 = .ok (.iaload, 1) := by decide +kernel
theorem dL_law_49 : decode cL_law 49 = .ok (.bipush 31, 2) := by decide +kernel
theorem dL_law_51 : decode cL_law 51 = .ok (.iand, 1) := by decide +kernel
theorem dL_law_52 : decode cL_law 52 = .ok (.tableswitch 591 0 21 #[104, 127, 190, 203, 226, 250, 273, 306, 319, 342, 355, 368, 381, 394, 427, 450, 473, 496, 519, 532, 545, 568], 104) := by decide +kernel
theorem dL_law_156 : decode cL_law 156 = .ok (.aload_n 1, 1) := by decide +kernel
theorem dL_law_157 : decode cL_law 157 = .ok (.aload_n 0, 1) := by decide +kernel
theorem dL_law_158 : decode cL_law 158 = .ok (.iload_n 3, 1) := by decide +kernel
theorem dL_law_159 : decode cL_law 159 = .ok (.iconst 1, 1) := by decide +kernel
theorem dL_law_160 : decode cL_law 160 = .ok (.iadd, 1) := by decide +kernel
theorem dL_law_161 : decode cL_law 161 = .ok (.iaload, 1) := by decide +kernel
theorem dL_law_162 : decode cL_law 162 = .ok (.invokevirtual 21, 3) := by decide +kernel
theorem dL_law_165 : decode cL_law 165 = .ok (.aload_n 2, 1) := by decide +kernel
theorem dL_law_166 : decode cL_law 166 = .ok (.aload_n 0, 1) := by decide +kernel
theorem dL_law_167 : decode cL_law 167 = .ok (.iload_n 3, 1) := by decide +kernel
theorem dL_law_168 : decode cL_law 168 = .ok (.iconst 1, 1) := by decide +kernel
theorem dL_law_169 : decode cL_law 169 = .ok (.iadd, 1) := by decide +kernel
theorem dL_law_170 : decode cL_law 170 = .ok (.iaload, 1) := by decide +kernel
theorem dL_law_171 : decode cL_law 171 = .ok (.invokevirtual 25, 3) := by decide +kernel
theorem dL_law_174 : decode cL_law 174 = .ok (.if_icmp .eq 469, 3) := by decide +kernel
theorem dL_law_177 : decode cL_law 177 = .ok (.iconst 0, 1) := by decide +kernel
theorem dL_law_178 : decode cL_law 178 = .ok (.ireturn, 1) := by decide +kernel
theorem dL_law_179 : decode cL_law 179 = .ok (.aload_n 1, 1) := by decide +kernel
theorem dL_law_180 : decode cL_law 180 = .ok (.aload_n 0, 1) := by decide +kernel
theorem dL_law_181 : decode cL_law 181 = .ok (.iload_n 3, 1) := by decide +kernel
theorem dL_law_182 : decode cL_law 182 = .ok (.iconst 1, 1) := by decide +kernel
theorem dL_law_183 : decode cL_law 183 = .ok (.iadd, 1) := by decide +kernel
theorem dL_law_184 : decode cL_law 184 = .ok (.iaload, 1) := by decide +kernel
theorem dL_law_185 : decode cL_law 185 = .ok (.i2l, 1) := by decide +kernel
theorem dL_law_186 : decode cL_law 186 = .ok (.bipush 32, 2) := by decide +kernel
theorem dL_law_188 : decode cL_law 188 = .ok (.lshl, 1) := by decide +kernel
theorem dL_law_189 : decode cL_law 189 = .ok (.aload_n 0, 1) := by decide +kernel
theorem dL_law_190 : decode cL_law 190 = .ok (.iload_n 3, 1) := by decide +kernel
theorem dL_law_191 : decode cL_law 191 = .ok (.iconst 2, 1) := by decide +kernel
theorem dL_law_192 : decode cL_law 192 = .ok (.iadd, 1) := by decide +kernel
theorem dL_law_193 : decode cL_law 193 = .ok (.iaload, 1) := by decide +kernel
theorem dL_law_194 : decode cL_law 194 = .ok (.i2l, 1) := by decide +kernel
theorem dL_law_195 : decode cL_law 195 = .ok (.ldc2_w 26, 3) := by decide +kernel
theorem dL_law_198 : decode cL_law 198 = .ok (.land, 1) := by decide +kernel
theorem dL_law_199 : decode cL_law 199 = .ok (.lor, 1) := by decide +kernel
theorem dL_law_200 : decode cL_law 200 = .ok (.aload_n 0, 1) := by decide +kernel
theorem dL_law_201 : decode cL_law 201 = .ok (.iload_n 3, 1) := by decide +kernel
theorem dL_law_202 : decode cL_law 202 = .ok (.iconst 3, 1) := by decide +kernel
theorem dL_law_203 : decode cL_law 203 = .ok (.iadd, 1) := by decide +kernel
theorem dL_law_204 : decode cL_law 204 = .ok (.iaload, 1) := by decide +kernel
theorem dL_law_205 : decode cL_law 205 = .ok (.invokevirtual 28, 3) := by decide +kernel
theorem dL_law_208 : decode cL_law 208 = .ok (.aload_n 2, 1) := by decide +kernel
theorem dL_law_209 : decode cL_law 209 = .ok (.aload_n 0, 1) := by decide +kernel
theorem dL_law_210 : decode cL_law 210 = .ok (.iload_n 3, 1) := by decide +kernel
theorem dL_law_211 : decode cL_law 211 = .ok (.iconst 1, 1) := by decide +kernel
theorem dL_law_212 : decode cL_law 212 = .ok (.iadd, 1) := by decide +kernel
theorem dL_law_213 : decode cL_law 213 = .ok (.iaload, 1) := by decide +kernel
theorem dL_law_214 : decode cL_law 214 = .ok (.i2l, 1) := by decide +kernel
theorem dL_law_215 : decode cL_law 215 = .ok (.bipush 32, 2) := by decide +kernel
theorem dL_law_217 : decode cL_law 217 = .ok (.lshl, 1) := by decide +kernel
theorem dL_law_218 : decode cL_law 218 = .ok (.aload_n 0, 1) := by decide +kernel
theorem dL_law_219 : decode cL_law 219 = .ok (.iload_n 3, 1) := by decide +kernel
theorem dL_law_220 : decode cL_law 220 = .ok (.iconst 2, 1) := by decide +kernel
theorem dL_law_221 : decode cL_law 221 = .ok (.iadd, 1) := by decide +kernel
theorem dL_law_222 : decode cL_law 222 = .ok (.iaload, 1) := by decide +kernel
theorem dL_law_223 : decode cL_law 223 = .ok (.i2l, 1) := by decide +kernel
theorem dL_law_224 : decode cL_law 224 = .ok (.ldc2_w 26, 3) := by decide +kernel
theorem dL_law_227 : decode cL_law 227 = .ok (.land, 1) := by decide +kernel
theorem dL_law_228 : decode cL_law 228 = .ok (.lor, 1) := by decide +kernel
theorem dL_law_229 : decode cL_law 229 = .ok (.aload_n 0, 1) := by decide +kernel
theorem dL_law_230 : decode cL_law 230 = .ok (.iload_n 3, 1) := by decide +kernel
theorem dL_law_231 : decode cL_law 231 = .ok (.iconst 3, 1) := by decide +kernel
theorem dL_law_232 : decode cL_law 232 = .ok (.iadd, 1) := by decide +kernel
theorem dL_law_233 : decode cL_law 233 = .ok (.iaload, 1) := by decide +kernel
theorem dL_law_234 : decode cL_law 234 = .ok (.invokevirtual 32, 3) := by decide +kernel
theorem dL_law_237 : decode cL_law 237 = .ok (.if_icmp .eq 406, 3) := by decide +kernel
theorem dL_law_240 : decode cL_law 240 = .ok (.iconst 0, 1) := by decide +kernel
theorem dL_law_241 : decode cL_law 241 = .ok (.ireturn, 1) := by decide +kernel
theorem dL_law_242 : decode cL_law 242 = .ok (.aload_n 1, 1) := by decide +kernel
theorem dL_law_243 : decode cL_law 243 = .ok (.invokevirtual 33, 3) := by decide +kernel
theorem dL_law_246 : decode cL_law 246 = .ok (.aload_n 2, 1) := by decide +kernel
theorem dL_law_247 : decode cL_law 247 = .ok (.invokevirtual 37, 3) := by decide +kernel
theorem dL_law_250 : decode cL_law 250 = .ok (.if_icmp .eq 393, 3) := by decide +kernel
theorem dL_law_253 : decode cL_law 253 = .ok (.iconst 0, 1) := by decide +kernel
theorem dL_law_254 : decode cL_law 254 = .ok (.ireturn, 1) := by decide +kernel
theorem dL_law_255 : decode cL_law 255 = .ok (.aload_n 1, 1) := by decide +kernel
theorem dL_law_256 : decode cL_law 256 = .ok (.aload_n 0, 1) := by decide +kernel
theorem dL_law_257 : decode cL_law 257 = .ok (.iload_n 3, 1) := by decide +kernel
theorem dL_law_258 : decode cL_law 258 = .ok (.iconst 1, 1) := by decide +kernel
theorem dL_law_259 : decode cL_law 259 = .ok (.iadd, 1) := by decide +kernel
theorem dL_law_260 : decode cL_law 260 = .ok (.iaload, 1) := by decide +kernel
theorem dL_law_261 : decode cL_law 261 = .ok (.invokevirtual 38, 3) := by decide +kernel
theorem dL_law_264 : decode cL_law 264 = .ok (.aload_n 2, 1) := by decide +kernel
theorem dL_law_265 : decode cL_law 265 = .ok (.aload_n 0, 1) := by decide +kernel
theorem dL_law_266 : decode cL_law 266 = .ok (.iload_n 3, 1) := by decide +kernel
theorem dL_law_267 : decode cL_law 267 = .ok (.iconst 1, 1) := by decide +kernel
theorem dL_law_268 : decode cL_law 268 = .ok (.iadd, 1) := by decide +kernel
theorem dL_law_269 : decode cL_law 269 = .ok (.iaload, 1) := by decide +kernel
theorem dL_law_270 : decode cL_law 270 = .ok (.invokevirtual 41, 3) := by decide +kernel
theorem dL_law_273 : decode cL_law 273 = .ok (.if_icmp .eq 370, 3) := by decide +kernel
theorem dL_law_276 : decode cL_law 276 = .ok (.iconst 0, 1) := by decide +kernel
theorem dL_law_277 : decode cL_law 277 = .ok (.ireturn, 1) := by decide +kernel
theorem dL_law_278 : decode cL_law 278 = .ok (.aload_n 1, 1) := by decide +kernel
theorem dL_law_279 : decode cL_law 279 = .ok (.aload_n 0, 1) := by decide +kernel
theorem dL_law_280 : decode cL_law 280 = .ok (.iload_n 3, 1) := by decide +kernel
theorem dL_law_281 : decode cL_law 281 = .ok (.iconst 1, 1) := by decide +kernel
theorem dL_law_282 : decode cL_law 282 = .ok (.iadd, 1) := by decide +kernel
theorem dL_law_283 : decode cL_law 283 = .ok (.iaload, 1) := by decide +kernel
theorem dL_law_284 : decode cL_law 284 = .ok (.invokevirtual 42, 3) := by decide +kernel
theorem dL_law_287 : decode cL_law 287 = .ok (.aload_n 2, 1) := by decide +kernel
theorem dL_law_288 : decode cL_law 288 = .ok (.aload_n 0, 1) := by decide +kernel
theorem dL_law_289 : decode cL_law 289 = .ok (.iload_n 3, 1) := by decide +kernel
theorem dL_law_290 : decode cL_law 290 = .ok (.iconst 1, 1) := by decide +kernel
theorem dL_law_291 : decode cL_law 291 = .ok (.iadd, 1) := by decide +kernel
theorem dL_law_292 : decode cL_law 292 = .ok (.iaload, 1) := by decide +kernel
theorem dL_law_293 : decode cL_law 293 = .ok (.invokevirtual 46, 3) := by decide +kernel
theorem dL_law_296 : decode cL_law 296 = .ok (.lcmp, 1) := by decide +kernel
theorem dL_law_297 : decode cL_law 297 = .ok (.ifCond .eq 346, 3) := by decide +kernel
theorem dL_law_300 : decode cL_law 300 = .ok (.iconst 0, 1) := by decide +kernel
theorem dL_law_301 : decode cL_law 301 = .ok (.ireturn, 1) := by decide +kernel
theorem dL_law_302 : decode cL_law 302 = .ok (.aload_n 1, 1) := by decide +kernel
theorem dL_law_303 : decode cL_law 303 = .ok (.aload_n 0, 1) := by decide +kernel
theorem dL_law_304 : decode cL_law 304 = .ok (.iload_n 3, 1) := by decide +kernel
theorem dL_law_305 : decode cL_law 305 = .ok (.iconst 1, 1) := by decide +kernel
theorem dL_law_306 : decode cL_law 306 = .ok (.iadd, 1) := by decide +kernel
theorem dL_law_307 : decode cL_law 307 = .ok (.iaload, 1) := by decide +kernel
theorem dL_law_308 : decode cL_law 308 = .ok (.invokevirtual 47, 3) := by decide +kernel
theorem dL_law_311 : decode cL_law 311 = .ok (.aload_n 2, 1) := by decide +kernel
theorem dL_law_312 : decode cL_law 312 = .ok (.aload_n 0, 1) := by decide +kernel
theorem dL_law_313 : decode cL_law 313 = .ok (.iload_n 3, 1) := by decide +kernel
theorem dL_law_314 : decode cL_law 314 = .ok (.iconst 1, 1) := by decide +kernel
theorem dL_law_315 : decode cL_law 315 = .ok (.iadd, 1) := by decide +kernel
theorem dL_law_316 : decode cL_law 316 = .ok (.iaload, 1) := by decide +kernel
theorem dL_law_317 : decode cL_law 317 = .ok (.invokevirtual 50, 3) := by decide +kernel
theorem dL_law_320 : decode cL_law 320 = .ok (.if_icmp .eq 323, 3) := by decide +kernel
theorem dL_law_323 : decode cL_law 323 = .ok (.iconst 0, 1) := by decide +kernel
theorem dL_law_324 : decode cL_law 324 = .ok (.ireturn, 1) := by decide +kernel
theorem dL_law_325 : decode cL_law 325 = .ok (.aload_n 1, 1) := by decide +kernel
theorem dL_law_326 : decode cL_law 326 = .ok (.aload_n 0, 1) := by decide +kernel
theorem dL_law_327 : decode cL_law 327 = .ok (.iload_n 3, 1) := by decide +kernel
theorem dL_law_328 : decode cL_law 328 = .ok (.iconst 1, 1) := by decide +kernel
theorem dL_law_329 : decode cL_law 329 = .ok (.iadd, 1) := by decide +kernel
theorem dL_law_330 : decode cL_law 330 = .ok (.iaload, 1) := by decide +kernel
theorem dL_law_331 : decode cL_law 331 = .ok (.aload_n 0, 1) := by decide +kernel
theorem dL_law_332 : decode cL_law 332 = .ok (.iload_n 3, 1) := by decide +kernel
theorem dL_law_333 : decode cL_law 333 = .ok (.iconst 2, 1) := by decide +kernel
theorem dL_law_334 : decode cL_law 334 = .ok (.iadd, 1) := by decide +kernel
theorem dL_law_335 : decode cL_law 335 = .ok (.iaload, 1) := by decide +kernel
theorem dL_law_336 : decode cL_law 336 = .ok (.invokevirtual 51, 3) := by decide +kernel
theorem dL_law_339 : decode cL_law 339 = .ok (.aload_n 2, 1) := by decide +kernel
theorem dL_law_340 : decode cL_law 340 = .ok (.aload_n 0, 1) := by decide +kernel
theorem dL_law_341 : decode cL_law 341 = .ok (.iload_n 3, 1) := by decide +kernel
theorem dL_law_342 : decode cL_law 342 = .ok (.iconst 1, 1) := by decide +kernel
theorem dL_law_343 : decode cL_law 343 = .ok (.iadd, 1) := by decide +kernel
theorem dL_law_344 : decode cL_law 344 = .ok (.iaload, 1) := by decide +kernel
theorem dL_law_345 : decode cL_law 345 = .ok (.aload_n 0, 1) := by decide +kernel
theorem dL_law_346 : decode cL_law 346 = .ok (.iload_n 3, 1) := by decide +kernel
theorem dL_law_347 : decode cL_law 347 = .ok (.iconst 2, 1) := by decide +kernel
theorem dL_law_348 : decode cL_law 348 = .ok (.iadd, 1) := by decide +kernel
theorem dL_law_349 : decode cL_law 349 = .ok (.iaload, 1) := by decide +kernel
theorem dL_law_350 : decode cL_law 350 = .ok (.invokevirtual 55, 3) := by decide +kernel
theorem dL_law_353 : decode cL_law 353 = .ok (.if_icmp .eq 290, 3) := by decide +kernel
theorem dL_law_356 : decode cL_law 356 = .ok (.iconst 0, 1) := by decide +kernel
theorem dL_law_357 : decode cL_law 357 = .ok (.ireturn, 1) := by decide +kernel
theorem dL_law_358 : decode cL_law 358 = .ok (.aload_n 1, 1) := by decide +kernel
theorem dL_law_359 : decode cL_law 359 = .ok (.invokevirtual 56, 3) := by decide +kernel
theorem dL_law_362 : decode cL_law 362 = .ok (.aload_n 2, 1) := by decide +kernel
theorem dL_law_363 : decode cL_law 363 = .ok (.invokevirtual 59, 3) := by decide +kernel
theorem dL_law_366 : decode cL_law 366 = .ok (.if_icmp .eq 277, 3) := by decide +kernel
theorem dL_law_369 : decode cL_law 369 = .ok (.iconst 0, 1) := by decide +kernel
theorem dL_law_370 : decode cL_law 370 = .ok (.ireturn, 1) := by decide +kernel
theorem dL_law_371 : decode cL_law 371 = .ok (.aload_n 1, 1) := by decide +kernel
theorem dL_law_372 : decode cL_law 372 = .ok (.aload_n 0, 1) := by decide +kernel
theorem dL_law_373 : decode cL_law 373 = .ok (.iload_n 3, 1) := by decide +kernel
theorem dL_law_374 : decode cL_law 374 = .ok (.iconst 1, 1) := by decide +kernel
theorem dL_law_375 : decode cL_law 375 = .ok (.iadd, 1) := by decide +kernel
theorem dL_law_376 : decode cL_law 376 = .ok (.iaload, 1) := by decide +kernel
theorem dL_law_377 : decode cL_law 377 = .ok (.invokevirtual 60, 3) := by decide +kernel
theorem dL_law_380 : decode cL_law 380 = .ok (.aload_n 2, 1) := by decide +kernel
theorem dL_law_381 : decode cL_law 381 = .ok (.aload_n 0, 1) := by decide +kernel
theorem dL_law_382 : decode cL_law 382 = .ok (.iload_n 3, 1) := by decide +kernel
theorem dL_law_383 : decode cL_law 383 = .ok (.iconst 1, 1) := by decide +kernel
theorem dL_law_384 : decode cL_law 384 = .ok (.iadd, 1) := by decide +kernel
theorem dL_law_385 : decode cL_law 385 = .ok (.iaload, 1) := by decide +kernel
theorem dL_law_386 : decode cL_law 386 = .ok (.invokevirtual 63, 3) := by decide +kernel
theorem dL_law_389 : decode cL_law 389 = .ok (.if_icmp .eq 254, 3) := by decide +kernel
theorem dL_law_392 : decode cL_law 392 = .ok (.iconst 0, 1) := by decide +kernel
theorem dL_law_393 : decode cL_law 393 = .ok (.ireturn, 1) := by decide +kernel
theorem dL_law_394 : decode cL_law 394 = .ok (.aload_n 1, 1) := by decide +kernel
theorem dL_law_395 : decode cL_law 395 = .ok (.invokevirtual 64, 3) := by decide +kernel
theorem dL_law_398 : decode cL_law 398 = .ok (.aload_n 2, 1) := by decide +kernel
theorem dL_law_399 : decode cL_law 399 = .ok (.invokevirtual 67, 3) := by decide +kernel
theorem dL_law_402 : decode cL_law 402 = .ok (.if_icmp .eq 241, 3) := by decide +kernel
theorem dL_law_405 : decode cL_law 405 = .ok (.iconst 0, 1) := by decide +kernel
theorem dL_law_406 : decode cL_law 406 = .ok (.ireturn, 1) := by decide +kernel
theorem dL_law_407 : decode cL_law 407 = .ok (.aload_n 1, 1) := by decide +kernel
theorem dL_law_408 : decode cL_law 408 = .ok (.invokevirtual 68, 3) := by decide +kernel
theorem dL_law_411 : decode cL_law 411 = .ok (.aload_n 2, 1) := by decide +kernel
theorem dL_law_412 : decode cL_law 412 = .ok (.invokevirtual 71, 3) := by decide +kernel
theorem dL_law_415 : decode cL_law 415 = .ok (.if_icmp .eq 228, 3) := by decide +kernel
theorem dL_law_418 : decode cL_law 418 = .ok (.iconst 0, 1) := by decide +kernel
theorem dL_law_419 : decode cL_law 419 = .ok (.ireturn, 1) := by decide +kernel
theorem dL_law_420 : decode cL_law 420 = .ok (.aload_n 1, 1) := by decide +kernel
theorem dL_law_421 : decode cL_law 421 = .ok (.invokevirtual 72, 3) := by decide +kernel
theorem dL_law_424 : decode cL_law 424 = .ok (.aload_n 2, 1) := by decide +kernel
theorem dL_law_425 : decode cL_law 425 = .ok (.invokevirtual 75, 3) := by decide +kernel
theorem dL_law_428 : decode cL_law 428 = .ok (.if_icmp .eq 215, 3) := by decide +kernel
theorem dL_law_431 : decode cL_law 431 = .ok (.iconst 0, 1) := by decide +kernel
theorem dL_law_432 : decode cL_law 432 = .ok (.ireturn, 1) := by decide +kernel
theorem dL_law_433 : decode cL_law 433 = .ok (.aload_n 1, 1) := by decide +kernel
theorem dL_law_434 : decode cL_law 434 = .ok (.invokevirtual 76, 3) := by decide +kernel
theorem dL_law_437 : decode cL_law 437 = .ok (.aload_n 2, 1) := by decide +kernel
theorem dL_law_438 : decode cL_law 438 = .ok (.invokevirtual 79, 3) := by decide +kernel
theorem dL_law_441 : decode cL_law 441 = .ok (.if_icmp .eq 202, 3) := by decide +kernel
theorem dL_law_444 : decode cL_law 444 = .ok (.iconst 0, 1) := by decide +kernel
theorem dL_law_445 : decode cL_law 445 = .ok (.ireturn, 1) := by decide +kernel
theorem dL_law_446 : decode cL_law 446 = .ok (.aload_n 1, 1) := by decide +kernel
theorem dL_law_447 : decode cL_law 447 = .ok (.aload_n 0, 1) := by decide +kernel
theorem dL_law_448 : decode cL_law 448 = .ok (.iload_n 3, 1) := by decide +kernel
theorem dL_law_449 : decode cL_law 449 = .ok (.iconst 1, 1) := by decide +kernel
theorem dL_law_450 : decode cL_law 450 = .ok (.iadd, 1) := by decide +kernel
theorem dL_law_451 : decode cL_law 451 = .ok (.iaload, 1) := by decide +kernel
theorem dL_law_452 : decode cL_law 452 = .ok (.aload_n 0, 1) := by decide +kernel
theorem dL_law_453 : decode cL_law 453 = .ok (.iload_n 3, 1) := by decide +kernel
theorem dL_law_454 : decode cL_law 454 = .ok (.iconst 2, 1) := by decide +kernel
theorem dL_law_455 : decode cL_law 455 = .ok (.iadd, 1) := by decide +kernel
theorem dL_law_456 : decode cL_law 456 = .ok (.iaload, 1) := by decide +kernel
theorem dL_law_457 : decode cL_law 457 = .ok (.invokevirtual 80, 3) := by decide +kernel
theorem dL_law_460 : decode cL_law 460 = .ok (.aload_n 2, 1) := by decide +kernel
theorem dL_law_461 : decode cL_law 461 = .ok (.aload_n 0, 1) := by decide +kernel
theorem dL_law_462 : decode cL_law 462 = .ok (.iload_n 3, 1) := by decide +kernel
theorem dL_law_463 : decode cL_law 463 = .ok (.iconst 1, 1) := by decide +kernel
theorem dL_law_464 : decode cL_law 464 = .ok (.iadd, 1) := by decide +kernel
theorem dL_law_465 : decode cL_law 465 = .ok (.iaload, 1) := by decide +kernel
theorem dL_law_466 : decode cL_law 466 = .ok (.aload_n 0, 1) := by decide +kernel
theorem dL_law_467 : decode cL_law 467 = .ok (.iload_n 3, 1) := by decide +kernel
theorem dL_law_468 : decode cL_law 468 = .ok (.iconst 2, 1) := by decide +kernel
theorem dL_law_469 : decode cL_law 469 = .ok (.iadd, 1) := by decide +kernel
theorem dL_law_470 : decode cL_law 470 = .ok (.iaload, 1) := by decide +kernel
theorem dL_law_471 : decode cL_law 471 = .ok (.invokevirtual 83, 3) := by decide +kernel
theorem dL_law_474 : decode cL_law 474 = .ok (.if_icmp .eq 169, 3) := by decide +kernel
theorem dL_law_477 : decode cL_law 477 = .ok (.iconst 0, 1) := by decide +kernel
theorem dL_law_478 : decode cL_law 478 = .ok (.ireturn, 1) := by decide +kernel
theorem dL_law_479 : decode cL_law 479 = .ok (.aload_n 1, 1) := by decide +kernel
theorem dL_law_480 : decode cL_law 480 = .ok (.aload_n 0, 1) := by decide +kernel
theorem dL_law_481 : decode cL_law 481 = .ok (.iload_n 3, 1) := by decide +kernel
theorem dL_law_482 : decode cL_law 482 = .ok (.iconst 1, 1) := by decide +kernel
theorem dL_law_483 : decode cL_law 483 = .ok (.iadd, 1) := by decide +kernel
theorem dL_law_484 : decode cL_law 484 = .ok (.iaload, 1) := by decide +kernel
theorem dL_law_485 : decode cL_law 485 = .ok (.invokevirtual 84, 3) := by decide +kernel
theorem dL_law_488 : decode cL_law 488 = .ok (.aload_n 2, 1) := by decide +kernel
theorem dL_law_489 : decode cL_law 489 = .ok (.aload_n 0, 1) := by decide +kernel
theorem dL_law_490 : decode cL_law 490 = .ok (.iload_n 3, 1) := by decide +kernel
theorem dL_law_491 : decode cL_law 491 = .ok (.iconst 1, 1) := by decide +kernel
theorem dL_law_492 : decode cL_law 492 = .ok (.iadd, 1) := by decide +kernel
theorem dL_law_493 : decode cL_law 493 = .ok (.iaload, 1) := by decide +kernel
theorem dL_law_494 : decode cL_law 494 = .ok (.invokevirtual 87, 3) := by decide +kernel
theorem dL_law_497 : decode cL_law 497 = .ok (.if_icmp .eq 146, 3) := by decide +kernel
theorem dL_law_500 : decode cL_law 500 = .ok (.iconst 0, 1) := by decide +kernel
theorem dL_law_501 : decode cL_law 501 = .ok (.ireturn, 1) := by decide +kernel
theorem dL_law_502 : decode cL_law 502 = .ok (.aload_n 1, 1) := by decide +kernel
theorem dL_law_503 : decode cL_law 503 = .ok (.aload_n 0, 1) := by decide +kernel
theorem dL_law_504 : decode cL_law 504 = .ok (.iload_n 3, 1) := by decide +kernel
theorem dL_law_505 : decode cL_law 505 = .ok (.iconst 1, 1) := by decide +kernel
theorem dL_law_506 : decode cL_law 506 = .ok (.iadd, 1) := by decide +kernel
theorem dL_law_507 : decode cL_law 507 = .ok (.iaload, 1) := by decide +kernel
theorem dL_law_508 : decode cL_law 508 = .ok (.invokevirtual 88, 3) := by decide +kernel
theorem dL_law_511 : decode cL_law 511 = .ok (.aload_n 2, 1) := by decide +kernel
theorem dL_law_512 : decode cL_law 512 = .ok (.aload_n 0, 1) := by decide +kernel
theorem dL_law_513 : decode cL_law 513 = .ok (.iload_n 3, 1) := by decide +kernel
theorem dL_law_514 : decode cL_law 514 = .ok (.iconst 1, 1) := by decide +kernel
theorem dL_law_515 : decode cL_law 515 = .ok (.iadd, 1) := by decide +kernel
theorem dL_law_516 : decode cL_law 516 = .ok (.iaload, 1) := by decide +kernel
theorem dL_law_517 : decode cL_law 517 = .ok (.invokevirtual 91, 3) := by decide +kernel
theorem dL_law_520 : decode cL_law 520 = .ok (.if_icmp .eq 123, 3) := by decide +kernel
theorem dL_law_523 : decode cL_law 523 = .ok (.iconst 0, 1) := by decide +kernel
theorem dL_law_524 : decode cL_law 524 = .ok (.ireturn, 1) := by decide +kernel
theorem dL_law_525 : decode cL_law 525 = .ok (.aload_n 1, 1) := by decide +kernel
theorem dL_law_526 : decode cL_law 526 = .ok (.aload_n 0, 1) := by decide +kernel
theorem dL_law_527 : decode cL_law 527 = .ok (.iload_n 3, 1) := by decide +kernel
theorem dL_law_528 : decode cL_law 528 = .ok (.iconst 1, 1) := by decide +kernel
theorem dL_law_529 : decode cL_law 529 = .ok (.iadd, 1) := by decide +kernel
theorem dL_law_530 : decode cL_law 530 = .ok (.iaload, 1) := by decide +kernel
theorem dL_law_531 : decode cL_law 531 = .ok (.invokevirtual 92, 3) := by decide +kernel
theorem dL_law_534 : decode cL_law 534 = .ok (.aload_n 2, 1) := by decide +kernel
theorem dL_law_535 : decode cL_law 535 = .ok (.aload_n 0, 1) := by decide +kernel
theorem dL_law_536 : decode cL_law 536 = .ok (.iload_n 3, 1) := by decide +kernel
theorem dL_law_537 : decode cL_law 537 = .ok (.iconst 1, 1) := by decide +kernel
theorem dL_law_538 : decode cL_law 538 = .ok (.iadd, 1) := by decide +kernel
theorem dL_law_539 : decode cL_law 539 = .ok (.iaload, 1) := by decide +kernel
theorem dL_law_540 : decode cL_law 540 = .ok (.invokevirtual 95, 3) := by decide +kernel
theorem dL_law_543 : decode cL_law 543 = .ok (.if_icmp .eq 100, 3) := by decide +kernel
theorem dL_law_546 : decode cL_law 546 = .ok (.iconst 0, 1) := by decide +kernel
theorem dL_law_547 : decode cL_law 547 = .ok (.ireturn, 1) := by decide +kernel
theorem dL_law_548 : decode cL_law 548 = .ok (.aload_n 1, 1) := by decide +kernel
theorem dL_law_549 : decode cL_law 549 = .ok (.aload_n 0, 1) := by decide +kernel
theorem dL_law_550 : decode cL_law 550 = .ok (.iload_n 3, 1) := by decide +kernel
theorem dL_law_551 : decode cL_law 551 = .ok (.iconst 1, 1) := by decide +kernel
theorem dL_law_552 : decode cL_law 552 = .ok (.iadd, 1) := by decide +kernel
theorem dL_law_553 : decode cL_law 553 = .ok (.iaload, 1) := by decide +kernel
theorem dL_law_554 : decode cL_law 554 = .ok (.invokevirtual 96, 3) := by decide +kernel
theorem dL_law_557 : decode cL_law 557 = .ok (.aload_n 2, 1) := by decide +kernel
theorem dL_law_558 : decode cL_law 558 = .ok (.aload_n 0, 1) := by decide +kernel
theorem dL_law_559 : decode cL_law 559 = .ok (.iload_n 3, 1) := by decide +kernel
theorem dL_law_560 : decode cL_law 560 = .ok (.iconst 1, 1) := by decide +kernel
theorem dL_law_561 : decode cL_law 561 = .ok (.iadd, 1) := by decide +kernel
theorem dL_law_562 : decode cL_law 562 = .ok (.iaload, 1) := by decide +kernel
theorem dL_law_563 : decode cL_law 563 = .ok (.invokevirtual 99, 3) := by decide +kernel
theorem dL_law_566 : decode cL_law 566 = .ok (.if_icmp .eq 77, 3) := by decide +kernel
theorem dL_law_569 : decode cL_law 569 = .ok (.iconst 0, 1) := by decide +kernel
theorem dL_law_570 : decode cL_law 570 = .ok (.ireturn, 1) := by decide +kernel
theorem dL_law_571 : decode cL_law 571 = .ok (.aload_n 1, 1) := by decide +kernel
theorem dL_law_572 : decode cL_law 572 = .ok (.invokevirtual 100, 3) := by decide +kernel
theorem dL_law_575 : decode cL_law 575 = .ok (.aload_n 2, 1) := by decide +kernel
theorem dL_law_576 : decode cL_law 576 = .ok (.invokevirtual 103, 3) := by decide +kernel
theorem dL_law_579 : decode cL_law 579 = .ok (.if_icmp .eq 64, 3) := by decide +kernel
theorem dL_law_582 : decode cL_law 582 = .ok (.iconst 0, 1) := by decide +kernel
theorem dL_law_583 : decode cL_law 583 = .ok (.ireturn, 1) := by decide +kernel
theorem dL_law_584 : decode cL_law 584 = .ok (.aload_n 1, 1) := by decide +kernel
theorem dL_law_585 : decode cL_law 585 = .ok (.invokevirtual 104, 3) := by decide +kernel
theorem dL_law_588 : decode cL_law 588 = .ok (.aload_n 2, 1) := by decide +kernel
theorem dL_law_589 : decode cL_law 589 = .ok (.invokevirtual 107, 3) := by decide +kernel
theorem dL_law_592 : decode cL_law 592 = .ok (.if_icmp .eq 51, 3) := by decide +kernel
theorem dL_law_595 : decode cL_law 595 = .ok (.iconst 0, 1) := by decide +kernel
theorem dL_law_596 : decode cL_law 596 = .ok (.ireturn, 1) := by decide +kernel
theorem dL_law_597 : decode cL_law 597 = .ok (.aload_n 1, 1) := by decide +kernel
theorem dL_law_598 : decode cL_law 598 = .ok (.aload_n 0, 1) := by decide +kernel
theorem dL_law_599 : decode cL_law 599 = .ok (.iload_n 3, 1) := by decide +kernel
theorem dL_law_600 : decode cL_law 600 = .ok (.iconst 1, 1) := by decide +kernel
theorem dL_law_601 : decode cL_law 601 = .ok (.iadd, 1) := by decide +kernel
theorem dL_law_602 : decode cL_law 602 = .ok (.iaload, 1) := by decide +kernel
theorem dL_law_603 : decode cL_law 603 = .ok (.invokevirtual 108, 3) := by decide +kernel
theorem dL_law_606 : decode cL_law 606 = .ok (.aload_n 2, 1) := by decide +kernel
theorem dL_law_607 : decode cL_law 607 = .ok (.aload_n 0, 1) := by decide +kernel
theorem dL_law_608 : decode cL_law 608 = .ok (.iload_n 3, 1) := by decide +kernel
theorem dL_law_609 : decode cL_law 609 = .ok (.iconst 1, 1) := by decide +kernel
theorem dL_law_610 : decode cL_law 610 = .ok (.iadd, 1) := by decide +kernel
theorem dL_law_611 : decode cL_law 611 = .ok (.iaload, 1) := by decide +kernel
theorem dL_law_612 : decode cL_law 612 = .ok (.invokevirtual 111, 3) := by decide +kernel
theorem dL_law_615 : decode cL_law 615 = .ok (.if_icmp .eq 28, 3) := by decide +kernel
theorem dL_law_618 : decode cL_law 618 = .ok (.iconst 0, 1) := by decide +kernel
theorem dL_law_619 : decode cL_law 619 = .ok (.ireturn, 1) := by decide +kernel
theorem dL_law_620 : decode cL_law 620 = .ok (.aload_n 1, 1) := by decide +kernel
theorem dL_law_621 : decode cL_law 621 = .ok (.aload_n 0, 1) := by decide +kernel
theorem dL_law_622 : decode cL_law 622 = .ok (.iload_n 3, 1) := by decide +kernel
theorem dL_law_623 : decode cL_law 623 = .ok (.iconst 1, 1) := by decide +kernel
theorem dL_law_624 : decode cL_law 624 = .ok (.iadd, 1) := by decide +kernel
theorem dL_law_625 : decode cL_law 625 = .ok (.iaload, 1) := by decide +kernel
theorem dL_law_626 : decode cL_law 626 = .ok (.invokevirtual 112, 3) := by decide +kernel
theorem dL_law_629 : decode cL_law 629 = .ok (.aload_n 2, 1) := by decide +kernel
theorem dL_law_630 : decode cL_law 630 = .ok (.aload_n 0, 1) := by decide +kernel
theorem dL_law_631 : decode cL_law 631 = .ok (.iload_n 3, 1) := by decide +kernel
theorem dL_law_632 : decode cL_law 632 = .ok (.iconst 1, 1) := by decide +kernel
theorem dL_law_633 : decode cL_law 633 = .ok (.iadd, 1) := by decide +kernel
theorem dL_law_634 : decode cL_law 634 = .ok (.iaload, 1) := by decide +kernel
theorem dL_law_635 : decode cL_law 635 = .ok (.invokevirtual 115, 3) := by decide +kernel
theorem dL_law_638 : decode cL_law 638 = .ok (.if_icmp .eq 5, 3) := by decide +kernel
theorem dL_law_641 : decode cL_law 641 = .ok (.iconst 0, 1) := by decide +kernel
theorem dL_law_642 : decode cL_law 642 = .ok (.ireturn, 1) := by decide +kernel
theorem dL_law_643 : decode cL_law 643 = .ok (.iinc 3 4, 3) := by decide +kernel
theorem dL_law_646 : decode cL_law 646 = .ok (.goto (-608), 3) := by decide +kernel
theorem dL_law_649 : decode cL_law 649 = .ok (.iconst 1, 1) := by decide +kernel
theorem dL_law_650 : decode cL_law 650 = .ok (.ireturn, 1) := by decide +kernel
abbrev vwCl : List vw_C := [(RX0, TX0, 4), (RX1, TX1, 3), (RX2, TX2, 3), (RX3, TX3, 5), (RX4, TX4, 7), (RX5, TX5, 5), (RX6, TX6, 5), (RX8, TX8, 2), (RX9, TX9, 2), (RX10, TX10, 9), (RX11, TX11, 17), (RX12, TX12, 39)]
