theorem dX12_push_0 : decode cX12_push 0 = .ok (.iload_n 2, 1) := by decide +kernel
theorem dX12_push_1 : decode cX12_push 1 = .ok (.iconst 1, 1) := by decide +kernel
theorem dX12_push_2 : decode cX12_push 2 = .ok (.bipush 32, 2) := by decide +kernel
theorem dX12_push_4 : decode cX12_push 4 = .ok (.invokestatic 99, 3) := by decide +kernel
theorem dX12_push_7 : decode cX12_push 7 = .ok (.ifCond .ne 5, 3) := by decide +kernel
theorem dX12_push_10 : decode cX12_push 10 = .ok (.iconst (-1), 1) := by decide +kernel
theorem dX12_push_11 : decode cX12_push 11 = .ok (.ireturn, 1) := by decide +kernel
theorem dX12_push_12 : decode cX12_push 12 = .ok (.aload_n 0, 1) := by decide +kernel
theorem dX12_push_13 : decode cX12_push 13 = .ok (.getfield 178, 3) := by decide +kernel
theorem dX12_push_16 : decode cX12_push 16 = .ok (.iload_n 2, 1) := by decide +kernel
theorem dX12_push_17 : decode cX12_push 17 = .ok (.iadd, 1) := by decide +kernel
theorem dX12_push_18 : decode cX12_push 18 = .ok (.sipush 6000, 3) := by decide +kernel
theorem dX12_push_21 : decode cX12_push 21 = .ok (.if_icmp .le 6, 3) := by decide +kernel
theorem dX12_push_24 : decode cX12_push 24 = .ok (.bipush (-2), 2) := by decide +kernel
theorem dX12_push_26 : decode cX12_push 26 = .ok (.ireturn, 1) := by decide +kernel
theorem dX12_push_27 : decode cX12_push 27 = .ok (.aload_n 0, 1) := by decide +kernel
theorem dX12_push_28 : decode cX12_push 28 = .ok (.iload_n 1, 1) := by decide +kernel
theorem dX12_push_29 : decode cX12_push 29 = .ok (.iload_n 2, 1) := by decide +kernel
theorem dX12_push_30 : decode cX12_push 30 = .ok (.invokevirtual 181, 3) := by decide +kernel
theorem dX12_push_33 : decode cX12_push 33 = .ok (.aload_n 0, 1) := by decide +kernel
theorem dX12_push_34 : decode cX12_push 34 = .ok (.getfield 178, 3) := by decide +kernel
theorem dX12_push_37 : decode cX12_push 37 = .ok (.ireturn, 1) := by decide +kernel
set_option maxRecDepth 20000 in
theorem ggX12_cut_X12_within : GoodIn wsX12_cut wsX12_within := goodIn_r _ [5] (by decide +kernel) (by decide +kernel)
set_option maxRecDepth 20000 in
theorem gX12_cut_X12_within : GoodIn wsX12_cut (va_wsS RX12 99 yX12_within wsX12_within) := goodIn_app (goodIn_of _ (by decide +kernel)) ggX12_cut_X12_within
theorem dX12_cut_0 : decode cX12_cut 0 = .ok (.iload_n 1, 1) := by decide +kernel
theorem dX12_cut_1 : decode cX12_cut 1 = .ok (.iconst 0, 1) := by decide +kernel
theorem dX12_cut_2 : decode cX12_cut 2 = .ok (.aload_n 0, 1) := by decide +kernel
theorem dX12_cut_3 : decode cX12_cut 3 = .ok (.getfield 178, 3) := by decide +kernel
theorem dX12_cut_6 : decode cX12_cut 6 = .ok (.invokestatic 99, 3) := by decide +kernel
theorem dX12_cut_9 : decode cX12_cut 9 = .ok (.ifCond .ne 5, 3) := by decide +kernel
theorem dX12_cut_12 : decode cX12_cut 12 = .ok (.iconst (-1), 1) := by decide +kernel
theorem dX12_cut_13 : decode cX12_cut 13 = .ok (.ireturn, 1) := by decide +kernel
theorem dX12_cut_14 : decode cX12_cut 14 = .ok (.aload_n 0, 1) := by decide +kernel
theorem dX12_cut_15 : decode cX12_cut 15 = .ok (.getfield 178, 3) := by decide +kernel
theorem dX12_cut_18 : decode cX12_cut 18 = .ok (.istore_n 2, 1) := by decide +kernel
theorem dX12_cut_19 : decode cX12_cut 19 = .ok (.aload_n 0, 1) := by decide +kernel
theorem dX12_cut_20 : decode cX12_cut 20 = .ok (.iload_n 1, 1) := by decide +kernel
theorem dX12_cut_21 : decode cX12_cut 21 = .ok (.putfield 178, 3) := by decide +kernel
theorem dX12_cut_24 : decode cX12_cut 24 = .ok (.iload_n 2, 1) := by decide +kernel
theorem dX12_cut_25 : decode cX12_cut 25 = .ok (.ireturn, 1) := by decide +kernel
set_option maxRecDepth 20000 in
theorem ggX12_bit_X12_within : GoodIn wsX12_bit wsX12_within := goodIn_r _ [6] (by decide +kernel) (by decide +kernel)
set_option maxRecDepth 20000 in
theorem gX12_bit_X12_within : GoodIn wsX12_bit (va_wsS RX12 99 yX12_within wsX12_within) := goodIn_app (goodIn_of _ (by decide +kernel)) ggX12_bit_X12_within
theorem dX12_bit_0 : decode cX12_bit 0 = .ok (.iload_n 1, 1) := by decide +kernel
theorem dX12_bit_1 : decode cX12_bit 1 = .ok (.iconst 0, 1) := by decide +kernel
theorem dX12_bit_2 : decode cX12_bit 2 = .ok (.aload_n 0, 1) := by decide +kernel
theorem dX12_bit_3 : decode cX12_bit 3 = .ok (.getfield 178, 3) := by decide +kernel
theorem dX12_bit_6 : decode cX12_bit 6 = .ok (.iconst 1, 1) := by decide +kernel
theorem dX12_bit_7 : decode cX12_bit 7 = .ok (.isub, 1) := by decide +kernel
theorem dX12_bit_8 : decode cX12_bit 8 = .ok (.invokestatic 99, 3) := by decide +kernel
theorem dX12_bit_11 : decode cX12_bit 11 = .ok (.ifCond .eq 20, 3) := by decide +kernel
theorem dX12_bit_14 : decode cX12_bit 14 = .ok (.aload_n 0, 1) := by decide +kernel
theorem dX12_bit_15 : decode cX12_bit 15 = .ok (.getfield 19, 3) := by decide +kernel
theorem dX12_bit_18 : decode cX12_bit 18 = .ok (.iload_n 1, 1) := by decide +kernel
theorem dX12_bit_19 : decode cX12_bit 19 = .ok (.baload, 1) := by decide +kernel
theorem dX12_bit_20 : decode cX12_bit 20 = .ok (.ifCond .eq 7, 3) := by decide +kernel
theorem dX12_bit_23 : decode cX12_bit 23 = .ok (.iconst 1, 1) := by decide +kernel
theorem dX12_bit_24 : decode cX12_bit 24 = .ok (.goto 8, 3) := by decide +kernel
theorem dX12_bit_27 : decode cX12_bit 27 = .ok (.iconst 0, 1) := by decide +kernel
theorem dX12_bit_28 : decode cX12_bit 28 = .ok (.goto 4, 3) := by decide +kernel
theorem dX12_bit_31 : decode cX12_bit 31 = .ok (.iconst (-1), 1) := by decide +kernel
theorem dX12_bit_32 : decode cX12_bit 32 = .ok (.ireturn, 1) := by decide +kernel
set_option maxRecDepth 20000 in
theorem ggX12_turn_X12_within : GoodIn wsX12_turn wsX12_within := goodIn_r _ [6] (by decide +kernel) (by decide +kernel)
set_option maxRecDepth 20000 in
theorem gX12_turn_X12_within : GoodIn wsX12_turn (va_wsS RX12 99 yX12_within wsX12_within) := goodIn_app (goodIn_of _ (by decide +kernel)) ggX12_turn_X12_within
theorem dX12_turn_0 : decode cX12_turn 0 = .ok (.iload_n 1, 1) := by decide +kernel
theorem dX12_turn_1 : decode cX12_turn 1 = .ok (.iconst 0, 1) := by decide +kernel
theorem dX12_turn_2 : decode cX12_turn 2 = .ok (.aload_n 0, 1) := by decide +kernel
theorem dX12_turn_3 : decode cX12_turn 3 = .ok (.getfield 178, 3) := by decide +kernel
theorem dX12_turn_6 : decode cX12_turn 6 = .ok (.iconst 1, 1) := by decide +kernel
theorem dX12_turn_7 : decode cX12_turn 7 = .ok (.isub, 1) := by decide +kernel
theorem dX12_turn_8 : decode cX12_turn 8 = .ok (.invokestatic 99, 3) := by decide +kernel
theorem dX12_turn_11 : decode cX12_turn 11 = .ok (.ifCond .ne 5, 3) := by decide +kernel
theorem dX12_turn_14 : decode cX12_turn 14 = .ok (.iconst (-1), 1) := by decide +kernel
theorem dX12_turn_15 : decode cX12_turn 15 = .ok (.ireturn, 1) := by decide +kernel
theorem dX12_turn_16 : decode cX12_turn 16 = .ok (.aload_n 0, 1) := by decide +kernel
theorem dX12_turn_17 : decode cX12_turn 17 = .ok (.getfield 19, 3) := by decide +kernel
theorem dX12_turn_20 : decode cX12_turn 20 = .ok (.iload_n 1, 1) := by decide +kernel
theorem dX12_turn_21 : decode cX12_turn 21 = .ok (.aload_n 0, 1) := by decide +kernel
theorem dX12_turn_22 : decode cX12_turn 22 = .ok (.getfield 19, 3) := by decide +kernel
theorem dX12_turn_25 : decode cX12_turn 25 = .ok (.iload_n 1, 1) := by decide +kernel
theorem dX12_turn_26 : decode cX12_turn 26 = .ok (.baload, 1) := by decide +kernel
theorem dX12_turn_27 : decode cX12_turn 27 = .ok (.ifCond .ne 7, 3) := by decide +kernel
theorem dX12_turn_30 : decode cX12_turn 30 = .ok (.iconst 1, 1) := by decide +kernel
theorem dX12_turn_31 : decode cX12_turn 31 = .ok (.goto 4, 3) := by decide +kernel
theorem dX12_turn_34 : decode cX12_turn 34 = .ok (.iconst 0, 1) := by decide +kernel
theorem dX12_turn_35 : decode cX12_turn 35 = .ok (.bastore, 1) := by decide +kernel
theorem dX12_turn_36 : decode cX12_turn 36 = .ok (.aload_n 0, 1) := by decide +kernel
theorem dX12_turn_37 : decode cX12_turn 37 = .ok (.getfield 19, 3) := by decide +kernel
theorem dX12_turn_40 : decode cX12_turn 40 = .ok (.iload_n 1, 1) := by decide +kernel
theorem dX12_turn_41 : decode cX12_turn 41 = .ok (.baload, 1) := by decide +kernel
theorem dX12_turn_42 : decode cX12_turn 42 = .ok (.ifCond .eq 7, 3) := by decide +kernel
theorem dX12_turn_45 : decode cX12_turn 45 = .ok (.iconst 1, 1) := by decide +kernel
theorem dX12_turn_46 : decode cX12_turn 46 = .ok (.goto 4, 3) := by decide +kernel
theorem dX12_turn_49 : decode cX12_turn 49 = .ok (.iconst 0, 1) := by decide +kernel
theorem dX12_turn_50 : decode cX12_turn 50 = .ok (.ireturn, 1) := by decide +kernel
set_option maxRecDepth 20000 in
theorem ggX12_out_X12_within : GoodIn wsX12_out wsX12_within := goodIn_r _ [6] (by decide +kernel) (by decide +kernel)
set_option maxRecDepth 20000 in
theorem gX12_out_X12_within : GoodIn wsX12_out (va_wsS RX12 99 yX12_within wsX12_within) := goodIn_app (goodIn_of _ (by decide +kernel)) ggX12_out_X12_within
theorem dX12_out_0 : decode cX12_out 0 = .ok (.iload_n 1, 1) := by decide +kernel
theorem dX12_out_1 : decode cX12_out 1 = .ok (.iconst 0, 1) := by decide +kernel
theorem dX12_out_2 : decode cX12_out 2 = .ok (.aload_n 0, 1) := by decide +kernel
theorem dX12_out_3 : decode cX12_out 3 = .ok (.getfield 197, 3) := by decide +kernel
theorem dX12_out_6 : decode cX12_out 6 = .ok (.iconst 1, 1) := by decide +kernel
theorem dX12_out_7 : decode cX12_out 7 = .ok (.isub, 1) := by decide +kernel
theorem dX12_out_8 : decode cX12_out 8 = .ok (.invokestatic 99, 3) := by decide +kernel
theorem dX12_out_11 : decode cX12_out 11 = .ok (.ifCond .eq 12, 3) := by decide +kernel
theorem dX12_out_14 : decode cX12_out 14 = .ok (.aload_n 0, 1) := by decide +kernel
theorem dX12_out_15 : decode cX12_out 15 = .ok (.getfield 23, 3) := by decide +kernel
theorem dX12_out_18 : decode cX12_out 18 = .ok (.iload_n 1, 1) := by decide +kernel
theorem dX12_out_19 : decode cX12_out 19 = .ok (.iaload, 1) := by decide +kernel
theorem dX12_out_20 : decode cX12_out 20 = .ok (.goto 4, 3) := by decide +kernel
theorem dX12_out_23 : decode cX12_out 23 = .ok (.iconst (-1), 1) := by decide +kernel
theorem dX12_out_24 : decode cX12_out 24 = .ok (.ireturn, 1) := by decide +kernel
theorem dX12_place_0 : decode cX12_place 0 = .ok (.aload_n 0, 1) := by decide +kernel
theorem dX12_place_1 : decode cX12_place 1 = .ok (.getfield 26, 3) := by decide +kernel
theorem dX12_place_4 : decode cX12_place 4 = .ok (.ireturn, 1) := by decide +kernel
theorem dX12_beginning_0 : decode cX12_beginning 0 = .ok (.iconst 0, 1) := by decide +kernel
theorem dX12_beginning_1 : decode cX12_beginning 1 = .ok (.istore_n 3, 1) := by decide +kernel
theorem dX12_beginning_2 : decode cX12_beginning 2 = .ok (.iload_n 3, 1) := by decide +kernel
theorem dX12_beginning_3 : decode cX12_beginning 3 = .ok (.aload_n 0, 1) := by decide +kernel
theorem dX12_beginning_4 : decode cX12_beginning 4 = .ok (.getfield 221, 3) := by decide +kernel
theorem dX12_beginning_7 : decode cX12_beginning 7 = .ok (.if_icmp .ge 29, 3) := by decide +kernel
theorem dX12_beginning_10 : decode cX12_beginning 10 = .ok (.aload_n 0, 1) := by decide +kernel
theorem dX12_beginning_11 : decode cX12_beginning 11 = .ok (.getfield 72, 3) := by decide +kernel
theorem dX12_beginning_14 : decode cX12_beginning 14 = .ok (.iload_n 3, 1) := by decide +kernel
theorem dX12_beginning_15 : decode cX12_beginning 15 = .ok (.iaload, 1) := by decide +kernel
theorem dX12_beginning_16 : decode cX12_beginning 16 = .ok (.iload_n 1, 1) := by decide +kernel
theorem dX12_beginning_17 : decode cX12_beginning 17 = .ok (.if_icmp .ne 13, 3) := by decide +kernel
theorem dX12_beginning_20 : decode cX12_beginning 20 = .ok (.aload_n 0, 1) := by decide +kernel
theorem dX12_beginning_21 : decode cX12_beginning 21 = .ok (.getfield 75, 3) := by decide +kernel
theorem dX12_beginning_24 : decode cX12_beginning 24 = .ok (.iload_n 3, 1) := by decide +kernel
theorem dX12_beginning_25 : decode cX12_beginning 25 = .ok (.iaload, 1) := by decide +kernel
theorem dX12_beginning_26 : decode cX12_beginning 26 = .ok (.iload_n 2, 1) := by decide +kernel
theorem dX12_beginning_27 : decode cX12_beginning 27 = .ok (.if_icmp .eq 9, 3) := by decide +kernel
theorem dX12_beginning_30 : decode cX12_beginning 30 = .ok (.iinc 3 1, 3) := by decide +kernel
theorem dX12_beginning_33 : decode cX12_beginning 33 = .ok (.goto (-31), 3) := by decide +kernel
theorem dX12_beginning_36 : decode cX12_beginning 36 = .ok (.iload_n 3, 1) := by decide +kernel
theorem dX12_beginning_37 : decode cX12_beginning 37 = .ok (.ireturn, 1) := by decide +kernel
theorem dX12_isCode_0 : decode cX12_isCode 0 = .ok (.iconst 0, 1) := by decide +kernel
theorem dX12_isCode_1 : decode cX12_isCode 1 = .ok (.istore_n 3, 1) := by decide +kernel
theorem dX12_isCode_2 : decode cX12_isCode 2 = .ok (.iconst 0, 1) := by decide +kernel
theorem dX12_isCode_3 : decode cX12_isCode 3 = .ok (.istore 4, 2) := by decide +kernel
theorem dX12_isCode_5 : decode cX12_isCode 5 = .ok (.iload 4, 2) := by decide +kernel
theorem dX12_isCode_7 : decode cX12_isCode 7 = .ok (.aload_n 0, 1) := by decide +kernel
theorem dX12_isCode_8 : decode cX12_isCode 8 = .ok (.getfield 93, 3) := by decide +kernel
theorem dX12_isCode_11 : decode cX12_isCode 11 = .ok (.if_icmp .ge 45, 3) := by decide +kernel
theorem dX12_isCode_14 : decode cX12_isCode 14 = .ok (.iload_n 3, 1) := by decide +kernel
theorem dX12_isCode_15 : decode cX12_isCode 15 = .ok (.ifCond .ne 29, 3) := by decide +kernel
theorem dX12_isCode_18 : decode cX12_isCode 18 = .ok (.aload_n 0, 1) := by decide +kernel
theorem dX12_isCode_19 : decode cX12_isCode 19 = .ok (.getfield 13, 3) := by decide +kernel
theorem dX12_isCode_22 : decode cX12_isCode 22 = .ok (.iload 4, 2) := by decide +kernel
theorem dX12_isCode_24 : decode cX12_isCode 24 = .ok (.iaload, 1) := by decide +kernel
theorem dX12_isCode_25 : decode cX12_isCode 25 = .ok (.iload_n 2, 1) := by decide +kernel
theorem dX12_isCode_26 : decode cX12_isCode 26 = .ok (.if_icmp .ne 22, 3) := by decide +kernel
theorem dX12_isCode_29 : decode cX12_isCode 29 = .ok (.iload_n 2, 1) := by decide +kernel
theorem dX12_isCode_30 : decode cX12_isCode 30 = .ok (.ifCond .le 18, 3) := by decide +kernel
theorem dX12_isCode_33 : decode cX12_isCode 33 = .ok (.aload_n 0, 1) := by decide +kernel
theorem dX12_isCode_34 : decode cX12_isCode 34 = .ok (.getfield 16, 3) := by decide +kernel
theorem dX12_isCode_37 : decode cX12_isCode 37 = .ok (.iload 4, 2) := by decide +kernel
theorem dX12_isCode_39 : decode cX12_isCode 39 = .ok (.iaload, 1) := by decide +kernel
theorem dX12_isCode_40 : decode cX12_isCode 40 = .ok (.iload_n 1, 1) := by decide +kernel
theorem dX12_isCode_41 : decode cX12_isCode 41 = .ok (.if_icmp .ne 7, 3) := by decide +kernel
theorem dX12_isCode_44 : decode cX12_isCode 44 = .ok (.iconst 1, 1) := by decide +kernel
theorem dX12_isCode_45 : decode cX12_isCode 45 = .ok (.goto 4, 3) := by decide +kernel
theorem dX12_isCode_48 : decode cX12_isCode 48 = .ok (.iconst 0, 1) := by decide +kernel
theorem dX12_isCode_49 : decode cX12_isCode 49 = .ok (.istore_n 3, 1) := by decide +kernel
theorem dX12_isCode_50 : decode cX12_isCode 50 = .ok (.iinc 4 1, 3) := by decide +kernel
theorem dX12_isCode_53 : decode cX12_isCode 53 = .ok (.goto (-48), 3) := by decide +kernel
theorem dX12_isCode_56 : decode cX12_isCode 56 = .ok (.iload_n 3, 1) := by decide +kernel
theorem dX12_isCode_57 : decode cX12_isCode 57 = .ok (.ireturn, 1) := by decide +kernel
set_option maxRecDepth 20000 in
theorem ggX12_findBeginnings_X12_beginning : GoodIn wsX12_findBeginnings wsX12_beginning := goodIn_r _ [12, 1, 2, 3, 17, 18, 19, 20, 21, 22, 23, 24, 25, 26, 27, 28, 29, 30, 31, 32, 33, 34, 35, 36, 37, 38, 39, 40, 41, 42, 43, 44, 45, 46, 47, 48, 49, 50, 51, 52, 53, 54, 55] (by decide +kernel) (by decide +kernel)
set_option maxRecDepth 20000 in
theorem gX12_findBeginnings_X12_beginning : GoodIn wsX12_findBeginnings (wsV RX12 224 RX12 yX12_beginning wsX12_beginning) := goodIn_app (goodIn_of _ (by decide +kernel)) ggX12_findBeginnings_X12_beginning
set_option maxRecDepth 20000 in
theorem ggX12_findBeginnings_X12_isCode : GoodIn wsX12_findBeginnings wsX12_isCode := goodIn_r _ [16, 4, 5, 6, 17, 18, 19, 20, 21, 22, 23, 24, 25, 26, 27, 28, 29, 30, 31, 32, 33, 34, 35, 36, 37, 38, 39, 40, 41, 42, 43, 44, 45, 46, 47, 48, 49, 50, 51, 52, 53, 54, 55] (by decide +kernel) (by decide +kernel)
set_option maxRecDepth 20000 in
theorem gX12_findBeginnings_X12_isCode : GoodIn wsX12_findBeginnings (wsV RX12 227 RX12 yX12_isCode wsX12_isCode) := goodIn_app (goodIn_of _ (by decide +kernel)) ggX12_findBeginnings_X12_isCode
theorem dX12_findBeginnings_0 : decode cX12_findBeginnings 0 = .ok (.aload_n 0, 1) := by decide +kernel
theorem dX12_findBeginnings_1 : decode cX12_findBeginnings 1 = .ok (.iconst 1, 1) := by decide +kernel
theorem dX12_findBeginnings_2 : decode cX12_findBeginnings 2 = .ok (.putfield 221, 3) := by decide +kernel
theorem dX12_findBeginnings_5 : decode cX12_findBeginnings 5 = .ok (.aload_n 0, 1) := by decide +kernel
theorem dX12_findBeginnings_6 : decode cX12_findBeginnings 6 = .ok (.getfield 72, 3) := by decide +kernel
theorem dX12_findBeginnings_9 : decode cX12_findBeginnings 9 = .ok (.iconst 0, 1) := by decide +kernel
theorem dX12_findBeginnings_10 : decode cX12_findBeginnings 10 = .ok (.iconst 0, 1) := by decide +kernel
theorem dX12_findBeginnings_11 : decode cX12_findBeginnings 11 = .ok (.iastore, 1) := by decide +kernel
theorem dX12_findBeginnings_12 : decode cX12_findBeginnings 12 = .ok (.aload_n 0, 1) := by decide +kernel
theorem dX12_findBeginnings_13 : decode cX12_findBeginnings 13 = .ok (.getfield 75, 3) := by decide +kernel
theorem dX12_findBeginnings_16 : decode cX12_findBeginnings 16 = .ok (.iconst 0, 1) := by decide +kernel
theorem dX12_findBeginnings_17 : decode cX12_findBeginnings 17 = .ok (.iconst 0, 1) := by decide +kernel
theorem dX12_findBeginnings_18 : decode cX12_findBeginnings 18 = .ok (.iastore, 1) := by decide +kernel
theorem dX12_findBeginnings_19 : decode cX12_findBeginnings 19 = .ok (.iconst 0, 1) := by decide +kernel
theorem dX12_findBeginnings_20 : decode cX12_findBeginnings 20 = .ok (.istore_n 1, 1) := by decide +kernel
theorem dX12_findBeginnings_21 : decode cX12_findBeginnings 21 = .ok (.iload_n 1, 1) := by decide +kernel
theorem dX12_findBeginnings_22 : decode cX12_findBeginnings 22 = .ok (.aload_n 0, 1) := by decide +kernel
theorem dX12_findBeginnings_23 : decode cX12_findBeginnings 23 = .ok (.getfield 93, 3) := by decide +kernel
theorem dX12_findBeginnings_26 : decode cX12_findBeginnings 26 = .ok (.if_icmp .ge 86, 3) := by decide +kernel
theorem dX12_findBeginnings_29 : decode cX12_findBeginnings 29 = .ok (.iconst 1, 1) := by decide +kernel
theorem dX12_findBeginnings_30 : decode cX12_findBeginnings 30 = .ok (.istore_n 2, 1) := by decide +kernel
theorem dX12_findBeginnings_31 : decode cX12_findBeginnings 31 = .ok (.iload_n 2, 1) := by decide +kernel
theorem dX12_findBeginnings_32 : decode cX12_findBeginnings 32 = .ok (.aload_n 0, 1) := by decide +kernel
theorem dX12_findBeginnings_33 : decode cX12_findBeginnings 33 = .ok (.getfield 13, 3) := by decide +kernel
theorem dX12_findBeginnings_36 : decode cX12_findBeginnings 36 = .ok (.iload_n 1, 1) := by decide +kernel
theorem dX12_findBeginnings_37 : decode cX12_findBeginnings 37 = .ok (.iaload, 1) := by decide +kernel
theorem dX12_findBeginnings_38 : decode cX12_findBeginnings 38 = .ok (.if_icmp .ge 68, 3) := by decide +kernel
theorem dX12_findBeginnings_41 : decode cX12_findBeginnings 41 = .ok (.aload_n 0, 1) := by decide +kernel
theorem dX12_findBeginnings_42 : decode cX12_findBeginnings 42 = .ok (.getfield 16, 3) := by decide +kernel
theorem dX12_findBeginnings_45 : decode cX12_findBeginnings 45 = .ok (.iload_n 1, 1) := by decide +kernel
theorem dX12_findBeginnings_46 : decode cX12_findBeginnings 46 = .ok (.iaload, 1) := by decide +kernel
theorem dX12_findBeginnings_47 : decode cX12_findBeginnings 47 = .ok (.aload_n 0, 1) := by decide +kernel
theorem dX12_findBeginnings_48 : decode cX12_findBeginnings 48 = .ok (.getfield 13, 3) := by decide +kernel
theorem dX12_findBeginnings_51 : decode cX12_findBeginnings 51 = .ok (.iload_n 1, 1) := by decide +kernel
theorem dX12_findBeginnings_52 : decode cX12_findBeginnings 52 = .ok (.iaload, 1) := by decide +kernel
theorem dX12_findBeginnings_53 : decode cX12_findBeginnings 53 = .ok (.iload_n 2, 1) := by decide +kernel
theorem dX12_findBeginnings_54 : decode cX12_findBeginnings 54 = .ok (.isub, 1) := by decide +kernel
theorem dX12_findBeginnings_55 : decode cX12_findBeginnings 55 = .ok (.ishr, 1) := by decide +kernel
theorem dX12_findBeginnings_56 : decode cX12_findBeginnings 56 = .ok (.istore_n 3, 1) := by decide +kernel
theorem dX12_findBeginnings_57 : decode cX12_findBeginnings 57 = .ok (.aload_n 0, 1) := by decide +kernel
theorem dX12_findBeginnings_58 : decode cX12_findBeginnings 58 = .ok (.iload_n 3, 1) := by decide +kernel
theorem dX12_findBeginnings_59 : decode cX12_findBeginnings 59 = .ok (.iload_n 2, 1) := by decide +kernel
theorem dX12_findBeginnings_60 : decode cX12_findBeginnings 60 = .ok (.invokevirtual 224, 3) := by decide +kernel
theorem dX12_findBeginnings_63 : decode cX12_findBeginnings 63 = .ok (.aload_n 0, 1) := by decide +kernel
theorem dX12_findBeginnings_64 : decode cX12_findBeginnings 64 = .ok (.getfield 221, 3) := by decide +kernel
theorem dX12_findBeginnings_67 : decode cX12_findBeginnings 67 = .ok (.if_icmp .ne 33, 3) := by decide +kernel
theorem dX12_findBeginnings_70 : decode cX12_findBeginnings 70 = .ok (.aload_n 0, 1) := by decide +kernel
theorem dX12_findBeginnings_71 : decode cX12_findBeginnings 71 = .ok (.getfield 72, 3) := by decide +kernel
theorem dX12_findBeginnings_74 : decode cX12_findBeginnings 74 = .ok (.aload_n 0, 1) := by decide +kernel
theorem dX12_findBeginnings_75 : decode cX12_findBeginnings 75 = .ok (.getfield 221, 3) := by decide +kernel
theorem dX12_findBeginnings_78 : decode cX12_findBeginnings 78 = .ok (.iload_n 3, 1) := by decide +kernel
theorem dX12_findBeginnings_79 : decode cX12_findBeginnings 79 = .ok (.iastore, 1) := by decide +kernel
theorem dX12_findBeginnings_80 : decode cX12_findBeginnings 80 = .ok (.aload_n 0, 1) := by decide +kernel
theorem dX12_findBeginnings_81 : decode cX12_findBeginnings 81 = .ok (.getfield 75, 3) := by decide +kernel
theorem dX12_findBeginnings_84 : decode cX12_findBeginnings 84 = .ok (.aload_n 0, 1) := by decide +kernel
theorem dX12_findBeginnings_85 : decode cX12_findBeginnings 85 = .ok (.getfield 221, 3) := by decide +kernel
theorem dX12_findBeginnings_88 : decode cX12_findBeginnings 88 = .ok (.iload_n 2, 1) := by decide +kernel
theorem dX12_findBeginnings_89 : decode cX12_findBeginnings 89 = .ok (.iastore, 1) := by decide +kernel
theorem dX12_findBeginnings_90 : decode cX12_findBeginnings 90 = .ok (.aload_n 0, 1) := by decide +kernel
theorem dX12_findBeginnings_91 : decode cX12_findBeginnings 91 = .ok (.dup, 1) := by decide +kernel
theorem dX12_findBeginnings_92 : decode cX12_findBeginnings 92 = .ok (.getfield 221, 3) := by decide +kernel
theorem dX12_findBeginnings_95 : decode cX12_findBeginnings 95 = .ok (.iconst 1, 1) := by decide +kernel
theorem dX12_findBeginnings_96 : decode cX12_findBeginnings 96 = .ok (.iadd, 1) := by decide +kernel
theorem dX12_findBeginnings_97 : decode cX12_findBeginnings 97 = .ok (.putfield 221, 3) := by decide +kernel
theorem dX12_findBeginnings_100 : decode cX12_findBeginnings 100 = .ok (.iinc 2 1, 3) := by decide +kernel
theorem dX12_findBeginnings_103 : decode cX12_findBeginnings 103 = .ok (.goto (-72), 3) := by decide +kernel
theorem dX12_findBeginnings_106 : decode cX12_findBeginnings 106 = .ok (.iinc 1 1, 3) := by decide +kernel
theorem dX12_findBeginnings_109 : decode cX12_findBeginnings 109 = .ok (.goto (-88), 3) := by decide +kernel
theorem dX12_findBeginnings_112 : decode cX12_findBeginnings 112 = .ok (.iconst 0, 1) := by decide +kernel
theorem dX12_findBeginnings_113 : decode cX12_findBeginnings 113 = .ok (.istore_n 1, 1) := by decide +kernel
theorem dX12_findBeginnings_114 : decode cX12_findBeginnings 114 = .ok (.iload_n 1, 1) := by decide +kernel
theorem dX12_findBeginnings_115 : decode cX12_findBeginnings 115 = .ok (.aload_n 0, 1) := by decide +kernel
theorem dX12_findBeginnings_116 : decode cX12_findBeginnings 116 = .ok (.getfield 221, 3) := by decide +kernel
theorem dX12_findBeginnings_119 : decode cX12_findBeginnings 119 = .ok (.if_icmp .ge 76, 3) := by decide +kernel
theorem dX12_findBeginnings_122 : decode cX12_findBeginnings 122 = .ok (.iconst 0, 1) := by decide +kernel
theorem dX12_findBeginnings_123 : decode cX12_findBeginnings 123 = .ok (.istore_n 2, 1) := by decide +kernel
theorem dX12_findBeginnings_124 : decode cX12_findBeginnings 124 = .ok (.iload_n 2, 1) := by decide +kernel
theorem dX12_findBeginnings_125 : decode cX12_findBeginnings 125 = .ok (.iconst 2, 1) := by decide +kernel
theorem dX12_findBeginnings_126 : decode cX12_findBeginnings 126 = .ok (.if_icmp .ge 63, 3) := by decide +kernel
theorem dX12_findBeginnings_129 : decode cX12_findBeginnings 129 = .ok (.iconst 2, 1) := by decide +kernel
theorem dX12_findBeginnings_130 : decode cX12_findBeginnings 130 = .ok (.aload_n 0, 1) := by decide +kernel
theorem dX12_findBeginnings_131 : decode cX12_findBeginnings 131 = .ok (.getfield 72, 3) := by decide +kernel
theorem dX12_findBeginnings_134 : decode cX12_findBeginnings 134 = .ok (.iload_n 1, 1) := by decide +kernel
theorem dX12_findBeginnings_135 : decode cX12_findBeginnings 135 = .ok (.iaload, 1) := by decide +kernel
theorem dX12_findBeginnings_136 : decode cX12_findBeginnings 136 = .ok (.imul, 1) := by decide +kernel
theorem dX12_findBeginnings_137 : decode cX12_findBeginnings 137 = .ok (.iload_n 2, 1) := by decide +kernel
theorem dX12_findBeginnings_138 : decode cX12_findBeginnings 138 = .ok (.iadd, 1) := by decide +kernel
theorem dX12_findBeginnings_139 : decode cX12_findBeginnings 139 = .ok (.istore_n 3, 1) := by decide +kernel
theorem dX12_findBeginnings_140 : decode cX12_findBeginnings 140 = .ok (.aload_n 0, 1) := by decide +kernel
theorem dX12_findBeginnings_141 : decode cX12_findBeginnings 141 = .ok (.getfield 78, 3) := by decide +kernel
theorem dX12_findBeginnings_144 : decode cX12_findBeginnings 144 = .ok (.iconst 2, 1) := by decide +kernel
theorem dX12_findBeginnings_145 : decode cX12_findBeginnings 145 = .ok (.iload_n 1, 1) := by decide +kernel
theorem dX12_findBeginnings_146 : decode cX12_findBeginnings 146 = .ok (.imul, 1) := by decide +kernel
theorem dX12_findBeginnings_147 : decode cX12_findBeginnings 147 = .ok (.iload_n 2, 1) := by decide +kernel
theorem dX12_findBeginnings_148 : decode cX12_findBeginnings 148 = .ok (.iadd, 1) := by decide +kernel
theorem dX12_findBeginnings_149 : decode cX12_findBeginnings 149 = .ok (.aload_n 0, 1) := by decide +kernel
theorem dX12_findBeginnings_150 : decode cX12_findBeginnings 150 = .ok (.iload_n 3, 1) := by decide +kernel
theorem dX12_findBeginnings_151 : decode cX12_findBeginnings 151 = .ok (.aload_n 0, 1) := by decide +kernel
theorem dX12_findBeginnings_152 : decode cX12_findBeginnings 152 = .ok (.getfield 75, 3) := by decide +kernel
theorem dX12_findBeginnings_155 : decode cX12_findBeginnings 155 = .ok (.iload_n 1, 1) := by decide +kernel
theorem dX12_findBeginnings_156 : decode cX12_findBeginnings 156 = .ok (.iaload, 1) := by decide +kernel
theorem dX12_findBeginnings_157 : decode cX12_findBeginnings 157 = .ok (.iconst 1, 1) := by decide +kernel
theorem dX12_findBeginnings_158 : decode cX12_findBeginnings 158 = .ok (.iadd, 1) := by decide +kernel
theorem dX12_findBeginnings_159 : decode cX12_findBeginnings 159 = .ok (.invokevirtual 227, 3) := by decide +kernel
theorem dX12_findBeginnings_162 : decode cX12_findBeginnings 162 = .ok (.ifCond .eq 7, 3) := by decide +kernel
theorem dX12_findBeginnings_165 : decode cX12_findBeginnings 165 = .ok (.iconst 0, 1) := by decide +kernel
theorem dX12_findBeginnings_166 : decode cX12_findBeginnings 166 = .ok (.goto 16, 3) := by decide +kernel
theorem dX12_findBeginnings_169 : decode cX12_findBeginnings 169 = .ok (.aload_n 0, 1) := by decide +kernel
theorem dX12_findBeginnings_170 : decode cX12_findBeginnings 170 = .ok (.iload_n 3, 1) := by decide +kernel
theorem dX12_findBeginnings_171 : decode cX12_findBeginnings 171 = .ok (.aload_n 0, 1) := by decide +kernel
theorem dX12_findBeginnings_172 : decode cX12_findBeginnings 172 = .ok (.getfield 75, 3) := by decide +kernel
theorem dX12_findBeginnings_175 : decode cX12_findBeginnings 175 = .ok (.iload_n 1, 1) := by decide +kernel
theorem dX12_findBeginnings_176 : decode cX12_findBeginnings 176 = .ok (.iaload, 1) := by decide +kernel
theorem dX12_findBeginnings_177 : decode cX12_findBeginnings 177 = .ok (.iconst 1, 1) := by decide +kernel
theorem dX12_findBeginnings_178 : decode cX12_findBeginnings 178 = .ok (.iadd, 1) := by decide +kernel
theorem dX12_findBeginnings_179 : decode cX12_findBeginnings 179 = .ok (.invokevirtual 224, 3) := by decide +kernel
theorem dX12_findBeginnings_182 : decode cX12_findBeginnings 182 = .ok (.iastore, 1) := by decide +kernel
theorem dX12_findBeginnings_183 : decode cX12_findBeginnings 183 = .ok (.iinc 2 1, 3) := by decide +kernel
theorem dX12_findBeginnings_186 : decode cX12_findBeginnings 186 = .ok (.goto (-62), 3) := by decide +kernel
theorem dX12_findBeginnings_189 : decode cX12_findBeginnings 189 = .ok (.iinc 1 1, 3) := by decide +kernel
theorem dX12_findBeginnings_192 : decode cX12_findBeginnings 192 = .ok (.goto (-78), 3) := by decide +kernel
theorem dX12_findBeginnings_195 : decode cX12_findBeginnings 195 = .ok (.return_, 1) := by decide +kernel
theorem dX12_step_0 : decode cX12_step 0 = .ok (.iconst 0, 1) := by decide +kernel
theorem dX12_step_1 : decode cX12_step 1 = .ok (.istore_n 3, 1) := by decide +kernel
theorem dX12_step_2 : decode cX12_step 2 = .ok (.iconst 0, 1) := by decide +kernel
theorem dX12_step_3 : decode cX12_step 3 = .ok (.istore 4, 2) := by decide +kernel
theorem dX12_step_5 : decode cX12_step 5 = .ok (.iload 4, 2) := by decide +kernel
theorem dX12_step_7 : decode cX12_step 7 = .ok (.aload_n 0, 1) := by decide +kernel
theorem dX12_step_8 : decode cX12_step 8 = .ok (.getfield 221, 3) := by decide +kernel
theorem dX12_step_11 : decode cX12_step 11 = .ok (.if_icmp .ge 39, 3) := by decide +kernel
theorem dX12_step_14 : decode cX12_step 14 = .ok (.iload_n 3, 1) := by decide +kernel
theorem dX12_step_15 : decode cX12_step 15 = .ok (.iload_n 1, 1) := by decide +kernel
theorem dX12_step_16 : decode cX12_step 16 = .ok (.iload 4, 2) := by decide +kernel
theorem dX12_step_18 : decode cX12_step 18 = .ok (.ishr, 1) := by decide +kernel
theorem dX12_step_19 : decode cX12_step 19 = .ok (.iconst 1, 1) := by decide +kernel
theorem dX12_step_20 : decode cX12_step 20 = .ok (.iand, 1) := by decide +kernel
theorem dX12_step_21 : decode cX12_step 21 = .ok (.iconst 1, 1) := by decide +kernel
theorem dX12_step_22 : decode cX12_step 22 = .ok (.if_icmp .ne 19, 3) := by decide +kernel
theorem dX12_step_25 : decode cX12_step 25 = .ok (.iconst 1, 1) := by decide +kernel
theorem dX12_step_26 : decode cX12_step 26 = .ok (.aload_n 0, 1) := by decide +kernel
theorem dX12_step_27 : decode cX12_step 27 = .ok (.getfield 78, 3) := by decide +kernel
theorem dX12_step_30 : decode cX12_step 30 = .ok (.iconst 2, 1) := by decide +kernel
theorem dX12_step_31 : decode cX12_step 31 = .ok (.iload 4, 2) := by decide +kernel
theorem dX12_step_33 : decode cX12_step 33 = .ok (.imul, 1) := by decide +kernel
theorem dX12_step_34 : decode cX12_step 34 = .ok (.iload_n 2, 1) := by decide +kernel
theorem dX12_step_35 : decode cX12_step 35 = .ok (.iadd, 1) := by decide +kernel
theorem dX12_step_36 : decode cX12_step 36 = .ok (.iaload, 1) := by decide +kernel
theorem dX12_step_37 : decode cX12_step 37 = .ok (.ishl, 1) := by decide +kernel
theorem dX12_step_38 : decode cX12_step 38 = .ok (.goto 4, 3) := by decide +kernel
theorem dX12_step_41 : decode cX12_step 41 = .ok (.iconst 0, 1) := by decide +kernel
theorem dX12_step_42 : decode cX12_step 42 = .ok (.ior, 1) := by decide +kernel
theorem dX12_step_43 : decode cX12_step 43 = .ok (.istore_n 3, 1) := by decide +kernel
theorem dX12_step_44 : decode cX12_step 44 = .ok (.iinc 4 1, 3) := by decide +kernel
theorem dX12_step_47 : decode cX12_step 47 = .ok (.goto (-42), 3) := by decide +kernel
theorem dX12_step_50 : decode cX12_step 50 = .ok (.iload_n 3, 1) := by decide +kernel
theorem dX12_step_51 : decode cX12_step 51 = .ok (.ireturn, 1) := by decide +kernel
set_option maxRecDepth 20000 in
theorem ggX12_key_X12_codesThere : GoodIn wsX12_key wsX12_codesThere := goodIn_r _ [12, 13, 14, 47, 48, 49, 50, 51, 52, 53, 54, 55, 56, 57, 58, 59, 60, 61, 62, 63, 64, 65, 66, 67, 68, 69, 70, 71, 72, 73, 74, 75, 76, 77, 78, 79, 80, 81, 82, 83, 84, 85] (by decide +kernel) (by decide +kernel)
set_option maxRecDepth 20000 in
theorem gX12_key_X12_codesThere : GoodIn wsX12_key (wsV RX12 172 RX12 yX12_codesThere wsX12_codesThere) := goodIn_app (goodIn_of _ (by decide +kernel)) ggX12_key_X12_codesThere
set_option maxRecDepth 20000 in
theorem ggX12_key_X12_sumOf : GoodIn wsX12_key wsX12_sumOf := goodIn_r _ [18, 13, 3, 14, 47, 48, 49, 50, 51, 52, 53, 54, 55, 56, 57, 58, 59, 60, 61, 62, 63, 64, 65, 66, 67, 68, 69, 70, 71, 72, 73, 74, 75, 76, 77, 78, 79, 80, 81, 82, 83, 84, 85] (by decide +kernel) (by decide +kernel)
set_option maxRecDepth 20000 in
theorem gX12_key_X12_sumOf : GoodIn wsX12_key (wsV RX12 175 RX12 yX12_sumOf wsX12_sumOf) := goodIn_app (goodIn_of _ (by decide +kernel)) ggX12_key_X12_sumOf
set_option maxRecDepth 20000 in
theorem ggX12_key_X12_within : GoodIn wsX12_key wsX12_within := goodIn_r _ [21] (by decide +kernel) (by decide +kernel)
set_option maxRecDepth 20000 in
theorem gX12_key_X12_within : GoodIn wsX12_key (va_wsS RX12 99 yX12_within wsX12_within) := goodIn_app (goodIn_of _ (by decide +kernel)) ggX12_key_X12_within
set_option maxRecDepth 20000 in
theorem ggX12_key_X12_findBeginnings : GoodIn wsX12_key wsX12_findBeginnings := goodIn_r _ [25, 5, 26, 27, 13, 14, 28, 29, 30, 31, 32, 11, 33, 34, 35, 36, 37, 47, 48, 49, 50, 51, 52, 53, 54, 55, 56, 57, 58, 59, 60, 61, 62, 63, 64, 65, 66, 67, 68, 69, 70, 71, 72, 73, 74, 75, 76, 77, 78, 79, 80, 81, 82, 83, 84, 85] (by decide +kernel) (by decide +kernel)
set_option maxRecDepth 20000 in
theorem gX12_key_X12_findBeginnings : GoodIn wsX12_key (wsV RX12 234 RX12 yX12_findBeginnings wsX12_findBeginnings) := goodIn_app (goodIn_of _ (by decide +kernel)) ggX12_key_X12_findBeginnings
set_option maxRecDepth 20000 in
theorem ggX12_key_X12_step : GoodIn wsX12_key wsX12_step := goodIn_r _ [41, 5, 29, 47, 48, 49, 50, 51, 52, 53, 54, 55, 56, 57, 58, 59, 60, 61, 62, 63, 64, 65, 66, 67, 68, 69, 70, 71, 72, 73, 74, 75, 76, 77, 78, 79, 80, 81, 82, 83, 84, 85] (by decide +kernel) (by decide +kernel)
set_option maxRecDepth 20000 in
theorem gX12_key_X12_step : GoodIn wsX12_key (wsV RX12 237 RX12 yX12_step wsX12_step) := goodIn_app (goodIn_of _ (by decide +kernel)) ggX12_key_X12_step
set_option maxRecDepth 20000 in
theorem ggX12_key_X12_tellKey : GoodIn wsX12_key wsX12_tellKey := goodIn_r _ [45, 4, 1, 46, 7, 47, 48, 49, 50, 51, 52, 53, 54, 55, 56, 57, 58, 59, 60, 61, 62, 63, 64, 65, 66, 67, 68, 69, 70, 71, 72, 73, 74, 75, 76, 77, 78, 79, 80, 81, 82, 83, 84, 85] (by decide +kernel) (by decide +kernel)
set_option maxRecDepth 20000 in
theorem gX12_key_X12_tellKey : GoodIn wsX12_key (wsV RX12 240 RX12 yX12_tellKey wsX12_tellKey) := goodIn_app (goodIn_of _ (by decide +kernel)) ggX12_key_X12_tellKey
theorem dX12_key_0 : decode cX12_key 0 = .ok (.aload_n 0, 1) := by decide +kernel
theorem dX12_key_1 : decode cX12_key 1 = .ok (.iconst 0, 1) := by decide +kernel
theorem dX12_key_2 : decode cX12_key 2 = .ok (.putfield 231, 3) := by decide +kernel
theorem dX12_key_5 : decode cX12_key 5 = .ok (.aload_n 0, 1) := by decide +kernel
theorem dX12_key_6 : decode cX12_key 6 = .ok (.invokevirtual 172, 3) := by decide +kernel
theorem dX12_key_9 : decode cX12_key 9 = .ok (.istore_n 1, 1) := by decide +kernel
theorem dX12_key_10 : decode cX12_key 10 = .ok (.aload_n 0, 1) := by decide +kernel
theorem dX12_key_11 : decode cX12_key 11 = .ok (.getfield 164, 3) := by decide +kernel
theorem dX12_key_14 : decode cX12_key 14 = .ok (.ifCond .eq 22, 3) := by decide +kernel
theorem dX12_key_17 : decode cX12_key 17 = .ok (.aload_n 0, 1) := by decide +kernel
theorem dX12_key_18 : decode cX12_key 18 = .ok (.invokevirtual 175, 3) := by decide +kernel
theorem dX12_key_21 : decode cX12_key 21 = .ok (.ldc 171, 2) := by decide +kernel
theorem dX12_key_23 : decode cX12_key 23 = .ok (.if_icmp .ne 13, 3) := by decide +kernel
theorem dX12_key_26 : decode cX12_key 26 = .ok (.iload_n 1, 1) := by decide +kernel
theorem dX12_key_27 : decode cX12_key 27 = .ok (.iconst 2, 1) := by decide +kernel
theorem dX12_key_28 : decode cX12_key 28 = .ok (.bipush 11, 2) := by decide +kernel
theorem dX12_key_30 : decode cX12_key 30 = .ok (.invokestatic 99, 3) := by decide +kernel
theorem dX12_key_33 : decode cX12_key 33 = .ok (.ifCond .ne 5, 3) := by decide +kernel
theorem dX12_key_36 : decode cX12_key 36 = .ok (.iconst (-1), 1) := by decide +kernel
theorem dX12_key_37 : decode cX12_key 37 = .ok (.ireturn, 1) := by decide +kernel
theorem dX12_key_38 : decode cX12_key 38 = .ok (.aload_n 0, 1) := by decide +kernel
theorem dX12_key_39 : decode cX12_key 39 = .ok (.invokevirtual 234, 3) := by decide +kernel
theorem dX12_key_42 : decode cX12_key 42 = .ok (.iconst 0, 1) := by decide +kernel
theorem dX12_key_43 : decode cX12_key 43 = .ok (.istore_n 2, 1) := by decide +kernel
theorem dX12_key_44 : decode cX12_key 44 = .ok (.iload_n 2, 1) := by decide +kernel
theorem dX12_key_45 : decode cX12_key 45 = .ok (.sipush 1024, 3) := by decide +kernel
theorem dX12_key_48 : decode cX12_key 48 = .ok (.if_icmp .ge 17, 3) := by decide +kernel
theorem dX12_key_51 : decode cX12_key 51 = .ok (.aload_n 0, 1) := by decide +kernel
theorem dX12_key_52 : decode cX12_key 52 = .ok (.getfield 81, 3) := by decide +kernel
theorem dX12_key_55 : decode cX12_key 55 = .ok (.iload_n 2, 1) := by decide +kernel
theorem dX12_key_56 : decode cX12_key 56 = .ok (.bipush (-2), 2) := by decide +kernel
theorem dX12_key_58 : decode cX12_key 58 = .ok (.iastore, 1) := by decide +kernel
theorem dX12_key_59 : decode cX12_key 59 = .ok (.iinc 2 1, 3) := by decide +kernel
theorem dX12_key_62 : decode cX12_key 62 = .ok (.goto (-18), 3) := by decide +kernel
theorem dX12_key_65 : decode cX12_key 65 = .ok (.iconst 1, 1) := by decide +kernel
theorem dX12_key_66 : decode cX12_key 66 = .ok (.aload_n 0, 1) := by decide +kernel
theorem dX12_key_67 : decode cX12_key 67 = .ok (.getfield 221, 3) := by decide +kernel
theorem dX12_key_70 : decode cX12_key 70 = .ok (.ishl, 1) := by decide +kernel
theorem dX12_key_71 : decode cX12_key 71 = .ok (.iconst 1, 1) := by decide +kernel
theorem dX12_key_72 : decode cX12_key 72 = .ok (.isub, 1) := by decide +kernel
theorem dX12_key_73 : decode cX12_key 73 = .ok (.istore_n 2, 1) := by decide +kernel
theorem dX12_key_74 : decode cX12_key 74 = .ok (.aload_n 0, 1) := by decide +kernel
theorem dX12_key_75 : decode cX12_key 75 = .ok (.getfield 87, 3) := by decide +kernel
theorem dX12_key_78 : decode cX12_key 78 = .ok (.iconst 0, 1) := by decide +kernel
theorem dX12_key_79 : decode cX12_key 79 = .ok (.iload_n 2, 1) := by decide +kernel
theorem dX12_key_80 : decode cX12_key 80 = .ok (.iastore, 1) := by decide +kernel
theorem dX12_key_81 : decode cX12_key 81 = .ok (.aload_n 0, 1) := by decide +kernel
theorem dX12_key_82 : decode cX12_key 82 = .ok (.getfield 81, 3) := by decide +kernel
theorem dX12_key_85 : decode cX12_key 85 = .ok (.iload_n 2, 1) := by decide +kernel
theorem dX12_key_86 : decode cX12_key 86 = .ok (.iconst (-1), 1) := by decide +kernel
theorem dX12_key_87 : decode cX12_key 87 = .ok (.iastore, 1) := by decide +kernel
theorem dX12_key_88 : decode cX12_key 88 = .ok (.iconst 1, 1) := by decide +kernel
theorem dX12_key_89 : decode cX12_key 89 = .ok (.istore_n 3, 1) := by decide +kernel
theorem dX12_key_90 : decode cX12_key 90 = .ok (.iconst 0, 1) := by decide +kernel
theorem dX12_key_91 : decode cX12_key 91 = .ok (.istore 4, 2) := by decide +kernel
theorem dX12_key_93 : decode cX12_key 93 = .ok (.iload 4, 2) := by decide +kernel
theorem dX12_key_95 : decode cX12_key 95 = .ok (.iload_n 3, 1) := by decide +kernel
theorem dX12_key_96 : decode cX12_key 96 = .ok (.if_icmp .ge 110, 3) := by decide +kernel
theorem dX12_key_99 : decode cX12_key 99 = .ok (.iconst 0, 1) := by decide +kernel
theorem dX12_key_100 : decode cX12_key 100 = .ok (.istore 5, 2) := by decide +kernel
theorem dX12_key_102 : decode cX12_key 102 = .ok (.iload 5, 2) := by decide +kernel
theorem dX12_key_104 : decode cX12_key 104 = .ok (.iconst 2, 1) := by decide +kernel
theorem dX12_key_105 : decode cX12_key 105 = .ok (.if_icmp .ge 95, 3) := by decide +kernel
theorem dX12_key_108 : decode cX12_key 108 = .ok (.aload_n 0, 1) := by decide +kernel
theorem dX12_key_109 : decode cX12_key 109 = .ok (.aload_n 0, 1) := by decide +kernel
theorem dX12_key_110 : decode cX12_key 110 = .ok (.getfield 87, 3) := by decide +kernel
theorem dX12_key_113 : decode cX12_key 113 = .ok (.iload 4, 2) := by decide +kernel
theorem dX12_key_115 : decode cX12_key 115 = .ok (.iaload, 1) := by decide +kernel
theorem dX12_key_116 : decode cX12_key 116 = .ok (.iload 5, 2) := by decide +kernel
theorem dX12_key_118 : decode cX12_key 118 = .ok (.invokevirtual 237, 3) := by decide +kernel
theorem dX12_key_121 : decode cX12_key 121 = .ok (.istore 6, 2) := by decide +kernel
theorem dX12_key_123 : decode cX12_key 123 = .ok (.iload 6, 2) := by decide +kernel
theorem dX12_key_125 : decode cX12_key 125 = .ok (.iconst 1, 1) := by decide +kernel
theorem dX12_key_126 : decode cX12_key 126 = .ok (.if_icmp .ne 22, 3) := by decide +kernel
theorem dX12_key_129 : decode cX12_key 129 = .ok (.aload_n 0, 1) := by decide +kernel
theorem dX12_key_130 : decode cX12_key 130 = .ok (.aload_n 0, 1) := by decide +kernel
theorem dX12_key_131 : decode cX12_key 131 = .ok (.getfield 87, 3) := by decide +kernel
theorem dX12_key_134 : decode cX12_key 134 = .ok (.iload 4, 2) := by decide +kernel
theorem dX12_key_136 : decode cX12_key 136 = .ok (.iaload, 1) := by decide +kernel
theorem dX12_key_137 : decode cX12_key 137 = .ok (.iload 5, 2) := by decide +kernel
theorem dX12_key_139 : decode cX12_key 139 = .ok (.iload_n 2, 1) := by decide +kernel
theorem dX12_key_140 : decode cX12_key 140 = .ok (.invokevirtual 240, 3) := by decide +kernel
theorem dX12_key_143 : decode cX12_key 143 = .ok (.aload_n 0, 1) := by decide +kernel
theorem dX12_key_144 : decode cX12_key 144 = .ok (.getfield 231, 3) := by decide +kernel
theorem dX12_key_147 : decode cX12_key 147 = .ok (.ireturn, 1) := by decide +kernel
theorem dX12_key_148 : decode cX12_key 148 = .ok (.aload_n 0, 1) := by decide +kernel
theorem dX12_key_149 : decode cX12_key 149 = .ok (.getfield 81, 3) := by decide +kernel
theorem dX12_key_152 : decode cX12_key 152 = .ok (.iload 6, 2) := by decide +kernel
theorem dX12_key_154 : decode cX12_key 154 = .ok (.iaload, 1) := by decide +kernel
theorem dX12_key_155 : decode cX12_key 155 = .ok (.bipush (-2), 2) := by decide +kernel
theorem dX12_key_157 : decode cX12_key 157 = .ok (.if_icmp .ne 37, 3) := by decide +kernel
theorem dX12_key_160 : decode cX12_key 160 = .ok (.aload_n 0, 1) := by decide +kernel
theorem dX12_key_161 : decode cX12_key 161 = .ok (.getfield 81, 3) := by decide +kernel
theorem dX12_key_164 : decode cX12_key 164 = .ok (.iload 6, 2) := by decide +kernel
theorem dX12_key_166 : decode cX12_key 166 = .ok (.aload_n 0, 1) := by decide +kernel
theorem dX12_key_167 : decode cX12_key 167 = .ok (.getfield 87, 3) := by decide +kernel
theorem dX12_key_170 : decode cX12_key 170 = .ok (.iload 4, 2) := by decide +kernel
theorem dX12_key_172 : decode cX12_key 172 = .ok (.iaload, 1) := by decide +kernel
theorem dX12_key_173 : decode cX12_key 173 = .ok (.iastore, 1) := by decide +kernel
theorem dX12_key_174 : decode cX12_key 174 = .ok (.aload_n 0, 1) := by decide +kernel
theorem dX12_key_175 : decode cX12_key 175 = .ok (.getfield 84, 3) := by decide +kernel
theorem dX12_key_178 : decode cX12_key 178 = .ok (.iload 6, 2) := by decide +kernel
theorem dX12_key_180 : decode cX12_key 180 = .ok (.iload 5, 2) := by decide +kernel
theorem dX12_key_182 : decode cX12_key 182 = .ok (.iastore, 1) := by decide +kernel
theorem dX12_key_183 : decode cX12_key 183 = .ok (.aload_n 0, 1) := by decide +kernel
theorem dX12_key_184 : decode cX12_key 184 = .ok (.getfield 87, 3) := by decide +kernel
theorem dX12_key_187 : decode cX12_key 187 = .ok (.iload_n 3, 1) := by decide +kernel
theorem dX12_key_188 : decode cX12_key 188 = .ok (.iload 6, 2) := by decide +kernel
theorem dX12_key_190 : decode cX12_key 190 = .ok (.iastore, 1) := by decide +kernel
theorem dX12_key_191 : decode cX12_key 191 = .ok (.iinc 3 1, 3) := by decide +kernel
theorem dX12_key_194 : decode cX12_key 194 = .ok (.iinc 5 1, 3) := by decide +kernel
theorem dX12_key_197 : decode cX12_key 197 = .ok (.goto (-95), 3) := by decide +kernel
theorem dX12_key_200 : decode cX12_key 200 = .ok (.iinc 4 1, 3) := by decide +kernel
theorem dX12_key_203 : decode cX12_key 203 = .ok (.goto (-110), 3) := by decide +kernel
theorem dX12_key_206 : decode cX12_key 206 = .ok (.iconst 0, 1) := by decide +kernel
theorem dX12_key_207 : decode cX12_key 207 = .ok (.ireturn, 1) := by decide +kernel
theorem dX12_tellKey_0 : decode cX12_tellKey 0 = .ok (.iconst 1, 1) := by decide +kernel
theorem dX12_tellKey_1 : decode cX12_tellKey 1 = .ok (.istore 4, 2) := by decide +kernel
theorem dX12_tellKey_3 : decode cX12_tellKey 3 = .ok (.iload_n 1, 1) := by decide +kernel
theorem dX12_tellKey_4 : decode cX12_tellKey 4 = .ok (.istore 5, 2) := by decide +kernel
theorem dX12_tellKey_6 : decode cX12_tellKey 6 = .ok (.iload 5, 2) := by decide +kernel
theorem dX12_tellKey_8 : decode cX12_tellKey 8 = .ok (.iload_n 3, 1) := by decide +kernel
theorem dX12_tellKey_9 : decode cX12_tellKey 9 = .ok (.if_icmp .eq 18, 3) := by decide +kernel
theorem dX12_tellKey_12 : decode cX12_tellKey 12 = .ok (.iinc 4 1, 3) := by decide +kernel
theorem dX12_tellKey_15 : decode cX12_tellKey 15 = .ok (.aload_n 0, 1) := by decide +kernel
theorem dX12_tellKey_16 : decode cX12_tellKey 16 = .ok (.getfield 81, 3) := by decide +kernel
theorem dX12_tellKey_19 : decode cX12_tellKey 19 = .ok (.iload 5, 2) := by decide +kernel
theorem dX12_tellKey_21 : decode cX12_tellKey 21 = .ok (.iaload, 1) := by decide +kernel
theorem dX12_tellKey_22 : decode cX12_tellKey 22 = .ok (.istore 5, 2) := by decide +kernel
theorem dX12_tellKey_24 : decode cX12_tellKey 24 = .ok (.goto (-18), 3) := by decide +kernel
theorem dX12_tellKey_27 : decode cX12_tellKey 27 = .ok (.aload_n 0, 1) := by decide +kernel
theorem dX12_tellKey_28 : decode cX12_tellKey 28 = .ok (.iload 4, 2) := by decide +kernel
theorem dX12_tellKey_30 : decode cX12_tellKey 30 = .ok (.putfield 231, 3) := by decide +kernel
theorem dX12_tellKey_33 : decode cX12_tellKey 33 = .ok (.aload_n 0, 1) := by decide +kernel
theorem dX12_tellKey_34 : decode cX12_tellKey 34 = .ok (.getfield 90, 3) := by decide +kernel
theorem dX12_tellKey_37 : decode cX12_tellKey 37 = .ok (.iload 4, 2) := by decide +kernel
theorem dX12_tellKey_39 : decode cX12_tellKey 39 = .ok (.iconst 1, 1) := by decide +kernel
theorem dX12_tellKey_40 : decode cX12_tellKey 40 = .ok (.isub, 1) := by decide +kernel
theorem dX12_tellKey_41 : decode cX12_tellKey 41 = .ok (.iload_n 2, 1) := by decide +kernel
theorem dX12_tellKey_42 : decode cX12_tellKey 42 = .ok (.iastore, 1) := by decide +kernel
theorem dX12_tellKey_43 : decode cX12_tellKey 43 = .ok (.iload 4, 2) := by decide +kernel
theorem dX12_tellKey_45 : decode cX12_tellKey 45 = .ok (.iconst 2, 1) := by decide +kernel
theorem dX12_tellKey_46 : decode cX12_tellKey 46 = .ok (.isub, 1) := by decide +kernel
theorem dX12_tellKey_47 : decode cX12_tellKey 47 = .ok (.istore 5, 2) := by decide +kernel
theorem dX12_tellKey_49 : decode cX12_tellKey 49 = .ok (.iload_n 1, 1) := by decide +kernel
theorem dX12_tellKey_50 : decode cX12_tellKey 50 = .ok (.istore 6, 2) := by decide +kernel
theorem dX12_tellKey_52 : decode cX12_tellKey 52 = .ok (.iload 6, 2) := by decide +kernel
theorem dX12_tellKey_54 : decode cX12_tellKey 54 = .ok (.iload_n 3, 1) := by decide +kernel
theorem dX12_tellKey_55 : decode cX12_tellKey 55 = .ok (.if_icmp .eq 32, 3) := by decide +kernel
theorem dX12_tellKey_58 : decode cX12_tellKey 58 = .ok (.aload_n 0, 1) := by decide +kernel
theorem dX12_tellKey_59 : decode cX12_tellKey 59 = .ok (.getfield 90, 3) := by decide +kernel
theorem dX12_tellKey_62 : decode cX12_tellKey 62 = .ok (.iload 5, 2) := by decide +kernel
theorem dX12_tellKey_64 : decode cX12_tellKey 64 = .ok (.aload_n 0, 1) := by decide +kernel
theorem dX12_tellKey_65 : decode cX12_tellKey 65 = .ok (.getfield 84, 3) := by decide +kernel
theorem dX12_tellKey_68 : decode cX12_tellKey 68 = .ok (.iload 6, 2) := by decide +kernel
theorem dX12_tellKey_70 : decode cX12_tellKey 70 = .ok (.iaload, 1) := by decide +kernel
theorem dX12_tellKey_71 : decode cX12_tellKey 71 = .ok (.iastore, 1) := by decide +kernel
theorem dX12_tellKey_72 : decode cX12_tellKey 72 = .ok (.iinc 5 (-1), 3) := by decide +kernel
theorem dX12_tellKey_75 : decode cX12_tellKey 75 = .ok (.aload_n 0, 1) := by decide +kernel
theorem dX12_tellKey_76 : decode cX12_tellKey 76 = .ok (.getfield 81, 3) := by decide +kernel
theorem dX12_tellKey_79 : decode cX12_tellKey 79 = .ok (.iload 6, 2) := by decide +kernel
theorem dX12_tellKey_81 : decode cX12_tellKey 81 = .ok (.iaload, 1) := by decide +kernel
theorem dX12_tellKey_82 : decode cX12_tellKey 82 = .ok (.istore 6, 2) := by decide +kernel
theorem dX12_tellKey_84 : decode cX12_tellKey 84 = .ok (.goto (-32), 3) := by decide +kernel
theorem dX12_tellKey_87 : decode cX12_tellKey 87 = .ok (.return_, 1) := by decide +kernel
set_option maxRecDepth 20000 in
theorem ggX12_keyBit_X12_within : GoodIn wsX12_keyBit wsX12_within := goodIn_r _ [6] (by decide +kernel) (by decide +kernel)
set_option maxRecDepth 20000 in
theorem gX12_keyBit_X12_within : GoodIn wsX12_keyBit (va_wsS RX12 99 yX12_within wsX12_within) := goodIn_app (goodIn_of _ (by decide +kernel)) ggX12_keyBit_X12_within
theorem dX12_keyBit_0 : decode cX12_keyBit 0 = .ok (.iload_n 1, 1) := by decide +kernel
theorem dX12_keyBit_1 : decode cX12_keyBit 1 = .ok (.iconst 0, 1) := by decide +kernel
theorem dX12_keyBit_2 : decode cX12_keyBit 2 = .ok (.aload_n 0, 1) := by decide +kernel
theorem dX12_keyBit_3 : decode cX12_keyBit 3 = .ok (.getfield 231, 3) := by decide +kernel
theorem dX12_keyBit_6 : decode cX12_keyBit 6 = .ok (.iconst 1, 1) := by decide +kernel
theorem dX12_keyBit_7 : decode cX12_keyBit 7 = .ok (.isub, 1) := by decide +kernel
theorem dX12_keyBit_8 : decode cX12_keyBit 8 = .ok (.invokestatic 99, 3) := by decide +kernel
theorem dX12_keyBit_11 : decode cX12_keyBit 11 = .ok (.ifCond .eq 12, 3) := by decide +kernel
theorem dX12_keyBit_14 : decode cX12_keyBit 14 = .ok (.aload_n 0, 1) := by decide +kernel
theorem dX12_keyBit_15 : decode cX12_keyBit 15 = .ok (.getfield 90, 3) := by decide +kernel
theorem dX12_keyBit_18 : decode cX12_keyBit 18 = .ok (.iload_n 1, 1) := by decide +kernel
theorem dX12_keyBit_19 : decode cX12_keyBit 19 = .ok (.iaload, 1) := by decide +kernel
theorem dX12_keyBit_20 : decode cX12_keyBit 20 = .ok (.goto 4, 3) := by decide +kernel
theorem dX12_keyBit_23 : decode cX12_keyBit 23 = .ok (.iconst (-1), 1) := by decide +kernel
theorem dX12_keyBit_24 : decode cX12_keyBit 24 = .ok (.ireturn, 1) := by decide +kernel
set_option maxRecDepth 20000 in
theorem ggX12_told_X12_countOf : GoodIn wsX12_told wsX12_countOf := goodIn_r _ [13, 3, 14, 24, 25, 26, 27, 28, 29, 30, 31, 32, 33, 34, 35, 36, 37, 38, 39, 40, 41, 42, 43, 44, 45, 46, 47, 48, 49, 50, 51, 52, 53, 54, 55, 56, 57, 58, 59, 60, 61, 62] (by decide +kernel) (by decide +kernel)
set_option maxRecDepth 20000 in
theorem gX12_told_X12_countOf : GoodIn wsX12_told (wsV RX12 112 RX12 yX12_countOf wsX12_countOf) := goodIn_app (goodIn_of _ (by decide +kernel)) ggX12_told_X12_countOf
set_option maxRecDepth 20000 in
theorem ggX12_told_X12_codesThere : GoodIn wsX12_told wsX12_codesThere := goodIn_r _ [18, 1, 19, 24, 25, 26, 27, 28, 29, 30, 31, 32, 33, 34, 35, 36, 37, 38, 39, 40, 41, 42, 43, 44, 45, 46, 47, 48, 49, 50, 51, 52, 53, 54, 55, 56, 57, 58, 59, 60, 61, 62] (by decide +kernel) (by decide +kernel)
set_option maxRecDepth 20000 in
theorem gX12_told_X12_codesThere : GoodIn wsX12_told (wsV RX12 172 RX12 yX12_codesThere wsX12_codesThere) := goodIn_app (goodIn_of _ (by decide +kernel)) ggX12_told_X12_codesThere
set_option maxRecDepth 20000 in
theorem ggX12_told_X12_sumOf : GoodIn wsX12_told wsX12_sumOf := goodIn_r _ [23, 1, 7, 19, 24, 25, 26, 27, 28, 29, 30, 31, 32, 33, 34, 35, 36, 37, 38, 39, 40, 41, 42, 43, 44, 45, 46, 47, 48, 49, 50, 51, 52, 53, 54, 55, 56, 57, 58, 59, 60, 61, 62] (by decide +kernel) (by decide +kernel)
set_option maxRecDepth 20000 in
theorem gX12_told_X12_sumOf : GoodIn wsX12_told (wsV RX12 175 RX12 yX12_sumOf wsX12_sumOf) := goodIn_app (goodIn_of _ (by decide +kernel)) ggX12_told_X12_sumOf
theorem dX12_told_0 : decode cX12_told 0 = .ok (.iload_n 1, 1) := by decide +kernel
theorem dX12_told_1 : decode cX12_told 1 = .ok (.tableswitch 169 0 9 #[55, 60, 65, 70, 106, 111, 116, 121, 134, 156], 55) := by decide +kernel
theorem dX12_told_56 : decode cX12_told 56 = .ok (.aload_n 0, 1) := by decide +kernel
theorem dX12_told_57 : decode cX12_told 57 = .ok (.getfield 93, 3) := by decide +kernel
theorem dX12_told_60 : decode cX12_told 60 = .ok (.ireturn, 1) := by decide +kernel
theorem dX12_told_61 : decode cX12_told 61 = .ok (.aload_n 0, 1) := by decide +kernel
theorem dX12_told_62 : decode cX12_told 62 = .ok (.getfield 96, 3) := by decide +kernel
theorem dX12_told_65 : decode cX12_told 65 = .ok (.ireturn, 1) := by decide +kernel
theorem dX12_told_66 : decode cX12_told 66 = .ok (.aload_n 0, 1) := by decide +kernel
theorem dX12_told_67 : decode cX12_told 67 = .ok (.getfield 107, 3) := by decide +kernel
theorem dX12_told_70 : decode cX12_told 70 = .ok (.ireturn, 1) := by decide +kernel
theorem dX12_told_71 : decode cX12_told 71 = .ok (.iconst 0, 1) := by decide +kernel
theorem dX12_told_72 : decode cX12_told 72 = .ok (.istore_n 2, 1) := by decide +kernel
theorem dX12_told_73 : decode cX12_told 73 = .ok (.iconst 0, 1) := by decide +kernel
theorem dX12_told_74 : decode cX12_told 74 = .ok (.istore_n 3, 1) := by decide +kernel
theorem dX12_told_75 : decode cX12_told 75 = .ok (.iload_n 3, 1) := by decide +kernel
theorem dX12_told_76 : decode cX12_told 76 = .ok (.aload_n 0, 1) := by decide +kernel
theorem dX12_told_77 : decode cX12_told 77 = .ok (.getfield 93, 3) := by decide +kernel
theorem dX12_told_80 : decode cX12_told 80 = .ok (.if_icmp .ge 25, 3) := by decide +kernel
theorem dX12_told_83 : decode cX12_told 83 = .ok (.iload_n 2, 1) := by decide +kernel
theorem dX12_told_84 : decode cX12_told 84 = .ok (.aload_n 0, 1) := by decide +kernel
theorem dX12_told_85 : decode cX12_told 85 = .ok (.iload_n 3, 1) := by decide +kernel
theorem dX12_told_86 : decode cX12_told 86 = .ok (.invokevirtual 112, 3) := by decide +kernel
theorem dX12_told_89 : decode cX12_told 89 = .ok (.ifCond .le 7, 3) := by decide +kernel
theorem dX12_told_92 : decode cX12_told 92 = .ok (.iconst 1, 1) := by decide +kernel
theorem dX12_told_93 : decode cX12_told 93 = .ok (.goto 4, 3) := by decide +kernel
theorem dX12_told_96 : decode cX12_told 96 = .ok (.iconst 0, 1) := by decide +kernel
theorem dX12_told_97 : decode cX12_told 97 = .ok (.iadd, 1) := by decide +kernel
theorem dX12_told_98 : decode cX12_told 98 = .ok (.istore_n 2, 1) := by decide +kernel
theorem dX12_told_99 : decode cX12_told 99 = .ok (.iinc 3 1, 3) := by decide +kernel
theorem dX12_told_102 : decode cX12_told 102 = .ok (.goto (-27), 3) := by decide +kernel
theorem dX12_told_105 : decode cX12_told 105 = .ok (.iload_n 2, 1) := by decide +kernel
theorem dX12_told_106 : decode cX12_told 106 = .ok (.ireturn, 1) := by decide +kernel
theorem dX12_told_107 : decode cX12_told 107 = .ok (.aload_n 0, 1) := by decide +kernel
theorem dX12_told_108 : decode cX12_told 108 = .ok (.getfield 178, 3) := by decide +kernel
theorem dX12_told_111 : decode cX12_told 111 = .ok (.ireturn, 1) := by decide +kernel
theorem dX12_told_112 : decode cX12_told 112 = .ok (.aload_n 0, 1) := by decide +kernel
theorem dX12_told_113 : decode cX12_told 113 = .ok (.getfield 197, 3) := by decide +kernel
theorem dX12_told_116 : decode cX12_told 116 = .ok (.ireturn, 1) := by decide +kernel
theorem dX12_told_117 : decode cX12_told 117 = .ok (.aload_n 0, 1) := by decide +kernel
theorem dX12_told_118 : decode cX12_told 118 = .ok (.invokevirtual 172, 3) := by decide +kernel
theorem dX12_told_121 : decode cX12_told 121 = .ok (.ireturn, 1) := by decide +kernel
theorem dX12_told_122 : decode cX12_told 122 = .ok (.aload_n 0, 1) := by decide +kernel
theorem dX12_told_123 : decode cX12_told 123 = .ok (.getfield 164, 3) := by decide +kernel
theorem dX12_told_126 : decode cX12_told 126 = .ok (.ifCond .eq 7, 3) := by decide +kernel
theorem dX12_told_129 : decode cX12_told 129 = .ok (.iconst 1, 1) := by decide +kernel
theorem dX12_told_130 : decode cX12_told 130 = .ok (.goto 4, 3) := by decide +kernel
theorem dX12_told_133 : decode cX12_told 133 = .ok (.iconst 0, 1) := by decide +kernel
theorem dX12_told_134 : decode cX12_told 134 = .ok (.ireturn, 1) := by decide +kernel
theorem dX12_told_135 : decode cX12_told 135 = .ok (.aload_n 0, 1) := by decide +kernel
theorem dX12_told_136 : decode cX12_told 136 = .ok (.getfield 164, 3) := by decide +kernel
theorem dX12_told_139 : decode cX12_told 139 = .ok (.ifCond .eq 16, 3) := by decide +kernel
theorem dX12_told_142 : decode cX12_told 142 = .ok (.aload_n 0, 1) := by decide +kernel
theorem dX12_told_143 : decode cX12_told 143 = .ok (.invokevirtual 175, 3) := by decide +kernel
theorem dX12_told_146 : decode cX12_told 146 = .ok (.ldc 171, 2) := by decide +kernel
theorem dX12_told_148 : decode cX12_told 148 = .ok (.if_icmp .ne 7, 3) := by decide +kernel
theorem dX12_told_151 : decode cX12_told 151 = .ok (.iconst 1, 1) := by decide +kernel
theorem dX12_told_152 : decode cX12_told 152 = .ok (.goto 4, 3) := by decide +kernel
theorem dX12_told_155 : decode cX12_told 155 = .ok (.iconst 0, 1) := by decide +kernel
theorem dX12_told_156 : decode cX12_told 156 = .ok (.ireturn, 1) := by decide +kernel
theorem dX12_told_157 : decode cX12_told 157 = .ok (.aload_n 0, 1) := by decide +kernel
theorem dX12_told_158 : decode cX12_told 158 = .ok (.getfield 160, 3) := by decide +kernel
theorem dX12_told_161 : decode cX12_told 161 = .ok (.ifCond .eq 7, 3) := by decide +kernel
theorem dX12_told_164 : decode cX12_told 164 = .ok (.iconst 1, 1) := by decide +kernel
theorem dX12_told_165 : decode cX12_told 165 = .ok (.goto 4, 3) := by decide +kernel
theorem dX12_told_168 : decode cX12_told 168 = .ok (.iconst 0, 1) := by decide +kernel
theorem dX12_told_169 : decode cX12_told 169 = .ok (.ireturn, 1) := by decide +kernel
theorem dX12_told_170 : decode cX12_told 170 = .ok (.iconst (-1), 1) := by decide +kernel
theorem dX12_told_171 : decode cX12_told 171 = .ok (.ireturn, 1) := by decide +kernel
theorem dJ9_max_7cf53_0 : decode cJ9_max_7cf53 0 = .ok (.iload_n 0, 1) := by decide +kernel
theorem dJ9_max_7cf53_1 : decode cJ9_max_7cf53 1 = .ok (.iload_n 1, 1) := by decide +kernel
theorem dJ9_max_7cf53_2 : decode cJ9_max_7cf53 2 = .ok (.if_icmp .lt 7, 3) := by decide +kernel
theorem dJ9_max_7cf53_5 : decode cJ9_max_7cf53 5 = .ok (.iload_n 0, 1) := by decide +kernel
theorem dJ9_max_7cf53_6 : decode cJ9_max_7cf53 6 = .ok (.goto 4, 3) := by decide +kernel
theorem dJ9_max_7cf53_9 : decode cJ9_max_7cf53 9 = .ok (.iload_n 1, 1) := by decide +kernel
theorem dJ9_max_7cf53_10 : decode cJ9_max_7cf53 10 = .ok (.ireturn, 1) := by decide +kernel
theorem dJ9_min_7cf53_0 : decode cJ9_min_7cf53 0 = .ok (.iload_n 0, 1) := by decide +kernel
theorem dJ9_min_7cf53_1 : decode cJ9_min_7cf53 1 = .ok (.iload_n 1, 1) := by decide +kernel
theorem dJ9_min_7cf53_2 : decode cJ9_min_7cf53 2 = .ok (.if_icmp .gt 7, 3) := by decide +kernel
theorem dJ9_min_7cf53_5 : decode cJ9_min_7cf53 5 = .ok (.iload_n 0, 1) := by decide +kernel
theorem dJ9_min_7cf53_6 : decode cJ9_min_7cf53 6 = .ok (.goto 4, 3) := by decide +kernel
theorem dJ9_min_7cf53_9 : decode cJ9_min_7cf53 9 = .ok (.iload_n 1, 1) := by decide +kernel
theorem dJ9_min_7cf53_10 : decode cJ9_min_7cf53 10 = .ok (.ireturn, 1) := by decide +kernel
theorem dJ7_fill_53178_0 : decode cJ7_fill_53178 0 = .ok (.iconst 0, 1) := by decide +kernel
theorem dJ7_fill_53178_1 : decode cJ7_fill_53178 1 = .ok (.istore_n 2, 1) := by decide +kernel
theorem dJ7_fill_53178_2 : decode cJ7_fill_53178 2 = .ok (.aload_n 0, 1) := by decide +kernel
theorem dJ7_fill_53178_3 : decode cJ7_fill_53178 3 = .ok (.arraylength, 1) := by decide +kernel
theorem dJ7_fill_53178_4 : decode cJ7_fill_53178 4 = .ok (.istore_n 3, 1) := by decide +kernel
theorem dJ7_fill_53178_5 : decode cJ7_fill_53178 5 = .ok (.iload_n 2, 1) := by decide +kernel
theorem dJ7_fill_53178_6 : decode cJ7_fill_53178 6 = .ok (.iload_n 3, 1) := by decide +kernel
theorem dJ7_fill_53178_7 : decode cJ7_fill_53178 7 = .ok (.if_icmp .ge 13, 3) := by decide +kernel
theorem dJ7_fill_53178_10 : decode cJ7_fill_53178 10 = .ok (.aload_n 0, 1) := by decide +kernel
theorem dJ7_fill_53178_11 : decode cJ7_fill_53178 11 = .ok (.iload_n 2, 1) := by decide +kernel
theorem dJ7_fill_53178_12 : decode cJ7_fill_53178 12 = .ok (.iload_n 1, 1) := by decide +kernel
theorem dJ7_fill_53178_13 : decode cJ7_fill_53178 13 = .ok (.iastore, 1) := by decide +kernel
theorem dJ7_fill_53178_14 : decode cJ7_fill_53178 14 = .ok (.iinc 2 1, 3) := by decide +kernel
theorem dJ7_fill_53178_17 : decode cJ7_fill_53178 17 = .ok (.goto (-12), 3) := by decide +kernel
theorem dJ7_fill_53178_20 : decode cJ7_fill_53178 20 = .ok (.return_, 1) := by decide +kernel
abbrev vwCl : List vw_C := [(RX0, TX0, 4), (RX1, TX1, 3), (RX2, TX2, 3), (RX3, TX3, 5), (RX4, TX4, 7), (RX5, TX5, 5), (RX6, TX6, 5), (RX8, TX8, 2), (RX9, TX9, 2), (RX10, TX10, 9), (RX11, TX11, 17), (RX12, TX12, 39)]

